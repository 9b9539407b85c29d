/-! A rule as clauses of tokens (a token is s + 16 * v), and what they reckon on a stack. -/
def bop (s : Nat) (x y : Int64) : Int64 :=
  if s = 2 then x + y else if s = 3 then x - y else if s = 4 then x * y else if s = 5 then (if y = 0 then 0 else x / y) else if s = 6 then (if 0 ≤ lg_cmp x y then 0 else 1) else if s = 7 then (if 0 < lg_cmp x y then 0 else 1) else if s = 8 then (if lg_cmp x y = 0 then 1 else 0) else if s = 9 then (if lg_cmp x y < 0 then 0 else 1) else if s = 10 then (if lg_cmp x y ≤ 0 then 0 else 1) else if s = 12 then x &&& y else if s = 14 then (if y = 0 then 0 else x - x / y * y) else x ||| y
def ev1 (w : Nat → Int64) (t : Nat) (st : List Int64) : List Int64 :=
  if t % 16 = 0 then lN (t / 16) :: st else if t % 16 = 1 then w (t / 16) :: st else if t % 16 = 11 then (if st.headD 0 = 0 then 1 else 0) :: st.tail else bop (t % 16) (st.tail.headD 0) (st.headD 0) :: st.tail.tail
def ev (w : Nat → Int64) : List Nat → List Int64 → List Int64
  | [], st => st
  | t :: c, st => ev w c (ev1 w t st)
/-- the kinds on the stack (true: 0 or 1) -/
def ty1 (t : Nat) (s : List Bool) : Option (List Bool) :=
  if t % 16 = 0 ∨ t % 16 = 1 then some (false :: s) else if t % 16 = 11 then (if s.head? = some true then some s else none) else if t % 16 = 12 ∨ t % 16 = 13 then (if s.head? = some true ∧ s.tail.head? = some true then some s.tail else none) else if 2 ≤ s.length then some (decide (6 ≤ t % 16 ∧ t % 16 ≤ 10) :: s.tail.tail) else none
def tyc : List Nat → List Bool → Option (List Bool)
  | [], s => some s
  | t :: c, s => (ty1 t s).bind (tyc c)
def tvs : List Bool → List Int64 → Prop
  | [], [] => True
  | b :: s, v :: st => (b = true → v = 0 ∨ v = 1) ∧ tvs s st
  | _, _ => False
def okT (t : Nat) : Prop := (t % 16 = 0 ∧ t / 16 ≤ 99999) ∨ (t % 16 = 1 ∧ t / 16 < 11) ∨ (2 ≤ t ∧ t ≤ 14)
/-- how many values -/
def nvl : List Nat → Nat
  | [] => 0
  | t :: c => (if t % 16 ≤ 1 then 1 else 0) + nvl c
theorem nvl_app (a b : List Nat) : nvl (a ++ b) = nvl a + nvl b := by
  induction a with
  | nil => simp [nvl]
  | cons t a ih => simp only [List.cons_append, nvl, ih]; omega
theorem tyc_app (a b : List Nat) (s : List Bool) : tyc (a ++ b) s = (tyc a s).bind (tyc b) := by
  induction a generalizing s with
  | nil => rfl
  | cons t a ih =>
    simp only [List.cons_append, tyc]
    cases ty1 t s with
    | none => rfl
    | some s1 => simp only [Option.bind_some]; exact ih s1
theorem ev_app (w : Nat → Int64) (a b : List Nat) (st : List Int64) : ev w (a ++ b) st = ev w b (ev w a st) := by
  induction a generalizing st with
  | nil => rfl
  | cons t a ih => simp only [List.cons_append, ev]; exact ih _
theorem tvs_len : ∀ (s : List Bool) (st : List Int64), tvs s st → st.length = s.length
  | [], [], _ => rfl
  | _ :: s, _ :: st, h => by simp [tvs_len s st h.2]
  | [], _ :: _, h => h.elim
  | _ :: _, [], h => h.elim
theorem bop_cmp {s : Nat} (h1 : 6 ≤ s) (h2 : s ≤ 10) (x y : Int64) : bop s x y = 0 ∨ bop s x y = 1 := by
  unfold bop
  rw [if_neg (show ¬ s = 2 by omega), if_neg (show ¬ s = 3 by omega), if_neg (show ¬ s = 4 by omega), if_neg (show ¬ s = 5 by omega)]
  by_cases e6 : s = 6
  · rw [if_pos e6]
    by_cases q : 0 ≤ lg_cmp x y
    · rw [if_pos q]; simp
    · rw [if_neg q]; simp
  rw [if_neg e6]
  by_cases e7 : s = 7
  · rw [if_pos e7]
    by_cases q : 0 < lg_cmp x y
    · rw [if_pos q]; simp
    · rw [if_neg q]; simp
  rw [if_neg e7]
  by_cases e8 : s = 8
  · rw [if_pos e8]
    by_cases q : lg_cmp x y = 0
    · rw [if_pos q]; simp
    · rw [if_neg q]; simp
  rw [if_neg e8]
  by_cases e9 : s = 9
  · rw [if_pos e9]
    by_cases q : lg_cmp x y < 0
    · rw [if_pos q]; simp
    · rw [if_neg q]; simp
  rw [if_neg e9]
  by_cases e10 : s = 10
  · rw [if_pos e10]
    by_cases q : lg_cmp x y ≤ 0
    · rw [if_pos q]; simp
    · rw [if_neg q]; simp
  rw [if_neg e10]
  omega
theorem bop_and {x y : Int64} (hx : x = 0 ∨ x = 1) (hy : y = 0 ∨ y = 1) : bop 12 x y = 0 ∨ bop 12 x y = 1 := by
  rcases hx with e | e <;> rcases hy with f | f <;> subst e <;> subst f <;> decide
theorem bop_or {x y : Int64} (hx : x = 0 ∨ x = 1) (hy : y = 0 ∨ y = 1) : bop 13 x y = 0 ∨ bop 13 x y = 1 := by
  rcases hx with e | e <;> rcases hy with f | f <;> subst e <;> subst f <;> decide
/-- one token over a stack of these kinds: what is below stays -/
theorem ev1_ty {w : Nat → Int64} {t : Nat} {s s1 : List Bool} {st : List Int64} (h : ty1 t s = some s1) (hv : tvs s st) (z : List Int64) : tvs s1 (ev1 w t st) ∧ ev1 w t (st ++ z) = ev1 w t st ++ z := by
  unfold ty1 at h
  unfold ev1
  by_cases e0 : t % 16 = 0
  · rw [if_pos (Or.inl e0)] at h
    cases h
    rw [if_pos e0, if_pos e0]
    exact ⟨⟨fun q => (by cases q), hv⟩, rfl⟩
  by_cases e1 : t % 16 = 1
  · rw [if_pos (Or.inr e1)] at h
    cases h
    rw [if_neg e0, if_pos e1, if_neg e0, if_pos e1]
    exact ⟨⟨fun q => (by cases q), hv⟩, rfl⟩
  rw [if_neg (by omega)] at h
  by_cases e11 : t % 16 = 11
  · rw [if_pos e11] at h
    rw [if_neg e0, if_neg e1, if_pos e11, if_neg e0, if_neg e1, if_pos e11]
    by_cases eh : s.head? = some true
    · rw [if_pos eh] at h
      cases h
      cases s with
      | nil => cases eh
      | cons b s =>
        cases st with
        | nil => exact hv.elim
        | cons v st =>
          refine ⟨⟨fun _ => ?_, hv.2⟩, rfl⟩
          show (if v = 0 then (1 : Int64) else 0) = 0 ∨ (if v = 0 then (1 : Int64) else 0) = 1
          by_cases q : v = 0
          · rw [if_pos q]; exact Or.inr rfl
          · rw [if_neg q]; exact Or.inl rfl
    · rw [if_neg eh] at h; cases h
  rw [if_neg e11] at h
  rw [if_neg e0, if_neg e1, if_neg e11, if_neg e0, if_neg e1, if_neg e11]
  by_cases e12 : t % 16 = 12 ∨ t % 16 = 13
  · rw [if_pos e12] at h
    by_cases eh : s.head? = some true ∧ s.tail.head? = some true
    · rw [if_pos eh] at h
      cases h
      cases s with
      | nil => cases eh.1
      | cons b s =>
        cases s with
        | nil => cases eh.2
        | cons b' s =>
          have hb : b = true := Option.some.inj eh.1
          have hb' : b' = true := Option.some.inj eh.2
          cases st with
          | nil => exact hv.elim
          | cons v st =>
            cases st with
            | nil => exact hv.2.elim
            | cons v' st =>
              refine ⟨⟨fun _ => ?_, hv.2.2⟩, rfl⟩
              rcases e12 with e | e
              · rw [e]; exact bop_and (hv.2.1 hb') (hv.1 hb)
              · rw [e]; exact bop_or (hv.2.1 hb') (hv.1 hb)
    · rw [if_neg eh] at h; cases h
  rw [if_neg e12] at h
  by_cases el : 2 ≤ s.length
  · rw [if_pos el] at h
    cases h
    cases s with
    | nil => simp at el
    | cons b s =>
      cases s with
      | nil => simp at el
      | cons b' s =>
        cases st with
        | nil => exact hv.elim
        | cons v st =>
          cases st with
          | nil => exact hv.2.elim
          | cons v' st =>
            refine ⟨⟨fun q => ?_, hv.2.2⟩, rfl⟩
            have q' := of_decide_eq_true q
            exact bop_cmp q'.1 q'.2 _ _
  · rw [if_neg el] at h; cases h
theorem ev_ty {w : Nat → Int64} : ∀ (c : List Nat) (s s' : List Bool) (st : List Int64), tyc c s = some s' → tvs s st → ∀ z, tvs s' (ev w c st) ∧ ev w c (st ++ z) = ev w c st ++ z
  | [], s, s', st, h, hv, z => by cases h; exact ⟨hv, rfl⟩
  | t :: c, s, s', st, h, hv, z => by
    simp only [tyc] at h
    cases e : ty1 t s with
    | none => rw [e] at h; cases h
    | some s1 =>
      rw [e, Option.bind_some] at h
      have h1 := ev1_ty (w := w) e hv z
      have h2 := ev_ty (w := w) c s1 s' (ev1 w t st) h h1.1 z
      refine ⟨h2.1, ?_⟩
      show ev w c (ev1 w t (st ++ z)) = _
      rw [h1.2]
      exact h2.2
theorem ty1_len {t : Nat} {s s1 : List Bool} (h : ty1 t s = some s1) : s1.length ≤ s.length + (if t % 16 ≤ 1 then 1 else 0) := by
  unfold ty1 at h
  by_cases e0 : t % 16 = 0 ∨ t % 16 = 1
  · rw [if_pos e0] at h; cases h; rw [if_pos (by omega)]; simp
  rw [if_neg e0] at h
  by_cases e11 : t % 16 = 11
  · rw [if_pos e11] at h
    by_cases eh : s.head? = some true
    · rw [if_pos eh] at h; cases h; omega
    · rw [if_neg eh] at h; cases h
  rw [if_neg e11] at h
  by_cases e12 : t % 16 = 12 ∨ t % 16 = 13
  · rw [if_pos e12] at h
    by_cases eh : s.head? = some true ∧ s.tail.head? = some true
    · rw [if_pos eh] at h; cases h; rw [List.length_tail]; omega
    · rw [if_neg eh] at h; cases h
  rw [if_neg e12] at h
  by_cases el : 2 ≤ s.length
  · rw [if_pos el] at h; cases h; simp only [List.length_cons, List.length_tail]; omega
  · rw [if_neg el] at h; cases h
/-- clauses: the sum, the test, whether there is one -/
abbrev CL : Type := List Nat × List Nat × Bool
def okCl (k : CL) : Prop := (∀ t ∈ k.1, okT t) ∧ (∀ t ∈ k.2.1, okT t) ∧ tyc k.1 [] = some [false] ∧ (k.2.2 = true → tyc k.2.1 [] = some [true]) ∧ (k.2.2 = false → k.2.1 = []) ∧ nvl k.1 + nvl k.2.1 ≤ 60
def fC (w : Nat → Int64) : List CL → Int64
  | [] => 0
  | k :: cs => if k.2.2 = true ∧ (ev w k.2.1 []).headD 0 = 0 then fC w cs else (ev w k.1 []).headD 0

theorem ty1_frame {t : Nat} {s s1 : List Bool} (z : List Bool) (h : ty1 t s = some s1) : ty1 t (s ++ z) = some (s1 ++ z) := by
  unfold ty1 at h ⊢
  by_cases e0 : t % 16 = 0 ∨ t % 16 = 1
  · rw [if_pos e0] at h ⊢; cases h; rfl
  rw [if_neg e0] at h ⊢
  by_cases e11 : t % 16 = 11
  · rw [if_pos e11] at h ⊢
    by_cases eh : s.head? = some true
    · rw [if_pos eh] at h
      cases h
      cases s with
      | nil => cases eh
      | cons b s => rw [if_pos (show (b :: s ++ z).head? = some true from eh)]
    · rw [if_neg eh] at h; cases h
  rw [if_neg e11] at h ⊢
  by_cases e12 : t % 16 = 12 ∨ t % 16 = 13
  · rw [if_pos e12] at h ⊢
    by_cases eh : s.head? = some true ∧ s.tail.head? = some true
    · rw [if_pos eh] at h
      cases h
      cases s with
      | nil => cases eh.1
      | cons b s =>
        cases s with
        | nil => cases eh.2
        | cons b' s => rw [if_pos (show (b :: b' :: s ++ z).head? = some true ∧ (b :: b' :: s ++ z).tail.head? = some true from eh)]; rfl
    · rw [if_neg eh] at h; cases h
  rw [if_neg e12] at h ⊢
  by_cases el : 2 ≤ s.length
  · rw [if_pos el] at h
    cases h
    cases s with
    | nil => simp at el
    | cons b s =>
      cases s with
      | nil => simp at el
      | cons b' s => rw [if_pos (by simp)]; rfl
  · rw [if_neg el] at h; cases h
theorem tyc_frame : ∀ (c : List Nat) (s s' z : List Bool), tyc c s = some s' → tyc c (s ++ z) = some (s' ++ z)
  | [], s, s', z, h => by cases h; rfl
  | t :: c, s, s', z, h => by
    simp only [tyc] at h ⊢
    cases e : ty1 t s with
    | none => rw [e] at h; cases h
    | some s1 =>
      rw [e, Option.bind_some] at h
      rw [ty1_frame z e, Option.bind_some]
      exact tyc_frame c s1 s' z h
