/-! cut: sets of bushes, without the machines. -/
section K24
variable {S : Nat → Nat} {b tg : Nat}
/-- the world with bushes more -/
def bs (S : Nat → Nat) (l : List Nat) : Nat → Nat := fun j => if 37 ≤ j ∧ j - 37 ∈ l then 1 else S j
def alw (S : Nat → Nat) (tg x : Nat) : Prop := x < S 1 * S 1 ∧ x ≠ S 11 ∧ x ≠ tg
def noW (S : Nat → Nat) (tg : Nat) : Prop := wy S (S 11) tg = 99
/-- so many bushes do it -/
def Exk (S : Nat → Nat) (tg k : Nat) : Prop := ∃ l : List Nat, l.length ≤ k ∧ (∀ x ∈ l, alw S tg x) ∧ noW (bs S l) tg
theorem bs_ne {l : List Nat} {j : Nat} (h : j < 37) : bs S l j = S j := if_neg (by omega)
theorem bs_hi {l : List Nat} (hl : ∀ x ∈ l, x < 36) {j : Nat} (h : 73 ≤ j) : bs S l j = S j := if_neg (fun w => by have := hl _ w.2; omega)
theorem bs_b {l : List Nat} {c : Nat} : bs S l (37 + c) = if c ∈ l then 1 else S (37 + c) := by
  unfold bs
  rw [show 37 + c - 37 = c by omega]
  by_cases e : c ∈ l
  · rw [if_pos e, if_pos ⟨by omega, e⟩]
  · rw [if_neg e, if_neg (fun w => e w.2)]
theorem bs_nil : bs S [] = S := by
  funext j
  unfold bs
  rw [if_neg (fun w => by cases w.2)]
theorem bs_ext {l m : List Nat} (h : ∀ x, x ∈ l ↔ x ∈ m) : bs S l = bs S m := by
  funext j
  unfold bs
  by_cases e : 37 ≤ j ∧ j - 37 ∈ l
  · rw [if_pos e, if_pos ⟨e.1, (h _).mp e.2⟩]
  · rw [if_neg e, if_neg (fun w => e ⟨w.1, (h _).mpr w.2⟩)]
theorem bs_bs {x : Nat} {l : List Nat} : bs (bs S [x]) l = bs S (x :: l) := by
  funext j
  unfold bs
  by_cases e : 37 ≤ j ∧ j - 37 ∈ l
  · rw [if_pos e, if_pos ⟨e.1, List.mem_cons_of_mem _ e.2⟩]
  · rw [if_neg e]
    by_cases e2 : 37 ≤ j ∧ j - 37 ∈ [x]
    · rw [if_pos e2, if_pos ⟨e2.1, by have := e2.2; simp at this; simp [this]⟩]
    · rw [if_neg e2, if_neg (fun w => by
        rcases List.mem_cons.mp w.2 with q | q
        · exact e2 ⟨w.1, by simp [q]⟩
        · exact e ⟨w.1, q⟩)]
theorem okW_bs (cw : okW S b) {l : List Nat} (hl : ∀ x ∈ l, x < 36) : okW (bs S l) b := by
  by_cases hb : 1 ≤ 1
  · obtain ⟨w1, w2, w3, w4, w5, w6, w7, w8⟩ := cw
    have e : ∀ j, j < 37 → bs S l j = S j := fun j hj => bs_ne hj
    refine ⟨by rw [e 1 (by omega)]; exact w1, by rw [e 1 (by omega)]; exact w2, by rw [e 2 (by omega)]; exact w3, by rw [e 11 (by omega), e 1 (by omega)]; exact w4, fun u hu => ?_, by rw [e 12 (by omega), e 2 (by omega)]; exact w6, fun y hy => ?_, by rw [e 10 (by omega)]; exact w8⟩
    · rw [e 2 (by omega)] at hu
      rw [e 1 (by omega), e 2 (by omega), e (13 + 4 * u) (by omega), e (13 + 4 * u + 1) (by omega), e (13 + 4 * u + 2) (by omega), e (13 + 4 * u + 3) (by omega)]
      exact w5 u hu
    · rw [bs_hi hl (show 73 ≤ 73 + y by omega), bs_b]
      refine ⟨?_, (w7 y hy).2⟩
      split
      · exact Nat.le_refl _
      · exact (w7 y hy).1
  · omega
theorem alw_36 (cw : okW S b) {l : List Nat} (hl : ∀ x ∈ l, alw S tg x) : ∀ x ∈ l, x < 36 := fun x hx => by
  have := (hl x hx).1
  have := okW_36 cw
  omega
theorem alw_bs {l : List Nat} {x : Nat} : alw (bs S l) tg x ↔ alw S tg x := by
  unfold alw
  rw [bs_ne (by omega), bs_ne (by omega)]
/-- more bushes open no way -/
theorem reach_mono (cw : okW S b) {l : List Nat} (hl : ∀ x ∈ l, alw S tg x) : ∀ k v, v < S 1 * S 1 → wy (bs S l) (S 11) v = k → k ≠ 99 → wy S (S 11) v ≠ 99 := by
  have cb := okW_bs cw (alw_36 cw hl)
  have e1 : bs S l 1 = S 1 := bs_ne (by omega)
  have h11 := cw.2.2.2.1
  have hD := wy_is cw h11
  have hB : isD (S 1) (fun c => bs S l (37 + c)) (S 11) (wy (bs S l) (S 11)) := by
    have := wy_is cb (fr := S 11) (by rw [e1]; exact h11)
    rw [e1] at this
    exact this
  intro k
  induction k using Nat.strongRecOn with
  | ind k ih =>
    intro v hv hk h9
    by_cases e : v = S 11
    · rw [e, hD.1]; decide
    · obtain ⟨a1, u, d, a2, a3, a4, a5, a6⟩ := hB.2.1 v hv e (by rw [hk]; exact h9)
      have hu := ih (wy (bs S l) (S 11) u) (by omega) u a2 rfl a5
      have hf : S (37 + v) = 0 := by
        have : bs S l (37 + v) = 0 := a1
        rw [bs_b] at this
        split at this
        · cases this
        · exact this
      have := hD.2.2.1 u d a2 a3 hu (by rw [a4]; have := okW_36 cw; omega) (by show S (37 + nb (S 1) u d) = 0; rw [a4]; exact hf)
      rw [a4] at this
      exact this.1
theorem noW_mono (cw : okW S b) (ht : tg < S 1 * S 1) {l : List Nat} (hl : ∀ x ∈ l, alw S tg x) (h : noW S tg) : noW (bs S l) tg := by
  unfold noW at h ⊢
  rw [bs_ne (show 11 < 37 by decide)]
  apply Classical.byContradiction
  intro q
  exact reach_mono cw hl _ tg ht rfl q h
/-- a chain of cells from the question -/
def chn (S : Nat → Nat) : List Nat → Nat → Prop
  | [], v => v = S 11
  | x :: P, v => v = x ∧ ∃ u d, chn S P u ∧ d < 4 ∧ nb (S 1) u d = x ∧ x ≠ 99 ∧ S (37 + x) = 0
theorem chn_reach (cw : okW S b) {l : List Nat} (hl : ∀ x ∈ l, alw S tg x) : ∀ (P : List Nat) (v : Nat), chn S P v → (∀ x ∈ P, x ∉ l) → v < S 1 * S 1 ∧ wy (bs S l) (S 11) v ≠ 99 := by
  have cb := okW_bs cw (alw_36 cw hl)
  have e1 : bs S l 1 = S 1 := bs_ne (by omega)
  have h11 := cw.2.2.2.1
  have hB : isD (S 1) (fun c => bs S l (37 + c)) (S 11) (wy (bs S l) (S 11)) := by
    have := wy_is cb (fr := S 11) (by rw [e1]; exact h11)
    rw [e1] at this
    exact this
  intro P
  induction P with
  | nil =>
    intro v hc hd
    have : v = S 11 := hc
    subst this
    exact ⟨h11, by rw [hB.1]; decide⟩
  | cons x P ih =>
    intro v hc hd
    obtain ⟨e, u, d, c1, c2, c3, c4, c5⟩ := hc
    subst e
    have hu := ih u c1 (fun y hy => hd y (List.mem_cons_of_mem _ hy))
    have := hB.2.2.1 u d hu.1 c2 hu.2 (by rw [c3]; exact c4) (by
      show bs S l (37 + nb (S 1) u d) = 0
      rw [c3, bs_b, if_neg (hd _ List.mem_cons_self)]
      exact c5)
    rw [c3] at this
    refine ⟨?_, this.1⟩
    rw [← c3]
    exact nb_lt hu.1 (by rw [c3]; exact c4)
theorem Exk_cons {x k : Nat} (hx : alw S tg x) (h : Exk (bs S [x]) tg k) : Exk S tg (k + 1) := by
  obtain ⟨l, h1, h2, h3⟩ := h
  refine ⟨x :: l, by simp; omega, fun y hy => ?_, by rw [← bs_bs]; exact h3⟩
  rcases List.mem_cons.mp hy with e | e
  · rw [e]; exact hx
  · exact alw_bs.mp (h2 y e)
theorem bs_erase {x : Nat} {l : List Nat} (hx : x ∈ l) : bs (bs S [x]) (l.erase x) = bs S l := by
  rw [bs_bs]
  apply bs_ext
  intro y
  constructor
  · intro h
    rcases List.mem_cons.mp h with e | e
    · rw [e]; exact hx
    · exact List.mem_of_mem_erase e
  · intro h
    by_cases e : y = x
    · rw [e]; exact List.mem_cons_self
    · exact List.mem_cons_of_mem _ ((List.mem_erase_of_ne e).mpr h)
theorem Exk_of {x k : Nat} {l : List Nat} (hx : x ∈ l) (h1 : l.length ≤ k + 1) (h2 : ∀ y ∈ l, alw S tg y) (h3 : noW (bs S l) tg) : Exk (bs S [x]) tg k := by
  refine ⟨l.erase x, ?_, fun y hy => alw_bs.mpr (h2 y (List.mem_of_mem_erase hy)), by rw [bs_erase hx]; exact h3⟩
  rw [List.length_erase_of_mem hx]
  omega
/-- a way that no set avoids: the class's step -/
theorem Exk_path (cw : okW S b) {k : Nat} {P : List Nat} (hP : chn S P tg) (h : Exk S tg (k + 1)) : ∃ x, x ∈ P ∧ x ≠ tg ∧ alw S tg x ∧ Exk (bs S [x]) tg k := by
  obtain ⟨l, h1, h2, h3⟩ := h
  apply Classical.byContradiction
  intro q
  have hd : ∀ x ∈ P, x ∉ l := fun x hx hxl => q ⟨x, hx, (h2 x hxl).2.2, h2 x hxl, Exk_of hxl h1 h2 h3⟩
  have := (chn_reach cw h2 P tg hP hd).2
  unfold noW at h3
  rw [bs_ne (show 11 < 37 by decide)] at h3
  exact this h3
theorem Exk_0 : Exk S tg 0 ↔ noW S tg := by
  constructor
  · rintro ⟨l, h1, _, h3⟩
    have : l = [] := List.length_eq_zero_iff.mp (by omega)
    rw [this, bs_nil] at h3
    exact h3
  · intro h
    exact ⟨[], by simp, fun x hx => (by cases hx), by rw [bs_nil]; exact h⟩
theorem Exk_noW {k : Nat} (h : noW S tg) : Exk S tg k := ⟨[], by simp, fun x hx => (by cases hx), by rw [bs_nil]; exact h⟩
theorem Exk_mono {j k : Nat} (h : Exk S tg j) (hjk : j ≤ k) : Exk S tg k := by
  obtain ⟨l, h1, h2, h3⟩ := h
  exact ⟨l, by omega, h2, h3⟩
/-- the first list of so many, ascending, that does it -/
noncomputable def lx (tg : Nat) : Nat → (Nat → Nat) → Nat → Option (List Nat)
  | _, S, 0 => if wy S (S 11) tg = 99 then some [] else none
  | 0, _, _ + 1 => none
  | m + 1, S, k + 1 => if (S 1 * S 1 - (m + 1) ≠ S 11 ∧ S 1 * S 1 - (m + 1) ≠ tg) ∧ S (37 + (S 1 * S 1 - (m + 1))) = 0 then (match lx tg m (bs S [S 1 * S 1 - (m + 1)]) k with | some l => some ((S 1 * S 1 - (m + 1)) :: l) | none => lx tg m S (k + 1)) else lx tg m S (k + 1)
/-- the class's list -/
noncomputable def gd (tg : Nat) : Nat → (Nat → Nat) → Nat → List Nat
  | _, _, 0 => []
  | 0, _, _ + 1 => []
  | m + 1, S, f + 1 => @ite _ ((S 1 * S 1 - (m + 1) ≠ S 11 ∧ S 1 * S 1 - (m + 1) ≠ tg) ∧ S (37 + (S 1 * S 1 - (m + 1))) = 0 ∧ Exk (bs S [S 1 * S 1 - (m + 1)]) tg f) (Classical.propDecidable _) ((S 1 * S 1 - (m + 1)) :: gd tg m (bs S [S 1 * S 1 - (m + 1)]) f) (gd tg m S (f + 1))
theorem lx_some : ∀ (m : Nat) (S : Nat → Nat) (k : Nat) (l : List Nat), m ≤ S 1 * S 1 → lx tg m S k = some l → l.length = k ∧ (∀ x ∈ l, alw S tg x) ∧ noW (bs S l) tg := by
  intro m
  induction m with
  | zero =>
    intro S k l hm h
    cases k with
    | zero =>
      have h : (if wy S (S 11) tg = 99 then some [] else none) = some l := h
      by_cases q : wy S (S 11) tg = 99
      · rw [if_pos q] at h
        cases h
        exact ⟨rfl, fun x hx => (by cases hx), by rw [bs_nil]; exact q⟩
      · rw [if_neg q] at h; cases h
    | succ k => cases h
  | succ m ih =>
    intro S k l hm h
    cases k with
    | zero =>
      have h : (if wy S (S 11) tg = 99 then some [] else none) = some l := h
      by_cases q : wy S (S 11) tg = 99
      · rw [if_pos q] at h
        cases h
        exact ⟨rfl, fun x hx => (by cases hx), by rw [bs_nil]; exact q⟩
      · rw [if_neg q] at h; cases h
    | succ k =>
      have h : (if (S 1 * S 1 - (m + 1) ≠ S 11 ∧ S 1 * S 1 - (m + 1) ≠ tg) ∧ S (37 + (S 1 * S 1 - (m + 1))) = 0 then (match lx tg m (bs S [S 1 * S 1 - (m + 1)]) k with | some l => some ((S 1 * S 1 - (m + 1)) :: l) | none => lx tg m S (k + 1)) else lx tg m S (k + 1)) = some l := h
      by_cases q : (S 1 * S 1 - (m + 1) ≠ S 11 ∧ S 1 * S 1 - (m + 1) ≠ tg) ∧ S (37 + (S 1 * S 1 - (m + 1))) = 0
      · rw [if_pos q] at h
        cases hq : lx tg m (bs S [S 1 * S 1 - (m + 1)]) k with
        | none => rw [hq] at h; exact ih S (k + 1) l (by omega) h
        | some l' =>
          rw [hq] at h
          cases h
          have e1 : bs S [S 1 * S 1 - (m + 1)] 1 = S 1 := bs_ne (by omega)
          obtain ⟨a1, a2, a3⟩ := ih _ k l' (by rw [e1]; omega) hq
          refine ⟨by simp [a1], fun x hx => ?_, by rw [← bs_bs]; exact a3⟩
          rcases List.mem_cons.mp hx with e | e
          · rw [e]; exact ⟨by omega, q.1.1, q.1.2⟩
          · exact alw_bs.mp (a2 x e)
      · rw [if_neg q] at h
        exact ih S (k + 1) l (by omega) h
theorem lx_gd : ∀ (m : Nat) (S : Nat → Nat) (f : Nat), m ≤ S 1 * S 1 → S 1 * S 1 ≤ 36 → (∀ c, c < 36 → S (37 + c) ≤ 1) → Exk S tg f → (∀ l : List Nat, l.length ≤ f → (∀ x ∈ l, alw S tg x) → noW (bs S l) tg → l.length = f ∧ ∀ x ∈ l, S 1 * S 1 - m ≤ x) → lx tg m S f = some (gd tg m S f) := by
  have f0 : ∀ (m : Nat) (S : Nat → Nat), Exk S tg 0 → lx tg m S 0 = some (gd tg m S 0) := by
    intro m S h
    have e : lx tg m S 0 = if wy S (S 11) tg = 99 then some [] else none := by cases m <;> rfl
    have e2 : gd tg m S 0 = [] := by cases m <;> rfl
    rw [e, e2, if_pos (show wy S (S 11) tg = 99 from Exk_0.mp h)]
  intro m
  induction m with
  | zero =>
    intro S f hm h36 hb hE hJ
    cases f with
    | zero => exact f0 0 S hE
    | succ f =>
      obtain ⟨l, h1, h2, h3⟩ := hE
      obtain ⟨j1, j2⟩ := hJ l h1 h2 h3
      cases l with
      | nil => cases j1
      | cons x l =>
        have := j2 x List.mem_cons_self
        have := (h2 x List.mem_cons_self).1
        omega
  | succ m ih =>
    intro S f hm h36 hb hE hJ
    cases f with
    | zero => exact f0 (m + 1) S hE
    | succ f =>
      generalize hv : S 1 * S 1 - (m + 1) = v at hJ
      have e1 : bs S [v] 1 = S 1 := bs_ne (by omega)
      have el : lx tg (m + 1) S (f + 1) = if (v ≠ S 11 ∧ v ≠ tg) ∧ S (37 + v) = 0 then (match lx tg m (bs S [v]) f with | some l => some (v :: l) | none => lx tg m S (f + 1)) else lx tg m S (f + 1) := by rw [← hv]; rfl
      have eg : gd tg (m + 1) S (f + 1) = @ite _ ((v ≠ S 11 ∧ v ≠ tg) ∧ S (37 + v) = 0 ∧ Exk (bs S [v]) tg f) (Classical.propDecidable _) (v :: gd tg m (bs S [v]) f) (gd tg m S (f + 1)) := by rw [← hv]; rfl
      rw [el, eg]
      by_cases q : (v ≠ S 11 ∧ v ≠ tg) ∧ S (37 + v) = 0 ∧ Exk (bs S [v]) tg f
      · have av : alw S tg v := ⟨by omega, q.1.1, q.1.2⟩
        rw [if_pos q, if_pos ⟨q.1, q.2.1⟩, ih (bs S [v]) f (by rw [e1]; omega) (by rw [e1]; exact h36) (fun c hc => by rw [bs_b]; split; exact Nat.le_refl _; exact hb c hc) q.2.2 (fun l h1 h2 h3 => ?_)]
        have hall : ∀ x ∈ v :: l, alw S tg x := fun x hx => by
          rcases List.mem_cons.mp hx with e | e
          · rw [e]; exact av
          · exact alw_bs.mp (h2 x e)
        obtain ⟨j1, j2⟩ := hJ (v :: l) (by simp; omega) hall (by rw [← bs_bs]; exact h3)
        refine ⟨by simpa using j1, fun x hx => ?_⟩
        have b1 := j2 x (List.mem_cons_of_mem _ hx)
        rw [e1]
        have : x ≠ v := by
          intro e
          subst e
          have hl' : bs S l = bs S (x :: l) := bs_ext (fun y => ⟨fun h => List.mem_cons_of_mem _ h, fun h => by
            rcases List.mem_cons.mp h with e | e
            · rw [e]; exact hx
            · exact e⟩)
          have := (hJ l (by omega) (fun y hy => hall y (List.mem_cons_of_mem _ hy)) (by rw [hl', ← bs_bs]; exact h3)).1
          simp at j1
          omega
        omega
      · rw [if_neg q]
        have key : ∀ l : List Nat, l.length ≤ f + 1 → (∀ x ∈ l, alw S tg x) → noW (bs S l) tg → l.length = f + 1 ∧ ∀ x ∈ l, S 1 * S 1 - m ≤ x := by
          intro l h1 h2 h3
          obtain ⟨j1, j2⟩ := hJ l h1 h2 h3
          refine ⟨j1, fun x hx => ?_⟩
          have b1 := j2 x hx
          have : x ≠ v := by
            intro e
            subst e
            have ax := h2 x hx
            by_cases fr : S (37 + x) = 0
            · exact q ⟨⟨ax.2.1, ax.2.2⟩, fr, Exk_of hx h1 h2 h3⟩
            · have x36 : x < 36 := by have := ax.1; omega
              have x1 := hb x x36
              have ee : bs S (l.erase x) = bs S l := by
                funext j
                unfold bs
                by_cases p1 : 37 ≤ j ∧ j - 37 ∈ l.erase x
                · rw [if_pos p1, if_pos ⟨p1.1, List.mem_of_mem_erase p1.2⟩]
                · rw [if_neg p1]
                  by_cases p2 : 37 ≤ j ∧ j - 37 ∈ l
                  · rw [if_pos p2]
                    have : j - 37 = x := by
                      apply Classical.byContradiction
                      intro w
                      exact p1 ⟨p2.1, (List.mem_erase_of_ne w).mpr p2.2⟩
                    have ej : j = 37 + x := by omega
                    rw [ej]; omega
                  · rw [if_neg p2]
              have le := List.length_erase_of_mem hx
              have := (hJ (l.erase x) (by omega) (fun y hy => h2 y (List.mem_of_mem_erase hy)) (by rw [ee]; exact h3)).1
              omega
          omega
        have nx := ih S (f + 1) (by omega) h36 hb hE key
        by_cases q2 : (v ≠ S 11 ∧ v ≠ tg) ∧ S (37 + v) = 0
        · rw [if_pos q2]
          have : lx tg m (bs S [v]) f = none := by
            cases hq : lx tg m (bs S [v]) f with
            | none => rfl
            | some l =>
              obtain ⟨a1, a2, a3⟩ := lx_some m (bs S [v]) f l (by rw [e1]; omega) hq
              exact absurd ⟨q2.1, q2.2, ⟨l, by omega, a2, a3⟩⟩ q
          rw [this]
          exact nx
        · rw [if_neg q2]
          exact nx
end K24
