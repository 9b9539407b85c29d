/-! Both sides reckon tokens on their stacks. -/
theorem nI_shr4 {t : Nat} (h : t < 2 ^ 31) : nI t >>> (nI 4 &&& nI 31) = nI (t / 16) := by
  have e : (nI 4 &&& nI 31 : Int32) = nI 4 := by decide
  rw [e]
  apply Int32.toInt_inj.mp
  have h2 : t / 16 < 2 ^ 31 := by omega
  rw [nI_toInt h2]
  have h3 : (nI t >>> nI 4).toInt = (nI t).toInt >>> 4 := by
    show ((nI t >>> nI 4).toBitVec).toInt = _
    rw [Int32.toBitVec_shiftRight]
    have q : ((nI 4).toBitVec.smod 32) = BitVec.ofNat 32 4 := by decide
    rw [q, BitVec.sshiftRight_eq', BitVec.toInt_sshiftRight]
    rfl
  rw [h3, nI_toInt h]
  show (((t >>> 4 : Nat)) : Int) = _
  rw [Nat.shiftRight_eq_div_pow]
theorem nI_and15 (t : Nat) : nI t &&& nI 15 = nI (t % 16) := by
  rw [nI_and]
  congr 1
  exact Nat.and_two_pow_sub_one_eq_mod t 4
def skJ (σ : PS) (i : Nat) : List Int64 → Prop
  | [] => True
  | v :: st => σ.2 i st.length = v ∧ skJ σ i st
theorem skJ_ext {σ τ : PS} {i : Nat} : ∀ st : List Int64, (∀ k, k < st.length → τ.2 i k = σ.2 i k) → skJ σ i st → skJ τ i st
  | [], _, _ => trivial
  | v :: st, h, hs => ⟨(h _ (by simp)).trans hs.1, skJ_ext st (fun k hk => h k (by simp; omega)) hs.2⟩
theorem ty1_not {t : Nat} {s s1 : List Bool} {st : List Int64} (h : ty1 t s = some s1) (e : t % 16 = 11) (hv : tvs s st) : ∃ v st', st = v :: st' ∧ (v = 0 ∨ v = 1) := by
  unfold ty1 at h
  rw [if_neg (by omega), if_pos e] at h
  by_cases eh : s.head? = some true
  · cases s with
    | nil => cases eh
    | cons b s =>
      cases st with
      | nil => exact hv.elim
      | cons v st => exact ⟨v, st, rfl, hv.1 (Option.some.inj eh)⟩
  · rw [if_neg eh] at h; cases h
theorem ty1_bin {t : Nat} {s s1 : List Bool} {st : List Int64} (h : ty1 t s = some s1) (e0 : ¬ t % 16 = 0) (e1 : ¬ t % 16 = 1) (e : ¬ t % 16 = 11) (hv : tvs s st) : ∃ y x st', st = y :: x :: st' := by
  unfold ty1 at h
  rw [if_neg (by omega), if_neg e] at h
  have hl : 2 ≤ st.length := by
    rw [tvs_len _ _ hv]
    by_cases e12 : t % 16 = 12 ∨ t % 16 = 13
    · rw [if_pos e12] at h
      by_cases eh : s.head? = some true ∧ s.tail.head? = some true
      · cases s with
        | nil => cases eh.1
        | cons b s =>
          cases s with
          | nil => cases eh.2
          | cons b' s => simp
      · rw [if_neg eh] at h; cases h
    · rw [if_neg e12] at h
      by_cases el : 2 ≤ s.length
      · exact el
      · rw [if_neg el] at h; cases h
  cases st with
  | nil => simp at hl
  | cons y st =>
    cases st with
    | nil => simp at hl
    | cons x st => exact ⟨y, x, st, rfl⟩
theorem ev1_0 {w : Nat → Int64} {t : Nat} {st : List Int64} (e : t % 16 = 0) : ev1 w t st = lN (t / 16) :: st := by
  unfold ev1; rw [if_pos e]
theorem ev1_1 {w : Nat → Int64} {t : Nat} {st : List Int64} (e : t % 16 = 1) : ev1 w t st = w (t / 16) :: st := by
  unfold ev1; rw [if_neg (by omega), if_pos e]
theorem ev1_11 {w : Nat → Int64} {t : Nat} {v : Int64} {st : List Int64} (e : t % 16 = 11) : ev1 w t (v :: st) = (if v = 0 then 1 else 0) :: st := by
  unfold ev1; rw [if_neg (by omega), if_neg (by omega), if_pos e]; rfl
theorem ev1_b {w : Nat → Int64} {t : Nat} {y x : Int64} {st : List Int64} (e0 : ¬ t % 16 = 0) (e1 : ¬ t % 16 = 1) (e : ¬ t % 16 = 11) : ev1 w t (y :: x :: st) = bop (t % 16) x y :: st := by
  unfold ev1; rw [if_neg e0, if_neg e1, if_neg e]; rfl
theorem one_sub {v : Int64} (h : v = 0 ∨ v = 1) : 1 - v = if v = 0 then 1 else 0 := by
  rcases h with e | e <;> subst e <;> decide
section MR
variable {n : Nat}
def skM (σ : PS) (st : List Int64) : Prop := σ.1 249 18 = nI st.length ∧ skJ σ 257 st
theorem M_push {σ : PS} {st : List Int64} (h : skM σ st) (hl : st.length < 64) (v : Int64) : ∃ τ, F_X12_push n v σ = some τ ∧ skM τ (v :: st) ∧ agm [257] [18] σ τ := by
  unfold F_X12_push
  rw [psJ_I, h.1]
  simp (disch := omega) only [nI_lit, nI_ge0, nI_clamp, true_and]
  rw [if_pos hl]
  refine ⟨_, rfl, ⟨?_, ?_, ?_⟩, ?_⟩
  · rw [psI_eq, if_pos rfl]; exact nI_add _ _
  · show (psJ σ 257 st.length v).2 257 st.length = v
    rw [psJ_eq, if_pos rfl]
  · exact skJ_ext st (fun k hk => by show (psJ σ 257 st.length v).2 257 k = _; rw [psJ_eq, if_neg (by omega)]) h.2
  · exact agm_trans (agm_psJ (by simp) (by decide)) (agm_fld (by simp))
theorem M_pop {σ : PS} {v : Int64} {st : List Int64} (h : skM σ (v :: st)) (hl : st.length < 64) : ∃ τ, F_X12_pop n σ = some (v, τ) ∧ skM τ st ∧ agm [257] [18] σ τ := by
  unfold F_X12_pop
  have e : (psI σ 249 18 ((σ.1 249 18) - 1)) = psI σ 249 18 (nI st.length) := by
    rw [h.1, List.length_cons, nI_pred]
  rw [e, psI_eq, if_pos rfl]
  simp (disch := omega) only [nI_lit, nI_ge0, nI_clamp, true_and]
  rw [if_pos hl]
  refine ⟨psI σ 249 18 (nI st.length), ?_, ⟨?_, skJ_ext (σ := σ) st (fun k _ => rfl) h.2.2⟩, agm_fld (T := [257]) (Fs := [18]) (by simp)⟩
  · rw [show (psI σ 249 18 (nI st.length)).2 257 st.length = v from h.2.1]
  · rw [psI_eq, if_pos rfl]

theorem M_one2 (x y : Int64) (σ : PS) : F_X12_one n (nI 2) x y σ = some (bop 2 x y, σ) := by
  rw [show nI 2 = (2 : Int32) from rfl]
  unfold F_X12_one bop
  rw [if_pos rfl, if_pos rfl]
theorem M_one3 (x y : Int64) (σ : PS) : F_X12_one n (nI 3) x y σ = some (bop 3 x y, σ) := by
  rw [show nI 3 = (3 : Int32) from rfl]
  unfold F_X12_one bop
  rw [if_neg (show ¬ ((3 : Int32) = 2) by decide), if_pos rfl, if_neg (show ¬ ((3 : Nat) = 2) by decide), if_pos rfl]
theorem M_one4 (x y : Int64) (σ : PS) : F_X12_one n (nI 4) x y σ = some (bop 4 x y, σ) := by
  rw [show nI 4 = (4 : Int32) from rfl]
  unfold F_X12_one bop
  rw [if_neg (show ¬ ((4 : Int32) = 2) by decide), if_neg (show ¬ ((4 : Int32) = 3) by decide), if_pos rfl, if_neg (show ¬ ((4 : Nat) = 2) by decide), if_neg (show ¬ ((4 : Nat) = 3) by decide), if_pos rfl]
theorem M_one5 (x y : Int64) (σ : PS) : F_X12_one n (nI 5) x y σ = some (bop 5 x y, σ) := by
  rw [show nI 5 = (5 : Int32) from rfl]
  unfold F_X12_one bop
  rw [if_neg (show ¬ ((5 : Int32) = 2) by decide), if_neg (show ¬ ((5 : Int32) = 3) by decide), if_neg (show ¬ ((5 : Int32) = 4) by decide), if_pos rfl, if_neg (show ¬ ((5 : Nat) = 2) by decide), if_neg (show ¬ ((5 : Nat) = 3) by decide), if_neg (show ¬ ((5 : Nat) = 4) by decide), if_pos rfl]
  by_cases q : y = 0
  · rw [if_pos ((lg_cmp_eq y 0).mpr q), if_pos q]
  · rw [if_neg (fun z => q ((lg_cmp_eq y 0).mp z)), if_neg q, if_neg q]
theorem M_one6 (x y : Int64) (σ : PS) : F_X12_one n (nI 6) x y σ = some (bop 6 x y, σ) := by
  rw [show nI 6 = (6 : Int32) from rfl]
  unfold F_X12_one bop
  rw [if_neg (show ¬ ((6 : Int32) = 2) by decide), if_neg (show ¬ ((6 : Int32) = 3) by decide), if_neg (show ¬ ((6 : Int32) = 4) by decide), if_neg (show ¬ ((6 : Int32) = 5) by decide), if_pos rfl, if_neg (show ¬ ((6 : Nat) = 2) by decide), if_neg (show ¬ ((6 : Nat) = 3) by decide), if_neg (show ¬ ((6 : Nat) = 4) by decide), if_neg (show ¬ ((6 : Nat) = 5) by decide), if_pos rfl]
  split <;> rfl
theorem M_one7 (x y : Int64) (σ : PS) : F_X12_one n (nI 7) x y σ = some (bop 7 x y, σ) := by
  rw [show nI 7 = (7 : Int32) from rfl]
  unfold F_X12_one bop
  rw [if_neg (show ¬ ((7 : Int32) = 2) by decide), if_neg (show ¬ ((7 : Int32) = 3) by decide), if_neg (show ¬ ((7 : Int32) = 4) by decide), if_neg (show ¬ ((7 : Int32) = 5) by decide), if_neg (show ¬ ((7 : Int32) = 6) by decide), if_pos rfl, if_neg (show ¬ ((7 : Nat) = 2) by decide), if_neg (show ¬ ((7 : Nat) = 3) by decide), if_neg (show ¬ ((7 : Nat) = 4) by decide), if_neg (show ¬ ((7 : Nat) = 5) by decide), if_neg (show ¬ ((7 : Nat) = 6) by decide), if_pos rfl]
  split <;> rfl
theorem M_one8 (x y : Int64) (σ : PS) : F_X12_one n (nI 8) x y σ = some (bop 8 x y, σ) := by
  rw [show nI 8 = (8 : Int32) from rfl]
  unfold F_X12_one bop
  rw [if_neg (show ¬ ((8 : Int32) = 2) by decide), if_neg (show ¬ ((8 : Int32) = 3) by decide), if_neg (show ¬ ((8 : Int32) = 4) by decide), if_neg (show ¬ ((8 : Int32) = 5) by decide), if_neg (show ¬ ((8 : Int32) = 6) by decide), if_neg (show ¬ ((8 : Int32) = 7) by decide), if_pos rfl, if_neg (show ¬ ((8 : Nat) = 2) by decide), if_neg (show ¬ ((8 : Nat) = 3) by decide), if_neg (show ¬ ((8 : Nat) = 4) by decide), if_neg (show ¬ ((8 : Nat) = 5) by decide), if_neg (show ¬ ((8 : Nat) = 6) by decide), if_neg (show ¬ ((8 : Nat) = 7) by decide), if_pos rfl]
  split <;> rfl
theorem M_one9 (x y : Int64) (σ : PS) : F_X12_one n (nI 9) x y σ = some (bop 9 x y, σ) := by
  rw [show nI 9 = (9 : Int32) from rfl]
  unfold F_X12_one bop
  rw [if_neg (show ¬ ((9 : Int32) = 2) by decide), if_neg (show ¬ ((9 : Int32) = 3) by decide), if_neg (show ¬ ((9 : Int32) = 4) by decide), if_neg (show ¬ ((9 : Int32) = 5) by decide), if_neg (show ¬ ((9 : Int32) = 6) by decide), if_neg (show ¬ ((9 : Int32) = 7) by decide), if_neg (show ¬ ((9 : Int32) = 8) by decide), if_pos rfl, if_neg (show ¬ ((9 : Nat) = 2) by decide), if_neg (show ¬ ((9 : Nat) = 3) by decide), if_neg (show ¬ ((9 : Nat) = 4) by decide), if_neg (show ¬ ((9 : Nat) = 5) by decide), if_neg (show ¬ ((9 : Nat) = 6) by decide), if_neg (show ¬ ((9 : Nat) = 7) by decide), if_neg (show ¬ ((9 : Nat) = 8) by decide), if_pos rfl]
  split <;> rfl
theorem M_one10 (x y : Int64) (σ : PS) : F_X12_one n (nI 10) x y σ = some (bop 10 x y, σ) := by
  rw [show nI 10 = (10 : Int32) from rfl]
  unfold F_X12_one bop
  rw [if_neg (show ¬ ((10 : Int32) = 2) by decide), if_neg (show ¬ ((10 : Int32) = 3) by decide), if_neg (show ¬ ((10 : Int32) = 4) by decide), if_neg (show ¬ ((10 : Int32) = 5) by decide), if_neg (show ¬ ((10 : Int32) = 6) by decide), if_neg (show ¬ ((10 : Int32) = 7) by decide), if_neg (show ¬ ((10 : Int32) = 8) by decide), if_neg (show ¬ ((10 : Int32) = 9) by decide), if_pos rfl, if_neg (show ¬ ((10 : Nat) = 2) by decide), if_neg (show ¬ ((10 : Nat) = 3) by decide), if_neg (show ¬ ((10 : Nat) = 4) by decide), if_neg (show ¬ ((10 : Nat) = 5) by decide), if_neg (show ¬ ((10 : Nat) = 6) by decide), if_neg (show ¬ ((10 : Nat) = 7) by decide), if_neg (show ¬ ((10 : Nat) = 8) by decide), if_neg (show ¬ ((10 : Nat) = 9) by decide), if_pos rfl]
  split <;> rfl
theorem M_one12 (x y : Int64) (σ : PS) : F_X12_one n (nI 12) x y σ = some (bop 12 x y, σ) := by
  rw [show nI 12 = (12 : Int32) from rfl]
  unfold F_X12_one bop
  rw [if_neg (show ¬ ((12 : Int32) = 2) by decide), if_neg (show ¬ ((12 : Int32) = 3) by decide), if_neg (show ¬ ((12 : Int32) = 4) by decide), if_neg (show ¬ ((12 : Int32) = 5) by decide), if_neg (show ¬ ((12 : Int32) = 6) by decide), if_neg (show ¬ ((12 : Int32) = 7) by decide), if_neg (show ¬ ((12 : Int32) = 8) by decide), if_neg (show ¬ ((12 : Int32) = 9) by decide), if_neg (show ¬ ((12 : Int32) = 10) by decide), if_pos rfl, if_neg (show ¬ ((12 : Nat) = 2) by decide), if_neg (show ¬ ((12 : Nat) = 3) by decide), if_neg (show ¬ ((12 : Nat) = 4) by decide), if_neg (show ¬ ((12 : Nat) = 5) by decide), if_neg (show ¬ ((12 : Nat) = 6) by decide), if_neg (show ¬ ((12 : Nat) = 7) by decide), if_neg (show ¬ ((12 : Nat) = 8) by decide), if_neg (show ¬ ((12 : Nat) = 9) by decide), if_neg (show ¬ ((12 : Nat) = 10) by decide), if_pos rfl]
theorem M_one14 (x y : Int64) (σ : PS) : F_X12_one n (nI 14) x y σ = some (bop 14 x y, σ) := by
  rw [show nI 14 = (14 : Int32) from rfl]
  unfold F_X12_one bop
  rw [if_neg (show ¬ ((14 : Int32) = 2) by decide), if_neg (show ¬ ((14 : Int32) = 3) by decide), if_neg (show ¬ ((14 : Int32) = 4) by decide), if_neg (show ¬ ((14 : Int32) = 5) by decide), if_neg (show ¬ ((14 : Int32) = 6) by decide), if_neg (show ¬ ((14 : Int32) = 7) by decide), if_neg (show ¬ ((14 : Int32) = 8) by decide), if_neg (show ¬ ((14 : Int32) = 9) by decide), if_neg (show ¬ ((14 : Int32) = 10) by decide), if_neg (show ¬ ((14 : Int32) = 12) by decide), if_pos rfl, if_neg (show ¬ ((14 : Nat) = 2) by decide), if_neg (show ¬ ((14 : Nat) = 3) by decide), if_neg (show ¬ ((14 : Nat) = 4) by decide), if_neg (show ¬ ((14 : Nat) = 5) by decide), if_neg (show ¬ ((14 : Nat) = 6) by decide), if_neg (show ¬ ((14 : Nat) = 7) by decide), if_neg (show ¬ ((14 : Nat) = 8) by decide), if_neg (show ¬ ((14 : Nat) = 9) by decide), if_neg (show ¬ ((14 : Nat) = 10) by decide), if_neg (show ¬ ((14 : Nat) = 12) by decide), if_pos rfl]
  by_cases q : y = 0
  · rw [if_pos ((lg_cmp_eq y 0).mpr q), if_pos q]
  · rw [if_neg (fun z => q ((lg_cmp_eq y 0).mp z)), if_neg q, if_neg q]
theorem M_one13 (x y : Int64) (σ : PS) : F_X12_one n (nI 13) x y σ = some (bop 13 x y, σ) := by
  rw [show nI 13 = (13 : Int32) from rfl]
  unfold F_X12_one bop
  rw [if_neg (show ¬ ((13 : Int32) = 2) by decide), if_neg (show ¬ ((13 : Int32) = 3) by decide), if_neg (show ¬ ((13 : Int32) = 4) by decide), if_neg (show ¬ ((13 : Int32) = 5) by decide), if_neg (show ¬ ((13 : Int32) = 6) by decide), if_neg (show ¬ ((13 : Int32) = 7) by decide), if_neg (show ¬ ((13 : Int32) = 8) by decide), if_neg (show ¬ ((13 : Int32) = 9) by decide), if_neg (show ¬ ((13 : Int32) = 10) by decide), if_neg (show ¬ ((13 : Int32) = 12) by decide), if_neg (show ¬ ((13 : Int32) = 14) by decide), if_neg (show ¬ ((13 : Nat) = 2) by decide), if_neg (show ¬ ((13 : Nat) = 3) by decide), if_neg (show ¬ ((13 : Nat) = 4) by decide), if_neg (show ¬ ((13 : Nat) = 5) by decide), if_neg (show ¬ ((13 : Nat) = 6) by decide), if_neg (show ¬ ((13 : Nat) = 7) by decide), if_neg (show ¬ ((13 : Nat) = 8) by decide), if_neg (show ¬ ((13 : Nat) = 9) by decide), if_neg (show ¬ ((13 : Nat) = 10) by decide), if_neg (show ¬ ((13 : Nat) = 12) by decide), if_neg (show ¬ ((13 : Nat) = 14) by decide)]
theorem M_one {s : Nat} (h2 : 2 ≤ s) (h14 : s ≤ 14) (h11 : s ≠ 11) (x y : Int64) (σ : PS) : F_X12_one n (nI s) x y σ = some (bop s x y, σ) := by
  have hs : s = 2 ∨ s = 3 ∨ s = 4 ∨ s = 5 ∨ s = 6 ∨ s = 7 ∨ s = 8 ∨ s = 9 ∨ s = 10 ∨ s = 12 ∨ s = 13 ∨ s = 14 := by omega
  rcases hs with e | e | e | e | e | e | e | e | e | e | e | e <;> subst e
  · exact M_one2 x y σ
  · exact M_one3 x y σ
  · exact M_one4 x y σ
  · exact M_one5 x y σ
  · exact M_one6 x y σ
  · exact M_one7 x y σ
  · exact M_one8 x y σ
  · exact M_one9 x y σ
  · exact M_one10 x y σ
  · exact M_one12 x y σ
  · exact M_one13 x y σ
  · exact M_one14 x y σ
theorem M_reck8 {r : Nat} (hr : r < 6) {w : Nat → Int64} : ∀ (c : List Nat) (k i : Nat) (σ : PS) (s s' : List Bool) (st : List Int64), (∀ t ∈ c, okT t) → tyc c s = some s' → tvs s st → (∀ j, j < c.length → σ.1 251 (400 * r + i + j) = nI (c.getD j 0)) → (∀ k, k < 11 → σ.2 258 k = w k) → skM σ st → st.length + nvl c ≤ 60 → c.length < k → i + c.length ≤ 400 → ∃ τ, L_X12_reckons_8 n k (nI r) (nI (i + c.length)) (nI i) σ = some τ ∧ skM τ (ev w c st) ∧ agm [257] [18] σ τ
  | [], 0, i, σ, s, s', st, hok, hty, hv, hsg, hw, hsk, hln, hk, hi => by simp at hk
  | [], k + 1, i, σ, s, s', st, hok, hty, hv, hsg, hw, hsk, hln, hk, hi => by
    rw [L_X12_reckons_8, if_pos (nI_le (by simp) (by simp at hi ⊢; omega))]
    exact ⟨σ, rfl, hsk, agm_refl⟩
  | t :: c, 0, i, σ, s, s', st, hok, hty, hv, hsg, hw, hsk, hln, hk, hi => by simp at hk
  | t :: c, k + 1, i, σ, s, s', st, hok, hty, hv, hsg, hw, hsk, hln, hk, hi => by
    simp only [tyc] at hty
    cases e : ty1 t s with
    | none => rw [e] at hty; cases hty
    | some s1 =>
      rw [e, Option.bind_some] at hty
      have hT := hok t (by simp)
      have ht31 : t < 2 ^ 31 := by unfold okT at hT; omega
      simp only [List.length_cons] at hk hi hsg ⊢
      have hev := ev1_ty (w := w) e hv []
      have hlen1 : (ev1 w t st).length ≤ st.length + (if t % 16 ≤ 1 then 1 else 0) := by
        rw [tvs_len _ _ hev.1, tvs_len _ _ hv]; exact ty1_len e
      have hnv : nvl (t :: c) = (if t % 16 ≤ 1 then 1 else 0) + nvl c := rfl
      rw [hnv] at hln
      have fin : ∀ τ, skM τ (ev1 w t st) → agm [257] [18] σ τ → ∃ υ, L_X12_reckons_8 n k (nI r) (nI (i + (c.length + 1))) (nI (i + 1)) τ = some υ ∧ skM υ (ev w (t :: c) st) ∧ agm [257] [18] σ υ := by
        intro τ h1 h2
        obtain ⟨υ, a, b, d⟩ := M_reck8 hr (w := w) c k (i + 1) τ s1 s' (ev1 w t st) (fun x hx => hok x (by simp [hx])) hty hev.1 (fun j hj => by
            rw [(h2.1 251 (by simp) (by decide)).1, show 400 * r + (i + 1) + j = 400 * r + i + (j + 1) by omega, hsg (j + 1) (by omega)]; rfl) (fun x hx => by
            rw [(h2.1 258 (by simp) (by decide)).2]; exact hw x hx) h1 (by omega) (by omega) (by omega)
        exact ⟨υ, by rw [show i + (c.length + 1) = i + 1 + c.length by omega]; exact a, b, agm_trans h2 d⟩
      have h0 : σ.1 251 (400 * r + i) = nI t := hsg 0 (by omega)
      rw [L_X12_reckons_8, if_neg (nI_ge (by omega) (by omega))]
      simp (disch := omega) only [nI_lit, nI_mul, nI_add, nI_ge0, nI_clamp, true_and]
      rw [if_pos (by omega)]
      simp only [h0, nI_and15, nI_shr4 ht31]
      simp (disch := omega) only [nI_eq]
      by_cases e0 : t % 16 = 0
      · rw [if_pos e0, nI_l (by omega)]
        obtain ⟨τ, a, b, d⟩ := M_push (n := n) hsk (by omega) (lN (t / 16))
        rw [a, Option.bind_some]
        exact fin τ (by rw [ev1_0 e0]; exact b) d
      by_cases e1 : t % 16 = 1
      · have h11 : t / 16 < 11 := by unfold okT at hT; omega
        rw [if_neg e0, if_pos e1]
        simp (disch := omega) only [nI_ge0, nI_clamp, true_and]
        rw [if_pos h11, hw _ h11]
        obtain ⟨τ, a, b, d⟩ := M_push (n := n) hsk (by omega) (w (t / 16))
        rw [a, Option.bind_some]
        exact fin τ (by rw [ev1_1 e1]; exact b) d
      rw [if_neg e0, if_neg e1]
      by_cases e11 : t % 16 = 11
      · obtain ⟨v, st', q, hv01⟩ := ty1_not e e11 hv
        subst q
        simp only [List.length_cons] at hln
        rw [if_pos e11]
        obtain ⟨τ, a, b, d⟩ := M_pop (n := n) hsk (by omega)
        rw [a, Option.bind_some]
        obtain ⟨τ2, a2, b2, d2⟩ := M_push (n := n) b (by omega) (1 - v)
        show ∃ τ_1, (F_X12_push n (1 - v) τ).bind _ = some τ_1 ∧ _
        rw [a2, Option.bind_some]
        exact fin τ2 (by rw [ev1_11 e11, ← one_sub hv01]; exact b2) (agm_trans d d2)
      · obtain ⟨y, x, st', q⟩ := ty1_bin e e0 e1 e11 hv
        subst q
        simp only [List.length_cons] at hln
        have ht2 : 2 ≤ t % 16 ∧ t % 16 ≤ 14 := by unfold okT at hT; omega
        rw [if_neg e11]
        obtain ⟨τ, a, b, d⟩ := M_pop (n := n) hsk (by simp only [List.length_cons]; omega)
        rw [a, Option.bind_some]
        obtain ⟨τ2, a2, b2, d2⟩ := M_pop (n := n) b (by omega)
        show ∃ τ_1, (F_X12_pop n τ).bind _ = some τ_1 ∧ _
        rw [a2, Option.bind_some]
        show ∃ τ_1, (F_X12_one n (nI (t % 16)) x y τ2).bind _ = some τ_1 ∧ _
        rw [M_one ht2.1 ht2.2 e11, Option.bind_some]
        obtain ⟨τ3, a3, b3, d3⟩ := M_push (n := n) b2 (by omega) (bop (t % 16) x y)
        show ∃ τ_1, (F_X12_push n (bop (t % 16) x y) τ2).bind _ = some τ_1 ∧ _
        rw [a3, Option.bind_some]
        exact fin τ3 (by rw [ev1_b e0 e1 e11]; exact b3) (agm_trans d (agm_trans d2 d3))
theorem M_reckons {r : Nat} (hr : r < 6) (hn : 1000 ≤ n) {w : Nat → Int64} {c : List Nat} {i : Nat} {σ : PS} {bb : Bool} (hok : ∀ t ∈ c, okT t) (hty : tyc c [] = some [bb]) (hsg : ∀ j, j < c.length → σ.1 251 (400 * r + i + j) = nI (c.getD j 0)) (hw : ∀ k, k < 11 → σ.2 258 k = w k) (hln : nvl c ≤ 60) (hi : i + c.length ≤ 400) : ∃ τ, F_X12_reckons n (nI r) (nI i) (nI (i + c.length)) σ = some ((ev w c []).headD 0, τ) ∧ agm [257] [18] σ τ ∧ (bb = true → (ev w c []).headD 0 = 0 ∨ (ev w c []).headD 0 = 1) := by
  unfold F_X12_reckons
  have h0 : agm [257] [18] σ (psI σ 249 18 0) := agm_fld (by simp)
  obtain ⟨τ, a, b, d⟩ := M_reck8 (n := n) hr (w := w) c n i (psI σ 249 18 0) [] [bb] [] hok hty trivial (fun j hj => by rw [psI_other (by decide)]; exact hsg j hj) hw ⟨by rw [psI_eq, if_pos rfl]; rfl, trivial⟩ (by simpa using hln) (by omega) hi
  rw [a, Option.bind_some]
  have hv := (ev_ty (w := w) c [] [bb] [] hty trivial []).1
  generalize ev w c [] = o at b hv ⊢
  cases o with
  | nil => exact hv.elim
  | cons v o =>
    cases o with
    | cons v' o => exact hv.2.elim
    | nil =>
      obtain ⟨τ2, a2, b2, d2⟩ := M_pop (n := n) b (by decide)
      rw [a2]
      exact ⟨τ2, rfl, agm_trans h0 (agm_trans d d2), fun q => hv.1 q⟩
/-- the reference's rows of a rule: ρ the clauses, q the tokens -/
def clM (ρ q : Nat → Int32) : List CL → Nat → Nat → Prop
  | [], _, _ => True
  | k :: cs, j, b => ρ (4 * j) = nI b ∧ ρ (4 * j + 1) = nI (b + k.1.length) ∧ ρ (4 * j + 2) = (if k.2.2 = true then nI (b + k.1.length) else m1) ∧ ρ (4 * j + 3) = nI (b + k.1.length + k.2.1.length) ∧ (∀ i, i < k.1.length → q (b + i) = nI (k.1.getD i 0)) ∧ (∀ i, i < k.2.1.length → q (b + k.1.length + i) = nI (k.2.1.getD i 0)) ∧ b + k.1.length + k.2.1.length ≤ 400 ∧ clM ρ q cs (j + 1) (b + k.1.length + k.2.1.length)
def stM (σ : PS) (r : Nat) (cs : List CL) : Prop := cs.length ≤ 12 ∧ σ.1 254 r = nI cs.length ∧ (∀ k ∈ cs, okCl k) ∧ clM (fun k => σ.1 253 (48 * r + k)) (fun k => σ.1 251 (400 * r + k)) cs 0 0
theorem M_sumBy2 {r : Nat} (hr : r < 6) (hn : 1000 ≤ n) {w : Nat → Int64} {m : Nat} (hm : m ≤ 12) : ∀ (cs : List CL) (k j b : Nat) (σ : PS), (∀ k ∈ cs, okCl k) → clM (fun k => σ.1 253 (48 * r + k)) (fun k => σ.1 251 (400 * r + k)) cs j b → j + cs.length = m → σ.1 254 r = nI m → (∀ k, k < 11 → σ.2 258 k = w k) → cs.length < k → ∃ o, L_X12_summedBy_2 n k (nI r) (nI j) σ = some o ∧ agm [257] [18] σ o.2.2.2 ∧ ((o.1 = 1 ∧ fC w cs = 0) ∨ (∃ u c i, o = (0, nI r, nI (48 * r + 4 * u), o.2.2.2) ∧ u < m ∧ σ.1 253 (48 * r + 4 * u) = nI i ∧ σ.1 253 (48 * r + 4 * u + 1) = nI (i + c.length) ∧ (∀ t ∈ c, okT t) ∧ tyc c [] = some [false] ∧ nvl c ≤ 60 ∧ i + c.length ≤ 400 ∧ (∀ x, x < c.length → σ.1 251 (400 * r + i + x) = nI (c.getD x 0)) ∧ fC w cs = (ev w c []).headD 0))
  | [], 0, j, b, σ, hok, hcl, hj, hz, hw, hk => by simp at hk
  | [], k + 1, j, b, σ, hok, hcl, hj, hz, hw, hk => by
    simp only [List.length_nil, Nat.add_zero] at hj
    subst hj
    rw [L_X12_summedBy_2]
    simp (disch := omega) only [nI_lit, nI_ge0, nI_clamp, true_and]
    rw [if_pos hr, hz, if_pos (nI_le (Nat.le_refl _) (by omega))]
    exact ⟨_, rfl, agm_refl, Or.inl ⟨rfl, rfl⟩⟩
  | c :: cs, 0, j, b, σ, hok, hcl, hj, hz, hw, hk => by simp at hk
  | c :: cs, k + 1, j, b, σ, hok, hcl, hj, hz, hw, hk => by
    simp only [List.length_cons] at hj hk
    obtain ⟨c1, c2, c3, c4, c5, c6, c7, c8⟩ := hcl
    obtain ⟨o1, o2, o3, o4, o5, o6⟩ := hok c (by simp)
    rw [L_X12_summedBy_2]
    simp (disch := omega) only [nI_lit, nI_mul, nI_add, nI_ge0, nI_clamp, true_and]
    rw [if_pos hr, hz, if_neg (nI_ge (by omega) (by omega)), if_pos (by omega), show σ.1 253 (48 * r + 4 * j + 2) = _ from c3]
    have res : ∀ τ, agm [257] [18] σ τ → fC w (c :: cs) = (ev w c.1 []).headD 0 → ∃ o, (some (0, nI r, nI (48 * r + 4 * j), τ) : Option (Nat × Int32 × Int32 × PS)) = some o ∧ agm [257] [18] σ o.2.2.2 ∧ ((o.1 = 1 ∧ fC w (c :: cs) = 0) ∨ (∃ u c_1 i, o = (0, nI r, nI (48 * r + 4 * u), o.2.2.2) ∧ u < m ∧ σ.1 253 (48 * r + 4 * u) = nI i ∧ σ.1 253 (48 * r + 4 * u + 1) = nI (i + c_1.length) ∧ (∀ t ∈ c_1, okT t) ∧ tyc c_1 [] = some [false] ∧ nvl c_1 ≤ 60 ∧ i + c_1.length ≤ 400 ∧ (∀ x, x < c_1.length → σ.1 251 (400 * r + i + x) = nI (c_1.getD x 0)) ∧ fC w (c :: cs) = (ev w c_1 []).headD 0)) := fun τ ha hf =>
      ⟨_, rfl, ha, Or.inr ⟨j, c.1, b, rfl, by omega, c1, c2, o1, o3, by omega, by omega, fun x hx => by rw [Nat.add_assoc]; exact c5 x hx, hf⟩⟩
    by_cases ef : c.2.2 = true
    · rw [if_pos ef, if_neg (nI_n0 (by omega)), if_pos (by omega), show σ.1 253 (48 * r + 4 * j + 3) = _ from c4]
      obtain ⟨τ, a, d, h01⟩ := M_reckons (n := n) hr hn (w := w) (c := c.2.1) (i := b + c.1.length) (σ := σ) o2 (o4 ef) (fun x hx => by rw [Nat.add_assoc]; exact c6 x hx) hw (by omega) c7
      rw [a, Option.bind_some]
      show ∃ o, (if lg_cmp ((ev w c.2.1 []).headD 0) 1 = nI 0 then _ else _) = some o ∧ _
      rcases h01 rfl with h | h
      · rw [if_neg (fun q => by have := (lg_cmp_eq _ _).mp q; rw [h] at this; cases this)]
        have hf : fC w (c :: cs) = fC w cs := by
          show (if c.2.2 = true ∧ (ev w c.2.1 []).headD 0 = 0 then fC w cs else (ev w c.1 []).headD 0) = _
          rw [if_pos ⟨ef, h⟩]
        have e251 := (d.1 251 (by simp) (by decide)).1
        have e253 := (d.1 253 (by simp) (by decide)).1
        have e254 := (d.1 254 (by simp) (by decide)).1
        obtain ⟨o, q1, q2, q3⟩ := M_sumBy2 hr hn (w := w) hm cs k (j + 1) (b + c.1.length + c.2.1.length) τ (fun x hx => hok x (by simp [hx])) (by rw [e251, e253]; exact c8) (by omega) (by rw [e254]; exact hz) (fun x hx => by rw [(d.1 258 (by simp) (by decide)).2]; exact hw x hx) (by omega)
        rw [e251, e253] at q3
        rw [hf]
        exact ⟨o, q1, agm_trans d q2, q3⟩
      · rw [if_pos (show lg_cmp ((ev w c.2.1 []).headD 0) 1 = nI 0 from (lg_cmp_eq _ _).mpr h)]
        exact res τ d (by
          show (if c.2.2 = true ∧ (ev w c.2.1 []).headD 0 = 0 then fC w cs else (ev w c.1 []).headD 0) = _
          rw [if_neg (fun q => by rw [h] at q; cases q.2)])
    · rw [if_neg ef, if_pos m1_lt0]
      exact res σ agm_refl (by
        show (if c.2.2 = true ∧ (ev w c.2.1 []).headD 0 = 0 then fC w cs else (ev w c.1 []).headD 0) = _
        rw [if_neg (fun q => ef q.1)])
theorem M_ruM {r : Nat} (hr : r < 6) (hn : 1000 ≤ n) {σ : PS} {cs : List CL} (h : stM σ r cs) : ruM n σ r (fun w => fC w cs) := by
  intro τ w e1 e2 e3 hw
  obtain ⟨h1, h2, h3, h4⟩ := h
  obtain ⟨o, a, b, d⟩ := M_sumBy2 (n := n) hr hn (w := w) h1 cs n 0 0 τ h3 (by rw [e1, e2]; exact h4) (by omega) (by rw [e3]; exact h2) hw (by omega)
  unfold F_X12_summedBy
  rw [show (0 : Int32) = nI 0 from rfl, a, Option.bind_some]
  rcases d with ⟨d1, d2⟩ | ⟨u, c, i, d1, d2, d3, d4, d5, d6, d7, d8, d9, d10⟩
  · rw [if_neg (by rw [d1]; decide)]
    refine ⟨_, ?_, b⟩
    show some ((0 : Int64), o.2.2.2) = some (fC w cs, o.2.2.2)
    rw [d2]
  · have eo : o.2.2.1 = nI (48 * r + 4 * u) := by rw [d1]
    have eo1 : o.2.1 = nI r := by rw [d1]
    have eo0 : o.1 = 0 := by rw [d1]
    rw [if_pos eo0, eo, eo1]
    have e251 := (b.1 251 (by simp) (by decide)).1
    have e253 := (b.1 253 (by simp) (by decide)).1
    simp (disch := omega) only [nI_lit, nI_add, nI_ge0, nI_clamp, true_and]
    rw [if_pos (by omega), if_pos (by omega), e253, d3, d4]
    obtain ⟨υ, p1, p2, p3⟩ := M_reckons (n := n) hr hn (w := w) (c := c) (i := i) (σ := o.2.2.2) d5 d6 (fun x hx => by rw [e251]; exact d9 x hx) (fun x hx => by rw [(b.1 258 (by simp) (by decide)).2]; exact hw x hx) d7 d8
    rw [p1]
    refine ⟨υ, ?_, agm_trans b p2⟩
    show some ((ev w c []).headD 0, υ) = some (fC w cs, υ)
    rw [d10]
end MR
