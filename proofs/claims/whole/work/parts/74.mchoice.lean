/-! The reference's sum of a cell by a rule, its choice. -/
theorem psJ_I {σ : PS} {i k : Nat} {v : Int64} : (psJ σ i k v).1 = σ.1 := rfl
theorem psJ_eq {σ : PS} {i k : Nat} {v : Int64} (b : Nat) : (psJ σ i k v).2 i b = if b = k then v else σ.2 i b := by simp [psJ]
theorem psJ_other {σ : PS} {i j k : Nat} {v : Int64} (h : j ≠ i) : (psJ σ i k v).2 j = σ.2 j := (psJ_ne h).2
/-- what a world must keep; b bounds steps and askings -/
def okW (S : Nat → Nat) (b : Nat) : Prop := 2 ≤ S 1 ∧ S 1 ≤ 6 ∧ S 2 ≤ 6 ∧ S 11 < S 1 * S 1 ∧ (∀ t, t < S 2 → S (13 + 4 * t) < S 1 * S 1 ∧ S (13 + 4 * t + 1) ≤ 99 ∧ S (13 + 4 * t + 2) ≤ b ∧ S (13 + 4 * t + 3) < 2 ^ S 2) ∧ S 12 < 2 ^ S 2 ∧ (∀ c, c < 36 → S (37 + c) ≤ 1 ∧ S (73 + c) ≤ b) ∧ S 10 ≤ b
theorem okW_36 {S : Nat → Nat} {b : Nat} (h : okW S b) : S 1 * S 1 ≤ 36 := by
  have := Nat.mul_le_mul h.2.1 h.2.1
  omega
theorem pow_64 {k : Nat} (h : k ≤ 6) : 2 ^ k ≤ 64 := by
  have : (2 : Nat) ^ k ≤ 2 ^ 6 := Nat.pow_le_pow_right (by decide) h
  exact this
theorem aAll_le {S : Nat → Nat} {b : Nat} (h : ∀ t, t < S 2 → S (13 + 4 * t + 2) ≤ b) : ∀ k, k ≤ S 2 → aAll S k ≤ k * b
  | 0, _ => by simp [aAll]
  | k + 1, hk => by
    have := aAll_le h k (by omega)
    have := h k (by omega)
    unfold aAll
    rw [Nat.add_mul]
    omega
theorem bsK_le (S : Nat → Nat) (c : Nat) : ∀ k, bsK S c k ≤ k
  | 0 => Nat.le_refl _
  | k + 1 => by
    have := bsK_le S c k
    unfold bsK
    split <;> omega
/-- the words of a cell -/
noncomputable def wrd (S : Nat → Nat) (c : Nat) : Nat → Int64 := fun k => lN (if k = 0 then c else if k = 1 then c / S 1 else if k = 2 then c % S 1 else if k = 3 then pcn (tOn S c (S 2)) else if k = 4 then nvK S c (S 2) else if k = 5 then S (73 + c) else if k = 6 then nr S c else if k = 7 then bsK S c 4 else if k = 8 then pcn (S 12) else if k = 9 then aAll S (S 2) else S 10)
/-- rule r of the reference reckons as f does -/
def ruM (n : Nat) (σ : PS) (r : Nat) (f : (Nat → Int64) → Int64) : Prop := ∀ (τ : PS) (w : Nat → Int64), τ.1 251 = σ.1 251 → τ.1 253 = σ.1 253 → τ.1 254 = σ.1 254 → (∀ k, k < 11 → τ.2 258 k = w k) → ∃ υ, F_X12_summedBy n (nI r) τ = some (f w, υ) ∧ agm [257] [18] τ υ
theorem ruM_agm {n : Nat} {σ τ : PS} {r : Nat} {f : (Nat → Int64) → Int64} {T Fs : List Nat} (h : ruM n σ r f) (ha : agm T Fs σ τ) (h1 : 251 ∉ T) (h2 : 253 ∉ T) (h3 : 254 ∉ T) : ruM n τ r f := fun υ w e1 e2 e3 hw => h υ w (e1.trans (ha.1 251 h1 (by decide)).1) (e2.trans (ha.1 253 h2 (by decide)).1) (e3.trans (ha.1 254 h3 (by decide)).1) hw
section MC
variable {n b : Nat} {S : Nat → Nat}
theorem M_nearest' (hn : 100 ≤ n) {σ : PS} (hS : rowN σ 259 S) (hb : b < 2 ^ 20) (hw : okW S b) {fr : Nat} (hf : fr < S 1 * S 1) : ∃ τ, F_X12_nearest n (nI fr) σ = some (nI (nr S fr), τ) ∧ agr [260, 261] σ τ := M_nearest hn hS hw.1 hw.2.1 (fun c hc => by have := (hw.2.2.2.2.2.2.1 c hc).1; omega) hw.2.2.1 (fun t ht => (hw.2.2.2.2.1 t ht).1) (fun t ht => by have := (hw.2.2.2.2.1 t ht).2.2.1; omega) hf
theorem M_sumOf (hn : 100 ≤ n) {σ : PS} (hS : rowN σ 259 S) (hb : b < 2 ^ 20) (hw : okW S b) {r : Nat} {f : (Nat → Int64) → Int64} (hfo : σ.1 249 21 = nI r) (hru : ruM n σ r f) {c : Nat} (hc : c < S 1 * S 1) : ∃ τ, F_X12_sumOf n (nI c) σ = some (f (wrd S c), τ) ∧ agm [257, 258, 260, 261] [18] σ τ := by
  have h36 := okW_36 hw
  obtain ⟨h1, h1', h2, h11, ht, h12, hcb, h10⟩ := id hw
  have hbu : ∀ c, c < 36 → S (37 + c) < 2 ^ 31 := fun c hc => by have := (hcb c hc).1; omega
  have hcl : ∀ t, t < S 2 → S (13 + 4 * t) < 2 ^ 31 := fun t h => by have := (ht t h).1; omega
  have hnv : ∀ t, t < S 2 → S (13 + 4 * t + 1) < 2 ^ 31 := fun t h => by have := (ht t h).2.1; omega
  have htl := tOn_lt S c (S 2)
  have hp2 := pow_64 h2
  have e8 := M_sum8 (n := n) h2 hcl hnv (show c < 2 ^ 31 by omega) (x3 := nI 0) n 0 σ hS (by omega) (by omega)
  rw [show nvK S c 0 = 99 from rfl] at e8
  have e55 := M_sum55 (n := n) h1 h1' hbu hc (x2 := nI (nvK S c (S 2))) n 0 σ hS (by omega) (by omega)
  rw [show bsK S c 0 = 0 from rfl] at e55
  have hnvl := nvK_le S c (S 2)
  have hbsl := bsK_le S c 4
  have hnrl := nr_le S c
  have hpl := pcn_le (tOn S c (S 2)) (by omega)
  have hpl2 := pcn_le (S 12) (by omega)
  have hal := aAll_le (fun t h => (ht t h).2.2.1) (S 2) (Nat.le_refl _)
  have hal2 : S 2 * b ≤ 6 * b := Nat.mul_le_mul_right _ h2
  have hbe := (hcb c (by omega)).2
  have hdiv : c / S 1 ≤ c := Nat.div_le_self _ _
  have hmod : c % S 1 ≤ c := Nat.mod_le _ _
  unfold F_X12_sumOf
  simp only [nI_lit, e8, e55, Option.bind_some, psJ_I, rowN_get hS]
  rw [if_neg (nI_nz (show 0 < S 1 by omega) (by omega)), if_neg (nI_nz (show 0 < S 1 by omega) (by omega))]
  rw [M_tentsOn hn (rowN_psJ (rowN_psJ (rowN_psJ hS))) h2 hcl (by omega)]
  simp only [Option.bind_some]
  rw [M_bits hn (by omega)]
  simp (disch := omega) only [Option.bind_some, psJ_I, nI_add, nI_ge0, nI_clamp, true_and, rowN_get hS]
  rw [if_pos (by omega)]
  generalize hσ5 : psJ (psJ (psJ (psJ (psJ (psJ σ 258 0 _) 258 1 _) 258 2 _) 258 3 _) 258 4 _) 258 5 _ = σ5
  have hS5 : rowN σ5 259 S := by rw [← hσ5]; exact hS
  have ag5 : agm [257, 258, 260, 261] [18] σ σ5 := by
    rw [← hσ5]
    exact agm_trans (agm_trans (agm_trans (agm_trans (agm_trans (agm_psJ (by simp) (by decide)) (agm_psJ (by simp) (by decide))) (agm_psJ (by simp) (by decide))) (agm_psJ (by simp) (by decide))) (agm_psJ (by simp) (by decide))) (agm_psJ (by simp) (by decide))
  have w5 : ∀ k, k < 6 → σ5.2 258 k = wrd S c k := by
    intro k hk
    rw [← hσ5, show nI c - nI c / nI (S 1) * nI (S 1) = nI (c % S 1) from nI_rem (by omega) (by omega)]
    simp (disch := omega) only [psJ_eq, nI_l, nI_div]
    have : k = 0 ∨ k = 1 ∨ k = 2 ∨ k = 3 ∨ k = 4 ∨ k = 5 := by omega
    rcases this with q | q | q | q | q | q <;> subst q <;> rfl
  obtain ⟨τ6, e6, a6⟩ := M_nearest' hn hS5 hb hw hc
  rw [e6]
  simp only [Option.bind_some, psJ_I]
  have hS6 : rowN τ6 259 S := rowN_agr hS5 a6 (by decide)
  rw [rowN_get hS6, M_bits hn (show S 12 < 64 by omega)]
  simp only [Option.bind_some]
  rw [M_askedAll hn (rowN_psJ (rowN_psJ (rowN_psJ hS6))) h2]
  simp only [Option.bind_some, psJ_I, rowN_get hS6]
  generalize hσ7 : psJ (psJ (psJ (psJ (psJ τ6 258 6 _) 258 7 _) 258 8 _) 258 9 _) 258 10 _ = σ7
  have ag7 : agm [257, 258, 260, 261] [18] τ6 σ7 := by
    rw [← hσ7]
    exact agm_trans (agm_trans (agm_trans (agm_trans (agm_psJ (by simp) (by decide)) (agm_psJ (by simp) (by decide))) (agm_psJ (by simp) (by decide))) (agm_psJ (by simp) (by decide))) (agm_psJ (by simp) (by decide))
  have ag57 : agm [257, 258, 260, 261] [18] σ σ7 := agm_trans ag5 (agm_trans (agm_mono (agm_of a6 (by decide) (Fs := [])) (by simp) (by simp)) ag7)
  have w7 : ∀ k, k < 11 → σ7.2 258 k = wrd S c k := by
    intro k hk
    by_cases h6 : k < 6
    · rw [← hσ7]
      simp only [psJ_eq]
      rw [if_neg (by omega), if_neg (by omega), if_neg (by omega), if_neg (by omega), if_neg (by omega), (a6 258 (by decide)).2]
      exact w5 k h6
    · rw [← hσ7]
      simp (disch := omega) only [psJ_eq, nI_l]
      have : k = 6 ∨ k = 7 ∨ k = 8 ∨ k = 9 ∨ k = 10 := by omega
      rcases this with q | q | q | q | q <;> subst q <;> rfl
  have hfo6 : τ6.1 249 21 = nI r := by rw [congrFun (a6 249 (by decide)).1 21, (ag5.2 21 (by decide)).1]; exact hfo
  rw [hfo6]
  obtain ⟨υ, eu, au⟩ := hru σ7 (wrd S c) (ag57.1 251 (by decide) (by decide)).1 (ag57.1 253 (by decide) (by decide)).1 (ag57.1 254 (by decide) (by decide)).1 w7
  rw [eu]
  exact ⟨υ, rfl, agm_trans ag57 (agm_mono au (by simp) (by simp))⟩
end MC
