/-! The reference's readers over its row 'said' (259) as natural numbers S. -/
section MW
variable {n : Nat} {σ : PS} {S : Nat → Nat}
theorem M_cells (hS : rowN σ 259 S) : F_X12_cells n σ = some (nI (S 1 * S 1), σ) := by
  unfold F_X12_cells
  rw [rowN_get hS, nI_mul]
theorem M_cellOf (hS : rowN σ 259 S) {t : Nat} (ht : t < 6) : F_X12_cellOf n (nI t) σ = some (nI (S (13 + 4 * t)), σ) := by
  unfold F_X12_cellOf
  simp (disch := omega) only [nI_lit, nI_mul, nI_add, nI_ge0, nI_clamp, true_and]
  rw [if_pos (by omega), rowN_get hS]
theorem M_nerveOf (hS : rowN σ 259 S) {t : Nat} (ht : t < 6) : F_X12_nerveOf n (nI t) σ = some (nI (S (13 + 4 * t + 1)), σ) := by
  unfold F_X12_nerveOf
  simp (disch := omega) only [nI_lit, nI_mul, nI_add, nI_ge0, nI_clamp, true_and]
  rw [if_pos (by omega), rowN_get hS]
theorem M_askedOf (hS : rowN σ 259 S) {t : Nat} (ht : t < 6) : F_X12_askedOf n (nI t) σ = some (nI (S (13 + 4 * t + 2)), σ) := by
  unfold F_X12_askedOf
  simp (disch := omega) only [nI_lit, nI_mul, nI_add, nI_ge0, nI_clamp, true_and]
  rw [if_pos (by omega), rowN_get hS]
theorem M_knownBy (hS : rowN σ 259 S) {t : Nat} (ht : t < 6) : F_X12_knownBy n (nI t) σ = some (nI (S (13 + 4 * t + 3)), σ) := by
  unfold F_X12_knownBy
  simp (disch := omega) only [nI_lit, nI_mul, nI_add, nI_ge0, nI_clamp, true_and]
  rw [if_pos (by omega), rowN_get hS]
theorem M_isBush (hS : rowN σ 259 S) {c : Nat} (hc : c < 36) (hb : S (37 + c) < 2 ^ 31) : F_X12_isBush n (nI c) σ = some (if S (37 + c) = 0 then 0 else 1, σ) := by
  unfold F_X12_isBush
  simp (disch := omega) only [nI_lit, nI_mul, nI_add, nI_ge0, nI_clamp, true_and, rowN_get hS, nI_leI]
  rw [if_pos (by omega)]
  by_cases h : S (37 + c) = 0
  · rw [if_pos (by omega), if_pos h]
  · rw [if_neg (by omega), if_neg h]
theorem M_isCamp (hS : rowN σ 259 S) (h : S 0 < 2 ^ 31) : F_X12_isCamp n σ = some (if S 0 = 1 then 1 else 0, σ) := by
  unfold F_X12_isCamp
  simp (disch := omega) only [nI_lit, rowN_get hS, nI_eq]
  split <;> rfl
/-- the cell beside one on a way out; 99: none -/
def nb (sd c d : Nat) : Nat := if d = 0 then (if c % sd = 0 then 99 else c - 1) else if d = 1 then (if c % sd = sd - 1 then 99 else c + 1) else if d = 2 then (if c < sd then 99 else c - sd) else (if c + sd < sd * sd then c + sd else 99)
def oI (k : Nat) : Int32 := if k = 99 then m1 else nI k
theorem M_besideOf (hS : rowN σ 259 S) (h1 : 2 ≤ S 1) (h2 : S 1 ≤ 6) {c d : Nat} (hc : c < S 1 * S 1) (hd : d < 4) : F_X12_besideOf n (nI c) (nI d) σ = some (oI (nb (S 1) c d), σ) := by
  have h36 : S 1 * S 1 ≤ 36 := by
    have := Nat.mul_le_mul h2 h2
    omega
  unfold F_X12_besideOf
  simp only [M_cells hS, Option.bind_some]
  simp (disch := omega) only [nI_lit, rowN_get hS, nI_eq, nI_rem, nI_leI, nI_add, neg1_m, nb]
  generalize S 1 * S 1 = q at *
  have h0 : c % S 1 < S 1 := Nat.mod_lt _ (by omega)
  have h3 : c % S 1 ≤ c := Nat.mod_le _ _
  by_cases e0 : d = 0
  · simp only [e0, if_true]
    rw [if_neg (by omega)]
    simp (disch := omega) only [nI_eq]
    by_cases e : c % S 1 = 0
    · rw [if_pos e, if_pos e]; rfl
    · rw [if_neg e, if_neg e, nI_sub (by omega)]
      unfold oI
      rw [if_neg (by omega)]
  · simp only [e0, if_false]
    by_cases e1 : d = 1
    · simp only [e1, if_true]
      rw [if_neg (by omega), nI_sub (by omega)]
      simp (disch := omega) only [nI_eq]
      by_cases e : c % S 1 = S 1 - 1
      · rw [if_pos e, if_pos e]; rfl
      · rw [if_neg e, if_neg e]
        unfold oI
        rw [if_neg (by omega)]
    · simp only [e1, if_false]
      by_cases e2 : d = 2
      · simp only [e2, if_true]
        by_cases e : c < S 1
        · rw [if_neg (by omega), if_pos e]; rfl
        · rw [if_pos (by omega), if_neg e, nI_sub (by omega)]
          unfold oI
          rw [if_neg (by omega)]
      · simp only [e2, if_false]
        by_cases e : c + S 1 < q
        · rw [if_neg (by omega), if_pos e]
          unfold oI
          rw [if_neg (by omega)]
        · rw [if_pos (by omega), if_neg e]; rfl
end MW
