/-! The class's sets of cells as bits, and its worlds. -/
theorem lN_lit (k : Nat) : (@OfNat.ofNat Int64 k Int64.instOfNat) = lN k := rfl
/-- bits of a column, of all cells, as natural numbers -/
def fcN (sd : Nat) : Nat := [0, 0, 0x5, 0x49, 0x1111, 0x108421, 0x41041041].getD sd 0
def alN (sd : Nat) : Nat := [0, 0, 0xF, 0x1FF, 0xFFFF, 0x1FFFFFF, 0xFFFFFFFFF].getD sd 0
theorem fc_is : ∀ sd, sd < 7 → pTb2.getD sd 0 = lN (fcN sd) := by decide +kernel
theorem al_is : ∀ sd, sd < 7 → pTb3.getD sd 0 = lN (alN sd) := by decide +kernel
theorem fc_lt : ∀ sd, sd < 7 → fcN sd < 2 ^ 36 ∧ alN sd < 2 ^ 36 := by decide +kernel
theorem fc_bit : ∀ sd, sd < 7 → 2 ≤ sd → ∀ c, c < 64 → (fcN sd).testBit c = decide (c < sd * sd ∧ c % sd = 0) := by decide +kernel
theorem lc_bit : ∀ sd, sd < 7 → 2 ≤ sd → ∀ c, c < 64 → (fcN sd * 2 ^ (sd - 1)).testBit c = decide (c < sd * sd ∧ c % sd = sd - 1) := by decide +kernel
theorem lc_lt : ∀ sd, sd < 7 → 2 ≤ sd → fcN sd * 2 ^ (sd - 1) < 2 ^ 64 := by decide +kernel
theorem al_bit : ∀ sd, sd < 7 → 2 ≤ sd → ∀ c, c < 64 → (alN sd).testBit c = decide (c < sd * sd) := by decide +kernel
def allO : Nat := 2 ^ 64 - 1
theorem allO_is : (-1 : Int64) = lN allO := by decide
theorem allO_bit : ∀ c, c < 64 → allO.testBit c = true := by decide +kernel
theorem allO_lt : allO < 2 ^ 64 := by decide
theorem tb_out {m k c : Nat} (h : m < 2 ^ k) (hc : k ≤ c) : m.testBit c = false := Nat.testBit_lt_two_pow (Nat.lt_of_lt_of_le h (Nat.pow_le_pow_right (by decide) hc))
theorem not_bit {b c : Nat} (hc : c < 64) : (b ^^^ allO).testBit c = !b.testBit c := by
  rw [Nat.testBit_xor, allO_bit c hc]
  cases b.testBit c <;> rfl
theorem not_lt {b : Nat} (h : b < 2 ^ 64) : b ^^^ allO < 2 ^ 64 := Nat.xor_lt_two_pow h allO_lt
theorem and_lt {a b k : Nat} (h : a < 2 ^ k) : a &&& b < 2 ^ k := by rw [Nat.and_comm]; exact Nat.and_lt_two_pow b h
theorem lN_0 {m : Nat} (h : m < 2 ^ 64) : lN m = lN 0 ↔ m = 0 := by
  constructor
  · intro e
    have := congrArg (fun x => x.toBitVec.toNat) e
    simp only [wb_tn h, wb_tn (show 0 < 2 ^ 64 by decide)] at this
    exact this
  · intro e; rw [e]
theorem lN_inj {a b : Nat} (ha : a < 2 ^ 64) (hb : b < 2 ^ 64) : lN a = lN b ↔ a = b := by
  constructor
  · intro e
    have := congrArg (fun x => x.toBitVec.toNat) e
    simp only [wb_tn ha, wb_tn hb] at this
    exact this
  · intro e; rw [e]
/-- the cells beside those of m -/
def sprN (sd m : Nat) : Nat := (((m &&& (fcN sd ^^^ allO)) / 2 ^ 1 ||| (m &&& ((fcN sd * 2 ^ (sd - 1)) ^^^ allO)) * 2 ^ 1) ||| m / 2 ^ sd ||| m * 2 ^ sd) &&& alN sd
/-- m holds cells of the square alone -/
def inQ (sd m : Nat) : Prop := ∀ c, m.testBit c = true → c < sd * sd
theorem inQ_lt {sd m : Nat} (h36 : sd * sd ≤ 36) (h : inQ sd m) : m < 2 ^ 36 := by
  apply Nat.lt_pow_two_of_testBit
  intro i hi
  cases e : m.testBit i with
  | false => rfl
  | true => have := h i e; omega
theorem sprN_bit {sd m : Nat} (h1 : 2 ≤ sd) (h2 : sd ≤ 6) (hm : inQ sd m) {c : Nat} : (sprN sd m).testBit c = true ↔ c < sd * sd ∧ ∃ d, d < 4 ∧ nb sd c d ≠ 99 ∧ m.testBit (nb sd c d) = true := by
  have h36 : sd * sd ≤ 36 := by
    have := Nat.mul_le_mul h2 h2
    omega
  have hml := inQ_lt h36 hm
  by_cases hc : c < 64
  · unfold sprN
    rw [Nat.testBit_and, al_bit sd (by omega) h1 c hc]
    simp only [Nat.testBit_or, Nat.testBit_div_two_pow, Nat.testBit_mul_two_pow, Nat.testBit_and]
    by_cases hq : c < sd * sd
    · have hmod := Nat.mod_lt c (show 0 < sd by omega)
      have hdm := Nat.div_add_mod c sd
      have n0 : nb sd c 0 = if c % sd = 0 then 99 else c - 1 := rfl
      have n1 : nb sd c 1 = if c % sd = sd - 1 then 99 else c + 1 := rfl
      have n2 : nb sd c 2 = if c < sd then 99 else c - sd := rfl
      have n3 : nb sd c 3 = if c + sd < sd * sd then c + sd else 99 := rfl
      have hall : (∃ d, d < 4 ∧ nb sd c d ≠ 99 ∧ m.testBit (nb sd c d) = true) ↔ (nb sd c 0 ≠ 99 ∧ m.testBit (nb sd c 0) = true) ∨ (nb sd c 1 ≠ 99 ∧ m.testBit (nb sd c 1) = true) ∨ (nb sd c 2 ≠ 99 ∧ m.testBit (nb sd c 2) = true) ∨ (nb sd c 3 ≠ 99 ∧ m.testBit (nb sd c 3) = true) := by
        constructor
        · rintro ⟨d, hd, h⟩
          have : d = 0 ∨ d = 1 ∨ d = 2 ∨ d = 3 := by omega
          rcases this with q | q | q | q <;> subst q
          · exact Or.inl h
          · exact Or.inr (Or.inl h)
          · exact Or.inr (Or.inr (Or.inl h))
          · exact Or.inr (Or.inr (Or.inr h))
        · rintro (h | h | h | h)
          · exact ⟨0, by omega, h⟩
          · exact ⟨1, by omega, h⟩
          · exact ⟨2, by omega, h⟩
          · exact ⟨3, by omega, h⟩
      rw [hall]
      -- the four pieces
      have p1 : (m.testBit (1 + c) && (fcN sd ^^^ allO).testBit (1 + c)) = true ↔ (nb sd c 1 ≠ 99 ∧ m.testBit (nb sd c 1) = true) := by
        by_cases hl : 1 + c < 64
        · rw [not_bit hl, fc_bit sd (by omega) h1 _ hl, n1]
          by_cases e : c % sd = sd - 1
          · rw [if_pos e]
            constructor
            · intro h
              simp only [Bool.and_eq_true, Bool.not_eq_true', decide_eq_false_iff_not] at h
              have hb := hm _ h.1
              exfalso
              apply h.2
              refine ⟨hb, ?_⟩
              have : (1 + c) = sd * (c / sd + 1) := by rw [Nat.mul_add, Nat.mul_one]; omega
              rw [this]; exact Nat.mul_mod_right _ _
            · intro h; exact absurd rfl h.1
          · rw [if_neg e]
            have hmm : (1 + c) % sd ≠ 0 := by
              intro z
              have : (1 + c) % sd = c % sd + 1 := by
                have e1 : 1 + c = (c % sd + 1) + sd * (c / sd) := by omega
                rw [e1, Nat.add_mul_mod_self_left]
                exact Nat.mod_eq_of_lt (by omega)
              omega
            rw [Nat.add_comm 1 c] at hmm ⊢
            constructor
            · intro h
              simp only [Bool.and_eq_true] at h
              exact ⟨by omega, h.1⟩
            · intro h
              simp only [Bool.and_eq_true, Bool.not_eq_true', decide_eq_false_iff_not]
              exact ⟨h.2, fun q => hmm q.2⟩
        · omega
      have p0 : (decide (1 ≤ c) && (m.testBit (c - 1) && ((fcN sd * 2 ^ (sd - 1)) ^^^ allO).testBit (c - 1))) = true ↔ (nb sd c 0 ≠ 99 ∧ m.testBit (nb sd c 0) = true) := by
        rw [not_bit (by omega), lc_bit sd (by omega) h1 _ (by omega), n0]
        by_cases e : c % sd = 0
        · rw [if_pos e]
          constructor
          · intro h
            simp only [Bool.and_eq_true, Bool.not_eq_true', decide_eq_false_iff_not, decide_eq_true_eq] at h
            exfalso
            apply h.2.2
            refine ⟨by omega, ?_⟩
            have hcd : 1 ≤ c / sd := by
              apply Nat.one_le_iff_ne_zero.mpr
              intro z
              rw [z] at hdm
              omega
            have e1 : c - 1 = (sd - 1) + sd * (c / sd - 1) := by
              have : sd * (c / sd) = sd * (c / sd - 1) + sd := by
                have e2 : c / sd = (c / sd - 1) + 1 := by omega
                rw [e2, Nat.mul_add, Nat.mul_one]
                rfl
              omega
            rw [e1, Nat.add_mul_mod_self_left]
            exact Nat.mod_eq_of_lt (by omega)
          · intro h; exact absurd rfl h.1
        · rw [if_neg e]
          have hmm : (c - 1) % sd ≠ sd - 1 := by
            have e1 : c - 1 = (c % sd - 1) + sd * (c / sd) := by omega
            rw [e1, Nat.add_mul_mod_self_left, Nat.mod_eq_of_lt (by omega)]
            omega
          constructor
          · intro h
            simp only [Bool.and_eq_true] at h
            exact ⟨by omega, h.2.1⟩
          · intro h
            simp only [Bool.and_eq_true, Bool.not_eq_true', decide_eq_false_iff_not, decide_eq_true_eq]
            exact ⟨by omega, h.2, fun q => hmm q.2⟩
      have p3 : m.testBit (sd + c) = true ↔ (nb sd c 3 ≠ 99 ∧ m.testBit (nb sd c 3) = true) := by
        rw [n3]
        by_cases e : c + sd < sd * sd
        · rw [if_pos e, Nat.add_comm sd c]
          exact ⟨fun h => ⟨by omega, h⟩, fun h => h.2⟩
        · rw [if_neg e]
          exact ⟨fun h => absurd (hm _ h) (by omega), fun h => absurd rfl h.1⟩
      have p2 : (decide (sd ≤ c) && m.testBit (c - sd)) = true ↔ (nb sd c 2 ≠ 99 ∧ m.testBit (nb sd c 2) = true) := by
        rw [n2]
        by_cases e : c < sd
        · rw [if_pos e]
          constructor
          · intro h
            simp only [Bool.and_eq_true, decide_eq_true_eq] at h
            omega
          · intro h; exact absurd rfl h.1
        · rw [if_neg e]
          constructor
          · intro h
            simp only [Bool.and_eq_true] at h
            exact ⟨by omega, h.2⟩
          · intro h
            simp only [Bool.and_eq_true, decide_eq_true_eq]
            exact ⟨by omega, h.2⟩
      rw [Nat.add_comm 1 c] at p1
      rw [Nat.add_comm sd c] at p3
      simp only [Bool.and_eq_true, Bool.or_eq_true, decide_eq_true_eq] at p0 p1 p2 p3 ⊢
      constructor
      · rintro ⟨(((h | h) | h) | h), _⟩
        · exact ⟨hq, Or.inr (Or.inl (p1.mp h))⟩
        · exact ⟨hq, Or.inl (p0.mp h)⟩
        · exact ⟨hq, Or.inr (Or.inr (Or.inr (p3.mp h)))⟩
        · exact ⟨hq, Or.inr (Or.inr (Or.inl (p2.mp h)))⟩
      · rintro ⟨_, (h | h | h | h)⟩
        · exact ⟨Or.inl (Or.inl (Or.inr (p0.mpr h))), hq⟩
        · exact ⟨Or.inl (Or.inl (Or.inl (p1.mpr h))), hq⟩
        · exact ⟨Or.inr (p2.mpr h), hq⟩
        · exact ⟨Or.inl (Or.inr (p3.mpr h)), hq⟩
    · constructor
      · intro h
        simp only [Bool.and_eq_true, decide_eq_true_eq] at h
        exact absurd h.2 hq
      · intro h; exact absurd h.1 hq
  · constructor
    · intro h
      have : (sprN sd m).testBit c = false := tb_out (k := 36) (by unfold sprN; exact Nat.and_lt_two_pow _ (fc_lt sd (by omega)).2) (by omega)
      rw [this] at h; cases h
    · intro h; omega
/-- the bushes as bits -/
def bmK (S : Nat → Nat) : Nat → Nat
  | 0 => 0
  | k + 1 => bmK S k ||| (if S (37 + k) = 0 then 0 else 2 ^ k)
theorem bmK_bit (S : Nat → Nat) (c : Nat) : ∀ k, (bmK S k).testBit c = decide (c < k ∧ S (37 + c) ≠ 0)
  | 0 => by simp [bmK]
  | k + 1 => by
    unfold bmK
    rw [Nat.testBit_or, bmK_bit S c k]
    by_cases e : S (37 + k) = 0
    · rw [if_pos e]
      have : (c < k + 1 ∧ S (37 + c) ≠ 0) ↔ (c < k ∧ S (37 + c) ≠ 0) := by
        constructor
        · intro h
          refine ⟨?_, h.2⟩
          by_cases q : c = k
          · subst q; exact absurd e h.2
          · omega
        · intro h; exact ⟨by omega, h.2⟩
      simp [this]
    · rw [if_neg e, Nat.testBit_two_pow]
      by_cases q : k = c
      · subst q; simp [e]
      · have : (c < k + 1 ∧ S (37 + c) ≠ 0) ↔ (c < k ∧ S (37 + c) ≠ 0) := by
          constructor
          · intro h; exact ⟨by omega, h.2⟩
          · intro h; exact ⟨by omega, h.2⟩
        simp [q, this]
theorem bmK_lt (S : Nat → Nat) (k : Nat) : bmK S k < 2 ^ k := by
  apply Nat.lt_pow_two_of_testBit
  intro i hi
  rw [bmK_bit]
  simp only [decide_eq_false_iff_not]
  intro h
  omega
abbrev bm (S : Nat → Nat) : Nat := bmK S (S 1 * S 1)
/-- a world of the class at cell i of the pool is the world S -/
def RX (σ : PS) (i : Nat) (S : Nat → Nat) : Prop := σ.1 i 0 = nI (S 1) ∧ σ.1 i 1 = nI (S 1 * S 1) ∧ σ.1 i 2 = nI (S 11) ∧ σ.1 i 3 = nI (S 10) ∧ σ.1 i 4 = nI (S 12) ∧ σ.1 i 5 = nI (S 2) ∧ σ.2 i 6 = lN (bm S) ∧
  (∀ t, t < S 2 → σ.1 (i + 1) t = nI (S (13 + 4 * t)) ∧ σ.1 (i + 2) t = nI (S (13 + 4 * t + 1)) ∧ σ.1 (i + 3) t = nI (S (13 + 4 * t + 2)) ∧ σ.1 (i + 4) t = nI (S (13 + 4 * t + 3))) ∧ ∀ c, c < 36 → σ.1 (i + 5) c = nI (S (73 + c))
section XB
variable {n b i : Nat} {S : Nat → Nat} {σ : PS}
theorem X_spread (hR : RX σ i S) (h1 : 2 ≤ S 1) (h2 : S 1 ≤ 6) {m : Nat} (hm : inQ (S 1) m) : F_X10_spread n i (lN m) σ = some (lN (sprN (S 1) m), σ) := by
  have h36 : S 1 * S 1 ≤ 36 := by
    have := Nat.mul_le_mul h2 h2
    omega
  have hml := inQ_lt h36 hm
  have p36 : (2 : Nat) ^ 36 < 2 ^ 64 := by decide
  have hf := (fc_lt (S 1) (by omega)).1
  have ha := (fc_lt (S 1) (by omega)).2
  have hlc := lc_lt (S 1) (by omega) h1
  unfold F_X10_spread
  rw [hR.1]
  simp (disch := omega) only [nI_lit, nI_ltI, nI_ge0, nI_clamp, true_and]
  rw [if_neg (by omega), if_pos (by omega), if_pos (by omega), fc_is _ (by omega), al_is _ (by omega), allO_is]
  rw [nI_sub (by omega), wb_shl _ (show S 1 - 1 < 64 by omega), lN_xor, lN_xor, wb_and (by omega) (not_lt (by omega)), wb_and (by omega) (not_lt hlc)]
  rw [wb_shr (and_lt (by omega)) (show 1 < 64 by omega), wb_shl _ (show 1 < 64 by omega), wb_shr (by omega) (show S 1 < 64 by omega), wb_shl _ (show S 1 < 64 by omega)]
  have q1 : (m &&& (fcN (S 1) ^^^ allO)) / 2 ^ 1 < 2 ^ 64 := Nat.lt_of_le_of_lt (Nat.div_le_self _ _) (and_lt (by omega))
  have q2 : (m &&& ((fcN (S 1) * 2 ^ (S 1 - 1)) ^^^ allO)) * 2 ^ 1 < 2 ^ 64 := by
    have : m &&& ((fcN (S 1) * 2 ^ (S 1 - 1)) ^^^ allO) < 2 ^ 36 := and_lt hml
    omega
  have q3 : m / 2 ^ S 1 < 2 ^ 64 := Nat.lt_of_le_of_lt (Nat.div_le_self _ _) (by omega)
  have q4 : m * 2 ^ S 1 < 2 ^ 64 := by
    have e : (2 : Nat) ^ S 1 ≤ 2 ^ 6 := Nat.pow_le_pow_right (by decide) h2
    have := Nat.mul_le_mul (Nat.le_of_lt hml) e
    omega
  rw [wb_or q1 q2, wb_or (Nat.or_lt_two_pow q1 q2) q3, wb_or (Nat.or_lt_two_pow (Nat.or_lt_two_pow q1 q2) q3) q4, wb_and (Nat.or_lt_two_pow (Nat.or_lt_two_pow (Nat.or_lt_two_pow q1 q2) q3) q4) (by omega)]
  rfl
end XB
