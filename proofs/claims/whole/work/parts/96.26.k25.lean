/-! cut: the class's way between. -/
section K25
variable {S : Nat → Nat} {b tg n : Nat} {σ τ : PS}
theorem low_bit : ∀ (K C : Nat), 0 < C → C < 2 ^ K → ∃ x, C.testBit x = true ∧ C &&& (2 ^ K - C) = 2 ^ x
  | 0, C, h0, h1 => by omega
  | K + 1, C, h0, h1 => by
    have pk : 2 ^ (K + 1) = 2 * 2 ^ K := by rw [Nat.pow_succ]; omega
    by_cases par : C % 2 = 1
    · refine ⟨0, by rw [Nat.testBit_zero, par]; rfl, ?_⟩
      apply Nat.eq_of_testBit_eq
      intro i
      rw [Nat.testBit_and]
      cases i with
      | zero =>
        rw [Nat.testBit_zero, Nat.testBit_zero, Nat.testBit_zero, par, show (2 ^ (K + 1) - C) % 2 = 1 by omega]
        rfl
      | succ i =>
        rw [Nat.testBit_succ, Nat.testBit_succ, Nat.testBit_succ, show (2 ^ (K + 1) - C) / 2 = 2 ^ K - (C / 2 + 1) by omega, Nat.testBit_two_pow_sub_succ (show C / 2 < 2 ^ K by omega), show 2 ^ 0 / 2 = 0 from rfl, Nat.zero_testBit]
        cases (C / 2).testBit i <;> simp
    · obtain ⟨x, x1, x2⟩ := low_bit K (C / 2) (by omega) (by omega)
      refine ⟨x + 1, by rw [Nat.testBit_succ]; exact x1, ?_⟩
      apply Nat.eq_of_testBit_eq
      intro i
      rw [Nat.testBit_and]
      cases i with
      | zero =>
        rw [Nat.testBit_zero, show C % 2 = 0 by omega, Nat.testBit_zero, Nat.testBit_zero, show 2 ^ (x + 1) % 2 = 0 by rw [Nat.pow_succ]; omega]
        rfl
      | succ i =>
        rw [Nat.testBit_succ, Nat.testBit_succ, Nat.testBit_succ, show (2 ^ (K + 1) - C) / 2 = 2 ^ K - C / 2 by omega, ← Nat.testBit_and, x2, show 2 ^ (x + 1) / 2 = 2 ^ x by rw [Nat.pow_succ]; omega]
theorem neg_lN {C : Nat} (h0 : 0 < C) (h : C < 2 ^ 63) : -(lN C) = lN (2 ^ 64 - C) := by
  have e : lN C + lN (2 ^ 64 - C) = 0 := by
    rw [lN_add, show C + (2 ^ 64 - C) = 2 ^ 64 by omega]
    rfl
  have : lN (2 ^ 64 - C) = -(lN C) + (lN C + lN (2 ^ 64 - C)) := by rw [← Int64.add_assoc, Int64.add_left_neg, Int64.zero_add]
  rw [this, e, Int64.add_zero]
theorem low_is {C : Nat} (h0 : C ≠ 0) (h : C < 2 ^ 36) : ∃ x, C.testBit x = true ∧ lN C &&& (-(lN C)) = lN (2 ^ x) := by
  obtain ⟨x, x1, x2⟩ := low_bit 64 C (by omega) (by omega)
  refine ⟨x, x1, ?_⟩
  rw [neg_lN (by omega) (by omega), wb_and (by omega) (by omega), x2]
theorem X_cb18 (cw : okW S b) (hR0 : tg < S 1 * S 1) (h9 : wy S (S 11) tg ≠ 99) : ∀ (K k m : Nat) (σ : PS), RX σ 242 S → lvl (S 1) (wy S (S 11)) k m → k ≤ wy S (S 11) tg → (∀ i, i < k → ∃ mi, σ.2 248 i = lN mi ∧ lvl (S 1) (wy S (S 11)) i mi) → 37 ≤ K + k → ∃ τ, L_X7_cellsBetween_18 n K (lN (2 ^ tg)) (lN m) (nI k) σ = some (lN (2 ^ tg), nI (wy S (S 11) tg), τ) ∧ (∀ i, i < wy S (S 11) tg → ∃ mi, τ.2 248 i = lN mi ∧ lvl (S 1) (wy S (S 11)) i mi) ∧ agr [248] σ τ
  | 0, k, m, σ, hR, hl, hk, hm, hK => by
    have := (wy_is cw cw.2.2.2.1).2.2.2 tg hR0 h9
    omega
  | K + 1, k, m, σ, hR, hl, hk, hm, hK => by
    have h36 := okW_36 cw
    have hD := wy_is cw cw.2.2.2.1
    have hlt := hD.2.2.2 tg hR0 h9
    have hml := inQ_lt h36 (lvl_inQ hl)
    have htl : 2 ^ tg < 2 ^ 36 := Nat.pow_lt_pow_right (by decide) (by omega)
    have hbl : bm S < 2 ^ (S 1 * S 1) := bmK_lt S _
    have hbl2 : (2 : Nat) ^ (S 1 * S 1) ≤ 2 ^ 36 := Nat.pow_le_pow_right (by decide) h36
    have hand : (m &&& 2 ^ tg) < 2 ^ 64 := and_lt (by omega)
    have hz0 : lg_cmp (lN (m &&& 2 ^ tg)) (0 : Int64) = 0 ↔ m &&& 2 ^ tg = 0 := (lg_cmp_eq _ _).trans (lN_0 hand)
    have hbit : m &&& 2 ^ tg = 0 ↔ ¬ m.testBit tg = true := by
      constructor
      · intro e w
        have : (m &&& 2 ^ tg).testBit tg = true := by rw [Nat.testBit_and, w, Nat.testBit_two_pow]; simp
        rw [e, Nat.zero_testBit] at this
        cases this
      · intro e
        apply eq_of_bits
        intro c
        rw [Nat.zero_testBit, Nat.testBit_and, Bool.and_eq_true, Nat.testBit_two_pow, decide_eq_true_iff]
        exact ⟨fun w => absurd (w.2 ▸ w.1) e, fun w => by cases w⟩
    rw [L_X7_cellsBetween_18, wb_and (by omega) (by omega)]
    by_cases e0 : m.testBit tg = true
    · have hle := ((hl tg).mp e0).2.2
      have ek : k = wy S (S 11) tg := by omega
      rw [if_neg (fun w => hbit.mp (hz0.mp w) e0)]
      subst ek
      exact ⟨σ, rfl, hm, agr_refl⟩
    · have hgt : k < wy S (S 11) tg := by
        apply Classical.byContradiction
        intro w
        exact e0 ((hl tg).mpr ⟨hR0, h9, by omega⟩)
      have ag : agr [248] σ (psJ σ 248 k (lN m)) := agr_psJ (by simp)
      have hR1 : RX (psJ σ 248 k (lN m)) 242 S := RX_agr hR ag (by decide)
      rw [if_pos (hz0.mpr (hbit.mpr e0)), if_neg (show ¬ (36 : Int32) ≤ nI k from nI_ge (show k < 36 by omega) (by decide)), nI_clamp (by omega), if_pos ⟨nI_pos' (by omega), by omega⟩, X_spread hR1 cw.1 cw.2.1 (lvl_inQ hl)]
      simp only [Option.bind_some]
      rw [hR1.2.2.2.2.2.2.1, allO_is, lN_xor]
      have hsl : sprN (S 1) m < 2 ^ 64 := by
        have : sprN (S 1) m < 2 ^ 36 := by unfold sprN; exact Nat.and_lt_two_pow _ (fc_lt (S 1) (by have := cw.2.1; omega)).2
        omega
      rw [wb_and hsl (not_lt (show bm S < 2 ^ 64 by omega)), wb_or (by omega) (and_lt hsl), nI_1]
      have hnew := lvl_step cw.1 cw.2.1 hD (by omega) hl (B := bm S) (fun c => bm_bit) (by omega)
      obtain ⟨τ, t1, t2, t3⟩ := X_cb18 cw hR0 h9 K (k + 1) _ (psJ σ 248 k (lN m)) hR1 hnew (by omega) (fun i hi => by
        by_cases e : i = k
        · subst e; exact ⟨m, psJ_v, hl⟩
        · obtain ⟨mi, m1, m2⟩ := hm i (by omega)
          refine ⟨mi, ?_, m2⟩
          rw [← m1]
          simp [psJ, e]) (by omega)
      exact ⟨τ, t1, t2, agr_trans ag t3⟩
end K25
