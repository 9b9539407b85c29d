/-! cut: the reference's search, a turn from a level that is laid. -/
section K31
variable {S T : Nat → Nat} {b tg n : Nat} {σ τ : PS}
theorem M_citer2 (hn : 100 ≤ n) (cw : okW T b) {N k u g : Nat} (hN : N ≤ 3) (hk : k < N) (hu : u < T 2) (hS : rowN σ 259 (bs T [g])) (hf : T (37 + g) = 0) (h4 : σ.1 264 k = nI g) (h5 : σ.1 265 k = 1) (hg : g < T 1 * T 1) : ∃ g' τ, g + 1 ≤ g' ∧ g' ≤ T 1 * T 1 ∧ (∀ w, g + 1 ≤ w → w < g' → ¬ ccP T (T (13 + 4 * u)) w) ∧ (g' < T 1 * T 1 → ccP T (T (13 + 4 * u)) g') ∧ τ.1 264 k = nI g' ∧ (∀ j, j ≠ k → τ.1 264 j = σ.1 264 j) ∧ rowN τ 259 T ∧ agr [259, 264] σ τ ∧ ∀ K, L_X12_isCutBy_16 n (K + 1) (nI u) (nI N) (nI k) σ = if g' < T 1 * T 1 then L_X12_isCutBy_16 n K (nI u) (nI N) (nI (k + 1)) (psI (psI (psI (psI τ 265 k 1) 259 (37 + g') 1) 264 (k + 1) (nI g')) 265 (k + 1) 0) else L_X12_isCutBy_16 n K (nI u) (nI N) (nI k + -1) (psI τ 265 k 0) := by
  have h36 := okW_36 cw
  have hS0 : rowN (psI σ 259 (37 + g) (nI 0)) 259 T := by
    have := rowN_set (k := 37 + g) (v := 0) hS
    rw [un_unbs hf] at this
    exact this
  have ag00 : agr [259, 264] σ (psI σ 259 (37 + g) (nI 0)) := agr_psI (by simp)
  have ag0 : agr [264] (psI σ 259 (37 + g) (nI 0)) (psI (psI σ 259 (37 + g) (nI 0)) 264 k (nI (g + 1))) := agr_psI (by simp)
  obtain ⟨g', τ, t1, t2, t3, t4, t5, t6, t7, t8⟩ := M_cscan (n := n) cw (k := k) (u := u) (by omega) hu (x2 := nI N) (T 1 * T 1 - (g + 1)) n (g + 1) (psI (psI σ 259 (37 + g) (nI 0)) 264 k (nI (g + 1))) (rowN_agr hS0 ag0 (by decide)) (by rw [psI_eq, if_pos rfl]) (by omega) (by omega)
  have hSt : rowN τ 259 T := rowN_agr (rowN_agr hS0 ag0 (by decide)) t8 (by decide)
  refine ⟨g', τ, t1, t2, t3, t4, t6, fun j hj => by rw [t7 j hj, psI_eq, if_neg hj, psI_other (by decide)], hSt, agr_trans ag00 (agr_trans (agr_mono ag0 (by decide)) (agr_mono t8 (by decide))), fun K => ?_⟩
  rw [L_X12_isCutBy_16, if_neg (show ¬ nI k < (0 : Int32) from nI_n0 (by omega)), if_neg (fun w => by have := nI_inj (by omega) (by omega) w; omega), nI_clamp (show k < 2 ^ 31 by omega), if_pos (show 0 ≤ nI k ∧ k < 4 from ⟨nI_pos' (by omega), by omega⟩), if_neg (show ¬ σ.1 265 k = 0 by rw [h5]; decide), h4, show (37 : Int32) + nI g = nI (37 + g) from nI_add 37 g, nI_clamp (show 37 + g < 2 ^ 31 by omega), if_pos (show 0 ≤ nI (37 + g) ∧ 37 + g < 179 from ⟨nI_pos' (by omega), by omega⟩), psI_other (show 264 ≠ 259 by decide), h4, show nI g + (1 : Int32) = nI (g + 1) from nI_1 _, show (0 : Int32) = nI 0 from rfl, t5, Option.bind_some]
  dsimp only
  rw [nI_clamp (show k < 2 ^ 31 by omega), if_pos (show nI 0 ≤ nI k ∧ k < 4 from ⟨nI_pos' (by omega), by omega⟩), M_cells hSt, Option.bind_some]
  dsimp only
  rw [t6, nar_b.1, show vp_nar .boolean (nI 0) = 0 from nar_b.2]
  by_cases y : g' < T 1 * T 1
  · rw [if_neg (show ¬ nI (T 1 * T 1) ≤ nI g' from nI_ge y (by omega)), if_pos y, psI_eq, if_pos rfl, if_neg (show ¬ (1 : Int32) = nI 0 by decide), psI_other (show 264 ≠ 265 by decide), t6, show (37 : Int32) + nI g' = nI (37 + g') from nI_add 37 g', nI_clamp (show 37 + g' < 2 ^ 31 by omega), if_pos (show nI 0 ≤ nI (37 + g') ∧ 37 + g' < 179 from ⟨nI_pos' (by omega), by omega⟩), show nI k + 1 = nI (k + 1) from nI_1 _, show nI (k + 1) - (1 : Int32) = nI k from nI_pred _, nI_clamp (show k < 2 ^ 31 by omega), if_pos (show nI 0 ≤ nI k ∧ k < 4 from ⟨nI_pos' (by omega), by omega⟩), nI_clamp (show k + 1 < 2 ^ 31 by omega), if_pos (show nI 0 ≤ nI (k + 1) ∧ k + 1 < 4 from ⟨nI_pos' (by omega), by omega⟩), psI_other (show 264 ≠ 259 by decide), psI_other (show 264 ≠ 265 by decide), t6]
    rfl
  · rw [if_pos (show nI (T 1 * T 1) ≤ nI g' from nI_le (by omega) (by omega)), if_neg y, psI_eq, if_pos rfl]
    exact if_pos rfl
end K31
