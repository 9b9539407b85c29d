/-! cut: the class's half put together. -/
section K28
variable {S : Nat → Nat} {b n : Nat} {σ τ : PS}
theorem X_findCut (hn : 100 ≤ n) (cw : okW S b) {u : Nat} (hu : u < S 2) (hR : RX σ 25 S) : ∃ τ, F_X7_findCut n 25 (nI u) σ = some τ ∧ fwS S (S (13 + 4 * u)) (τ.1 240 0) ∧ (∀ k, k ≤ 3 → τ.1 240 0 = nI k → ∀ i x, (gd (S (13 + 4 * u)) (S 1 * S 1) S k)[i]? = some x → τ.1 241 i = nI x) ∧ agr (240 :: 241 :: 248 :: wI 242) σ τ := by
  have h36 := okW_36 cw
  have h2 := cw.2.2.1
  have ht := (cw.2.2.2.2.1 u hu).1
  have hs := Nat.mul_le_mul cw.1 cw.1
  obtain ⟨τ1, a1, a2⟩ := X_copyFrom (n := n) (i := 242) (a := 25) (by omega) (by omega) (σ := σ)
  have hG1 := CP_RX a2 hR h2
  have ag1 : agr (240 :: 241 :: 248 :: wI 242) σ τ1 := agr_mono a2.2.2.2.2 (by decide)
  have ag2 : agr (240 :: 241 :: 248 :: wI 242) σ (psI τ1 240 0 (-2 : Int32)) := agr_trans ag1 (agr_psI (by decide))
  have hR2 : RX (psI τ1 240 0 (-2 : Int32)) 25 S := RX_agr hR ag2 (by decide)
  have hR1 : RX τ1 25 S := RX_agr hR ag1 (by decide)
  obtain ⟨τ2, b1, b2, b3, b4⟩ := X_fc24 (n := n) hn cw ht n 0 (psI τ1 240 0 (-2 : Int32)) (by rw [psI_eq, if_pos rfl]) (RX_agr hG1 (agr_psI (T := [240]) (by simp)) (by decide)) (fun j hj => by omega) (by omega) (by omega)
  have ag3 : agr (240 :: 241 :: 248 :: wI 242) σ τ2 := agr_trans ag2 (agr_mono b4 (by decide))
  have hR3 : RX τ2 25 S := RX_agr hR ag3 (by decide)
  have pre : F_X7_findCut n 25 (nI u) σ = (L_X7_findCut_67 n 25 n (nI (S (13 + 4 * u))) (nI 0) (nI 0) τ2).bind (fun o22 => some o22) := by
    unfold F_X7_findCut
    rw [a1, Option.bind_some, nI_clamp (show u < 2 ^ 31 by omega), if_pos ⟨nI_pos' (by omega), by omega⟩]
    show (L_X7_findCut_24 n 25 n (τ1.1 26 u) (nI 0) (psI τ1 240 0 (-2 : Int32))).bind _ = _
    rw [(RX_tent hR1 hu).1, b1, Option.bind_some]
    rfl
  rcases id b2 with ⟨c1, c2⟩ | ⟨k, c1, c2, c3, c4⟩
  · have l7 : L_X7_findCut_67 n 25 n (nI (S (13 + 4 * u))) (nI 0) (nI 0) τ2 = some τ2 := by
      obtain ⟨nn, hnn⟩ : ∃ nn, n = nn + 1 := ⟨n - 1, by omega⟩
      have : L_X7_findCut_67 n 25 (nn + 1) (nI (S (13 + 4 * u))) (nI 0) (nI 0) τ2 = some τ2 := by
        rw [L_X7_findCut_67, hR3.2.1, if_neg (nI_ge (by omega) (by omega)), c1, if_pos (by decide)]
      rw [← hnn] at this
      exact this
    refine ⟨τ2, by rw [pre, l7]; rfl, b2, fun k hk e => ?_, ag3⟩
    rw [c1] at e
    have := congrArg Int32.toInt e
    rw [nI_toInt (by omega), show (-2 : Int32).toInt = -2 by decide] at this
    omega
  · obtain ⟨τ3, d1, d2, d3, d4⟩ := X_fc67 (n := n) hn cw ht (S 1 * S 1) n S k 0 0 τ2 (by omega) (by omega) hR3 b3 (by rw [c2, Nat.zero_add]) (by omega) cw (fun _ _ => rfl) (fun _ _ => rfl)
    have e0 : τ3.1 240 = τ2.1 240 := (d4 240 (by decide)).1
    refine ⟨τ3, by rw [pre, d1]; rfl, by rw [e0]; exact b2, fun k' hk' e i x h => ?_, agr_trans ag3 (agr_mono d4 (by decide))⟩
    rw [e0, c2] at e
    have : k = k' := nI_inj (by omega) (by omega) e
    subst this
    have := d3 i x h
    rw [Nat.zero_add] at this
    exact this
end K28
