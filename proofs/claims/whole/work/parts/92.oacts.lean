section OA
variable {n : Nat} {S : Nat → Nat}
theorem O_undo_X (hn : 100 ≤ n) {h p : Nat} {H : Nat → Nat → Nat} {σ : PS} (hh : hX σ h p H) (h0 : h ≠ 0) (h2 : H (h - 1) 2 ≤ 6) : ∃ τ, F_X11_undo n σ = some (nI (h - 1), τ) ∧ RX τ 25 (H (h - 1)) ∧ hX τ (h - 1) ((p + 19) % 20) H ∧ agr (94 :: wI 25) σ τ := by
  have h20 := hh.1
  unfold F_X11_undo
  rw [hh.2.2.1, if_neg (show ¬ nI h = (0 : Int32) from nI_nz (by omega) (by omega))]
  obtain ⟨τ, e, a, b, c⟩ := X_takeBack hn hh h0 h2
  rw [e, Option.bind_some, a.2.2.1]
  exact ⟨τ, rfl, b, a, c⟩
theorem O_undo0_X {h p : Nat} {H : Nat → Nat → Nat} {σ : PS} (hh : hX σ h p H) (h0 : h = 0) : F_X11_undo n σ = some (-1, σ) := by
  unfold F_X11_undo
  rw [hh.2.2.1, h0, if_pos (show nI 0 = (0 : Int32) from rfl)]
theorem O_undo0_M {h : Nat} {H : Nat → Nat → Nat} {σ : PS} (hh : hM σ h H) (h0 : h = 0) : F_X12_undo n σ = some (-1, σ) := by
  unfold F_X12_undo
  rw [hh.2.1, h0, if_pos (show nI 0 = (0 : Int32) from rfl)]
theorem keep_m {p : Nat} (hp : p < 20) : ∀ j, j ∈ (94 :: wI (96 + 6 * p)) → j < 25 ∨ 25 + 5 < j := fun j hj => by
  rcases List.mem_cons.mp hj with z | z
  · omega
  · exact wI_m (by omega) j z
theorem hX_agr {σ τ : PS} {h p : Nat} {H : Nat → Nat → Nat} {T : List Nat} (hh : hX σ h p H) (ha : agr T σ τ) (hT : ∀ j, j ∈ T → j < 94 ∨ 215 < j) : hX τ h p H := by
  obtain ⟨a, b, c, d, e⟩ := hh
  have h94 := ha 94 (fun q => by have := hT _ q; omega)
  refine ⟨a, b, by rw [h94.1]; exact c, by rw [h94.1]; exact d, fun k hk => RX_agr (e k hk) ha (fun j hj => ?_)⟩
  have := hT j hj
  have := Nat.mod_lt (p + 19 - k) (show 0 < 20 by decide)
  omega
theorem one_T {x : Nat} (hx : x < 94) : ∀ j, j ∈ [x] → j < 94 ∨ 215 < j := fun j hj => by
  simp at hj
  omega
/-- a tent is pitched anew -/
theorem O_pitch_X (hn : 100 ≤ n) {b : Nat} (hw : okW S b) {h p : Nat} {H : Nat → Nat → Nat} {σ : PS} (hR : RX σ 25 S) (hh : hX σ h p H) {t c : Nat} (ht : t < S 2) (hc : c < S 1 * S 1) (hne : S (13 + 4 * t) ≠ c) : ∃ τ, F_X11_pitch n (nI t) (nI c) σ = some (nI (S (13 + 4 * t)), τ) ∧ RX τ 25 (un S (13 + 4 * t) c) ∧ hX τ (hpN h) ((p + 1) % 20) (hpH h H S) ∧ agr (94 :: 26 :: wI (96 + 6 * p)) σ τ := by
  have h36 := okW_36 hw
  have h2 := hw.2.2.1
  have hcl := (hw.2.2.2.2.1 t ht).1
  have i1 : isI (S 2) (nI t) = 1 := by
    unfold isI
    rw [if_neg (show ¬ nI t < 0 from nI_n0 (by omega)), if_neg (nI_ge (by omega) (by omega))]
  have i2 : isI (S 1 * S 1) (nI c) = 1 := by
    unfold isI
    rw [if_neg (show ¬ nI c < 0 from nI_n0 (by omega)), if_neg (nI_ge (by omega) (by omega))]
  unfold F_X11_pitch
  rw [X_hasTent hR, Option.bind_some, i1, if_neg (show ¬ (1 : Int32) = 0 by decide), X_hasCell hR, Option.bind_some, i2, if_neg (show ¬ (1 : Int32) = 0 by decide)]
  simp (disch := omega) only [nI_lit, nI_ge0, nI_clamp, true_and]
  rw [if_pos (show t < 6 by omega), (RX_tent hR ht).1, if_neg (fun q => hne (nI_inj (by omega) (by omega) q))]
  obtain ⟨τ, e, hk, a⟩ := X_keep hn h2 hR hh
  have hR' := RX_agr hR a (keep_m hh.2.1)
  rw [e, Option.bind_some, (RX_tent hR' ht).1]
  have a1 : agr [26] τ (psI τ 26 t (nI c)) := agr_psI (by simp)
  exact ⟨_, rfl, RX_tentCell hR' h36 h2 ht c, hX_agr hk a1 (one_T (by decide)), agr_trans (agr_mono a (fun j hj => by rcases List.mem_cons.mp hj with z | z; rw [z]; exact List.mem_cons_self; exact List.mem_cons_of_mem _ (List.mem_cons_of_mem _ z))) (agr_psI (by simp))⟩
theorem hM_agr {σ τ : PS} {h : Nat} {H : Nat → Nat → Nat} {T : List Nat} (hh : hM σ h H) (ha : agr T σ τ) (h1 : 249 ∉ T) (h2 : 262 ∉ T) : hM τ h H := by
  obtain ⟨a, b, c⟩ := hh
  refine ⟨a, by rw [(ha 249 h1).1]; exact b, fun j hj k hk => by rw [(ha 262 h2).1]; exact c j hj k hk⟩
theorem O_pitch_M (hn : 3000 ≤ n) {b : Nat} (hw : okW S b) {h : Nat} {H : Nat → Nat → Nat} {σ : PS} (hS : rowN σ 259 S) (hh : hM σ h H) {t c : Nat} (ht : t < S 2) (hc : c < S 1 * S 1) (hne : S (13 + 4 * t) ≠ c) : ∃ τ, F_X12_pitch n (nI t) (nI c) σ = some (nI (S (13 + 4 * t)), τ) ∧ rowN τ 259 (un S (13 + 4 * t) c) ∧ hM τ (hpN h) (hpH h H S) ∧ agm [259, 262] [26] σ τ := by
  have h36 := okW_36 hw
  have h2 := hw.2.2.1
  have hcl := (hw.2.2.2.2.1 t ht).1
  have i1 : isI (S 2) (nI t) = 1 := by
    unfold isI
    rw [if_neg (show ¬ nI t < 0 from nI_n0 (by omega)), if_neg (nI_ge (by omega) (by omega))]
  have i2 : isI (S 1 * S 1) (nI c) = 1 := by
    unfold isI
    rw [if_neg (show ¬ nI c < 0 from nI_n0 (by omega)), if_neg (nI_ge (by omega) (by omega))]
  unfold F_X12_pitch
  rw [M_isTent hS, Option.bind_some, i1, if_neg (show ¬ (1 : Int32) = 0 by decide), M_isCell hS, Option.bind_some, i2, if_neg (show ¬ (1 : Int32) = 0 by decide), M_cellOf hS (by omega), Option.bind_some, if_neg (fun q => hne (nI_inj (by omega) (by omega) q))]
  obtain ⟨τ, e, hk, a⟩ := M_keepsAct hn hS hh
  have hS' := rowN_agm hS a (by decide) (by decide)
  rw [e, Option.bind_some, M_cellOf hS' (by omega), Option.bind_some]
  simp (disch := omega) only [nI_lit, nI_mul, nI_add, nI_ge0, nI_clamp, true_and]
  rw [if_pos (by omega)]
  exact ⟨_, rfl, rowN_set hS', hM_agr hk (agr_psI (T := [259]) (by simp)) (by decide) (by decide), agm_trans (agm_mono a (by simp) (by simp)) (agm_psI (by simp) (by decide))⟩
end OA
