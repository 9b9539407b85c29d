/-! The class keeps acts and undoes them. -/
/-- the class's ring of worlds holds the h acts that are kept, the newest ahead of p -/
def hX (σ : PS) (h p : Nat) (H : Nat → Nat → Nat) : Prop := h ≤ 20 ∧ p < 20 ∧ σ.1 94 0 = nI h ∧ σ.1 94 2 = nI p ∧ ∀ d, d < h → RX σ (96 + 6 * ((p + 19 - d) % 20)) (H (h - 1 - d))
theorem RX_agr {σ τ : PS} {i : Nat} {S : Nat → Nat} {T : List Nat} (h : RX σ i S) (ha : agr T σ τ) (hT : ∀ j, j ∈ T → j < i ∨ i + 5 < j) : RX τ i S := by
  have hh : ∀ k, k < 6 → τ.1 (i + k) = σ.1 (i + k) ∧ τ.2 (i + k) = σ.2 (i + k) := fun k hk => ha (i + k) (fun q => by have := hT _ q; omega)
  have h0 := hh 0 (by decide)
  rw [Nat.add_zero] at h0
  unfold RX
  rw [h0.1, h0.2, (hh 1 (by decide)).1, (hh 2 (by decide)).1, (hh 3 (by decide)).1, (hh 4 (by decide)).1, (hh 5 (by decide)).1]
  exact h
theorem hX_agx {σ τ : PS} {h p : Nat} {H : Nat → Nat → Nat} {T : List Nat} (hh : hX σ h p H) (ha : agx T σ τ) (hT : ∀ j, j ∈ T → j < 94 ∨ 215 < j) : hX τ h p H := by
  obtain ⟨a, b, c, d, e⟩ := hh
  have h94 := ha.1 94 (fun q => by have := hT _ q; omega) (by decide) (by decide)
  refine ⟨a, b, by rw [h94.1]; exact c, by rw [h94.1]; exact d, fun k hk => RX_agx (e k hk) ha (by omega) (fun j hj => ?_)⟩
  have := hT j hj
  have := Nat.mod_lt (p + 19 - k) (show 0 < 20 by decide)
  omega
theorem agr_agx {T : List Nat} {σ τ : PS} (h : agr T σ τ) (h7 : 7 ∉ T) : agx T σ τ := agx_of h h7
section XK
variable {n : Nat} {S : Nat → Nat}
theorem X_keep (hn : 100 ≤ n) {σ : PS} {h p : Nat} {H : Nat → Nat → Nat} (h2 : S 2 ≤ 6) (hR : RX σ 25 S) (hh : hX σ h p H) : ∃ τ, F_X0_keep n 25 σ = some τ ∧ hX τ (hpN h) ((p + 1) % 20) (hpH h H S) ∧ agr (94 :: wI (96 + 6 * p)) σ τ := by
  obtain ⟨h20, hp, h0, h2', hc⟩ := hh
  unfold F_X0_keep
  rw [h2']
  simp (disch := omega) only [nI_lit, nI_ge0, nI_clamp, true_and]
  rw [if_pos hp]
  obtain ⟨τ, e, c⟩ := X_copyFrom (n := n) (i := 96 + 6 * p) (a := 25) (σ := σ) hn (by omega)
  rw [e, Option.bind_some]
  have ac := c.2.2.2.2
  have h94 : τ.1 94 = σ.1 94 := (ac 94 (fun q => by have := wI_m (i := 96 + 6 * p) (j := 90) (by omega) 94 q; omega)).1
  have g2 : τ.1 94 2 = nI p := by rw [h94]; exact h2'
  have g0 : ∀ v, (psI τ 94 2 v).1 94 0 = nI h := fun v => by rw [psI_eq, if_neg (by decide), h94]; exact h0
  rw [g2]
  simp only [g0, nI_add]
  rw [nI_rem (by omega) (by decide)]
  have hmin : (if nI 20 < nI (h + 1) then nI 20 else nI (h + 1)) = nI (hpN h) := by
    unfold hpN
    by_cases q : h = 20
    · rw [if_pos q, if_pos (nI_lt (by omega) (by omega))]
    · rw [if_neg q, if_neg (nI_nlt (by omega) (by omega))]
  rw [hmin]
  have ha : agr (94 :: wI (96 + 6 * p)) σ (psI (psI τ 94 2 (nI ((p + 1) % 20))) 94 0 (nI (hpN h))) := agr_trans (agr_mono ac (by simp)) (agr_trans (agr_psI (by simp)) (agr_psI (by simp)))
  have hmp := Nat.mod_lt (p + 1) (show 0 < 20 by decide)
  refine ⟨_, rfl, ⟨by unfold hpN; split <;> omega, hmp, by rw [psI_eq, if_pos rfl], by rw [psI_eq, if_neg (by decide), psI_eq, if_pos rfl], fun d hd => ?_⟩, ha⟩
  by_cases q : d = 0
  · subst q
    have e1 : ((p + 1) % 20 + 19 - 0) % 20 = p := by omega
    rw [e1]
    have e2 : hpH h H S (hpN h - 1 - 0) = S := by
      unfold hpN hpH
      by_cases z : h = 20
      · simp [z]
      · simp [z]
    rw [e2]
    have r1 := CP_RX c hR h2
    exact RX_agr (RX_agr r1 (agr_psI (T := [94]) (by simp)) (fun j hj => by simp at hj; omega)) (agr_psI (T := [94]) (by simp)) (fun j hj => by simp at hj; omega)
  · have hd' : d < hpN h := hd
    have hdh : d - 1 < h ∧ d < 20 := by
      unfold hpN at hd'
      split at hd' <;> omega
    have e1 : ((p + 1) % 20 + 19 - d) % 20 = (p + 19 - (d - 1)) % 20 := by omega
    have e2 : hpH h H S (hpN h - 1 - d) = H (h - 1 - (d - 1)) := by
      unfold hpN hpH
      by_cases z : h = 20
      · subst z
        simp only [if_true]
        rw [if_neg (by omega)]
        congr 1
        omega
      · simp only [z, if_false]
        rw [if_neg (by omega)]
        congr 1
        omega
    rw [e1, e2]
    refine RX_agr (hc (d - 1) hdh.1) ha (fun j hj => ?_)
    have hm := Nat.mod_lt (p + 19 - (d - 1)) (show 0 < 20 by decide)
    rcases List.mem_cons.mp hj with z | z
    · omega
    · exact wI_m (by omega) j z
theorem X_takeBack (hn : 100 ≤ n) {σ : PS} {h p : Nat} {H : Nat → Nat → Nat} (hh : hX σ h p H) (h0 : h ≠ 0) (h2 : H (h - 1) 2 ≤ 6) : ∃ τ, F_X0_takeBack n 25 σ = some τ ∧ hX τ (h - 1) ((p + 19) % 20) H ∧ RX τ 25 (H (h - 1)) ∧ agr (94 :: wI 25) σ τ := by
  obtain ⟨h20, hp, hk, hp2, hc⟩ := hh
  unfold F_X0_takeBack
  rw [hk, hp2]
  have hmp := Nat.mod_lt (p + 19) (show 0 < 20 by decide)
  simp (disch := omega) only [nI_lit, nI_leI, nI_add, nI_sub]
  rw [if_neg (by omega), show p + 20 - 1 = p + 19 by omega, nI_rem (by omega) (by decide)]
  have g2 : (psI σ 94 2 (nI ((p + 19) % 20))).1 94 2 = nI ((p + 19) % 20) := by rw [psI_eq, if_pos rfl]
  rw [g2]
  simp (disch := omega) only [nI_ge0, nI_clamp, true_and]
  rw [if_pos hmp]
  obtain ⟨τ, e, c⟩ := X_copyFrom (n := n) (i := 25) (a := 96 + 6 * ((p + 19) % 20)) (σ := psI σ 94 2 (nI ((p + 19) % 20))) hn (by omega)
  rw [e, Option.bind_some]
  have ac := c.2.2.2.2
  have h94 : τ.1 94 = (psI σ 94 2 (nI ((p + 19) % 20))).1 94 := (ac 94 (by decide)).1
  have g0 : τ.1 94 0 = nI h := by rw [h94, psI_eq, if_neg (by decide)]; exact hk
  rw [g0, nI_sub (by omega)]
  have ha1 : agr (94 :: wI 25) (psI σ 94 2 (nI ((p + 19) % 20))) τ := agr_mono ac (by simp)
  have ha : agr (94 :: wI 25) σ (psI τ 94 0 (nI (h - 1))) := agr_trans (agr_psI (by simp)) (agr_trans ha1 (agr_psI (by simp)))
  have r0 : RX (psI σ 94 2 (nI ((p + 19) % 20))) (96 + 6 * ((p + 19) % 20)) (H (h - 1)) := by
    have := hc 0 (by omega)
    rw [Nat.sub_zero, Nat.sub_zero] at this
    exact RX_agr this (agr_psI (T := [94]) (by simp)) (fun j hj => by simp at hj; omega)
  refine ⟨_, rfl, ⟨by omega, hmp, by rw [psI_eq, if_pos rfl], by rw [psI_eq, if_neg (by decide), h94, psI_eq, if_pos rfl], fun d hd => ?_⟩, ?_, ha⟩
  · have e1 : ((p + 19) % 20 + 19 - d) % 20 = (p + 19 - (d + 1)) % 20 := by omega
    have e2 : h - 1 - 1 - d = h - 1 - (d + 1) := by omega
    rw [e1, e2]
    refine RX_agr (hc (d + 1) (by omega)) ha (fun j hj => ?_)
    rcases List.mem_cons.mp hj with z | z
    · omega
    · exact wI_m (by omega) j z
  · exact RX_agr (CP_RX c r0 h2) (agr_psI (T := [94]) (by simp)) (fun j hj => by simp at hj; omega)
end XK
