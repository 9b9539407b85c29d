section OC
variable {n : Nat} {S : Nat → Nat}
theorem O_cell (hn : 100 ≤ n) (h36 : S 1 * S 1 ≤ 36) (h2 : S 2 ≤ 6) (hbu : ∀ c, c < S 1 * S 1 → S (37 + c) ≤ 1) (hcl : ∀ t, t < S 2 → S (13 + 4 * t) < 2 ^ 31) (a1 a2 : Int32) : ∃ v, (∀ σ, RX σ 25 S → F_X11_cell n a1 a2 σ = some (v, σ)) ∧ (∀ τ, rowN τ 259 S → F_X12_cell n a1 a2 τ = some (v, τ)) := by
  by_cases e : isI (S 1 * S 1) a1 = 0
  · refine ⟨-1, fun σ hR => ?_, fun τ hS => ?_⟩
    · unfold F_X11_cell
      rw [X_hasCell hR, Option.bind_some]
      simp only [e, if_true]
    · unfold F_X12_cell
      rw [M_isCell hS, Option.bind_some]
      simp only [e, if_true]
  · obtain ⟨c, hc, rfl, e1⟩ := isI_one (by omega) e
    have hb := hbu c hc
    by_cases ev : a2 < 0
    · refine ⟨-1, fun σ hR => ?_, fun τ hS => ?_⟩
      · unfold F_X11_cell
        rw [X_hasCell hR, Option.bind_some, e1, if_neg (show ¬ (1 : Int32) = 0 by decide)]
        rw [if_neg (fun q => by subst q; exact absurd ev (by decide)), if_neg (fun q => by subst q; exact absurd ev (by decide)), if_neg (fun q => by subst q; exact absurd ev (by decide))]
      · unfold F_X12_cell
        rw [M_isCell hS, Option.bind_some, e1, if_neg (show ¬ (1 : Int32) = 0 by decide), show (0 : Int64) = lN 0 from rfl, show (2 : Int64) = lN 2 from rfl, M_in_neg ev (by decide), Option.bind_some, if_pos rfl]
    · obtain ⟨w, hw, rfl⟩ := nI_of ev
      by_cases hw4 : w < 3
      · have hw3 : w = 0 ∨ w = 1 ∨ w = 2 := by omega
        have hM : ∀ τ : PS, rowN τ 259 S → F_X12_cell n (nI c) (nI w) τ = some (nI (if w = 0 then S (37 + c) else if w = 1 then S (73 + c) else tOn S c (S 2)), τ) := by
          intro τ hS
          unfold F_X12_cell
          rw [M_isCell hS, Option.bind_some, e1, if_neg (show ¬ (1 : Int32) = 0 by decide), show (0 : Int64) = lN 0 from rfl, show (2 : Int64) = lN 2 from rfl, M_in hw (by decide) (by decide), Option.bind_some, if_pos (show 0 ≤ w ∧ w ≤ 2 by omega), if_neg (show ¬ (1 : Int32) = 0 by decide)]
          simp (disch := omega) only [nI_lit, nI_eq, nI_add, nI_ge0, nI_clamp, true_and]
          rcases hw3 with q | q | q <;> subst q
          · rw [if_pos rfl, if_pos (by omega), if_pos rfl, rowN_get hS]
          · rw [if_neg (by decide), if_pos rfl, if_pos (by omega), if_neg (by decide), if_pos rfl, rowN_get hS]
          · rw [if_neg (by decide), if_neg (by decide), if_neg (by decide), if_neg (by decide), M_tentsOn hn hS h2 hcl (by omega), Option.bind_some]
        refine ⟨_, fun σ hR => ?_, hM⟩
        unfold F_X11_cell
        rw [X_hasCell hR, Option.bind_some, e1, if_neg (show ¬ (1 : Int32) = 0 by decide)]
        simp (disch := omega) only [nI_lit, nI_eq, nI_ge0, nI_clamp, true_and]
        rcases hw3 with q | q | q <;> subst q
        · rw [if_pos rfl, if_pos rfl, X_isFree hR h36 hc, Option.bind_some]
          by_cases z : S (37 + c) = 0
          · rw [if_pos z, z]
            rfl
          · rw [if_neg z, show S (37 + c) = 1 by omega]
            rfl
        · simp only [show ¬ (1 : Nat) = 0 by decide, if_false, if_true]
          rw [if_pos (by omega)]
          exact congrArg (fun z => some (z, σ)) (hR.2.2.2.2.2.2.2.2 c (by omega))
        · simp only [show ¬ (2 : Nat) = 0 by decide, show ¬ (2 : Nat) = 1 by decide, if_false, if_true]
          rw [X_tentsOn hn hR h2 hcl (by omega), Option.bind_some]
      · refine ⟨-1, fun σ hR => ?_, fun τ hS => ?_⟩
        · unfold F_X11_cell
          rw [X_hasCell hR, Option.bind_some, e1, if_neg (show ¬ (1 : Int32) = 0 by decide)]
          simp (disch := omega) only [nI_lit, nI_eq]
          rw [if_neg (by omega), if_neg (by omega), if_neg (by omega)]
        · unfold F_X12_cell
          rw [M_isCell hS, Option.bind_some, e1, if_neg (show ¬ (1 : Int32) = 0 by decide), show (0 : Int64) = lN 0 from rfl, show (2 : Int64) = lN 2 from rfl, M_in hw (by decide) (by decide), Option.bind_some, if_neg (show ¬ (0 ≤ w ∧ w ≤ 2) by omega), if_pos rfl]
/-- a step by hand, where there is a camp and a step to make -/
theorem O_step_M (hn : 3000 ≤ n) (h0 : S 0 = 1) (hw : okW S (S 10 + 2)) (h10 : S 10 < 999) {ru : RU} {h : Nat} {H : Nat → Nat → Nat} {σ : PS} (hS : rowN σ 259 S) (hf : foM n σ ru) (hh : hM σ h H) : ∃ τ, F_X12_step n σ = some (nI (pasS S ru 11), τ) ∧ rowN τ 259 (pasS S ru) ∧ hM τ (hpN h) (hpH h H S) ∧ agm [257, 258, 259, 260, 261, 262] [18, 26] σ τ := by
  unfold F_X12_step F_X12_isCamp
  rw [rowN_get hS, h0, if_pos (show nI 1 = (1 : Int32) from rfl), Option.bind_some, if_neg (show ¬ (1 : Int32) = 0 by decide)]
  simp only [rowN_get hS]
  rw [if_neg (show ¬ nI (S 10) = (999 : Int32) from fun q => by have := nI_inj (show S 10 < 2 ^ 31 by omega) (show 999 < 2 ^ 31 by decide) q; omega)]
  obtain ⟨τ, e, hk, a⟩ := M_keepsAct hn hS hh
  rw [e, Option.bind_some]
  obtain ⟨υ, e2, r2, a2⟩ := M_passes (show 100 ≤ n by omega) (show S 10 + 2 < 2 ^ 20 by omega) hw (rowN_agm hS a (by decide) (by decide)) (foM_agm hf a (by decide) (by decide) (by decide) (by decide))
  rw [e2, Option.bind_some, rowN_get r2]
  refine ⟨υ, rfl, r2, ⟨hk.1, (a2.2 26 (by decide)).1.trans hk.2.1, fun j hj k hk' => ?_⟩, agm_trans (agm_mono a (by simp) (by simp)) (agm_mono a2 (by simp) (by simp))⟩
  rw [(a2.1 262 (by decide) (by decide)).1]
  exact hk.2.2 j hj k hk'
theorem O_step_X (hn : 3000 ≤ n) (hw : okW S (S 10 + 2)) (h10 : S 10 < 999) {ru : RU} {h p : Nat} {H : Nat → Nat → Nat} {σ : PS} (hR : RX σ 25 S) (hf : foX n σ ru (σ.1 18 5)) (hh : hX σ h p H) : ∃ τ, F_X11_step n σ = some (nI (pasS S ru 11), τ) ∧ RX τ 25 (pasS S ru) ∧ hX τ (hpN h) ((p + 1) % 20) (hpH h H S) ∧ agx (94 :: (wI (96 + 6 * p) ++ wI 25)) σ τ := by
  have h1 := hw.1
  have h1' := hw.2.1
  have hp := hh.2.1
  have hip : F_X10_isPitched n 25 σ = some (1, σ) := by
    unfold F_X10_isPitched
    rw [hR.1]
    exact if_neg (show ¬ nI (S 1) ≤ nI 0 from nI_ge (by omega) (by omega))
  unfold F_X11_step
  rw [hip, Option.bind_some, if_neg (show ¬ (1 : Int32) = 0 by decide)]
  simp only [hR.2.2.2.1]
  rw [if_pos (show nI (S 10) < (999 : Int32) from nI_lt (show S 10 < 999 by omega) (show (999 : Nat) < 2 ^ 31 by decide))]
  obtain ⟨τ, e, hk, a⟩ := X_keep (show 100 ≤ n by omega) hw.2.2.1 hR hh
  rw [e, Option.bind_some]
  have hm : ∀ j, j ∈ (94 :: wI (96 + 6 * p)) → j < 25 ∨ 25 + 5 < j := fun j hj => by
    rcases List.mem_cons.mp hj with z | z
    · omega
    · exact wI_m (by omega) j z
  have h18 : ∀ j, j ∈ (94 :: wI (96 + 6 * p)) → 18 ≤ j ∧ j ≠ 18 ∧ j ≠ 7 := fun j hj => by
    have := hm j hj
    rcases List.mem_cons.mp hj with z | z
    · omega
    · have := wI_18 (i := 96 + 6 * p) (by omega) j z
      have := wI_m (i := 96 + 6 * p) (j := 18) (by omega) j z
      omega
  have ax : agx (94 :: wI (96 + 6 * p)) σ τ := agx_of a (fun q => (h18 7 q).2.2 rfl)
  have h5 : τ.1 18 5 = σ.1 18 5 := by rw [(a 18 (fun q => (h18 18 q).2.1 rfl)).1]
  rw [h5]
  obtain ⟨υ, e2, r2, a2⟩ := X_stride (show 100 ≤ n by omega) (show S 10 + 2 < 2 ^ 20 by omega) hw (by decide) (RX_agr hR a hm) (foX_agx hf ax (fun j hj => (h18 j hj).1))
  rw [e2, Option.bind_some, r2.2.2.1]
  refine ⟨υ, rfl, r2, hX_agx hk a2 (fun j hj => ?_), agx_trans (agx_mono ax (fun j hj => ?_)) (agx_mono a2 (fun j hj => ?_))⟩
  · have := wI_m (i := 25) (j := 94) (by decide) j hj
    have := wI_m (i := 25) (j := 100) (by decide) j hj
    simp only [wI, List.mem_cons, List.not_mem_nil, or_false] at hj
    omega
  · rcases List.mem_cons.mp hj with z | z
    · rw [z]; exact List.mem_cons_self
    · exact List.mem_cons_of_mem _ (List.mem_append_left _ z)
  · exact List.mem_cons_of_mem _ (List.mem_append_right _ hj)
end OC
