/-! The reference keeps acts and undoes them. -/
/-- the h acts that are kept: the worlds H 0 .. H (h - 1), the newest last -/
def hM (σ : PS) (h : Nat) (H : Nat → Nat → Nat) : Prop := h ≤ 20 ∧ σ.1 249 26 = nI h ∧ ∀ j, j < h → ∀ k, k < 99 → σ.1 262 (99 * j + k) = nI (H j (10 + k))
def hpN (h : Nat) : Nat := if h = 20 then 20 else h + 1
def hpH (h : Nat) (H : Nat → Nat → Nat) (S : Nat → Nat) : Nat → Nat → Nat := fun j => if h = 20 then (if j = 19 then S else H (j + 1)) else (if j = h then S else H j)
section MA
variable {n : Nat} {S : Nat → Nat}
theorem M_ka52 {g : Nat} (hg : g < 20) : ∀ (k j : Nat) (σ : PS), rowN σ 259 S → σ.1 249 26 = nI g → j ≤ 99 → 100 ≤ k + j → ∃ τ, L_X12_keepsAct_52 n k (nI j) σ = some τ ∧ (∀ x, τ.1 262 x = if 99 * g + j ≤ x ∧ x < 99 * g + 99 then nI (S (10 + (x - 99 * g))) else σ.1 262 x) ∧ agr [262] σ τ
  | 0, j, σ, hS, h26, hj, hk => by omega
  | k + 1, j, σ, hS, h26, hj, hk => by
    rw [L_X12_keepsAct_52, h26]
    simp (disch := omega) only [nI_lit, nI_leI, nI_mul, nI_add, nI_ge0, nI_clamp, true_and]
    by_cases e : j = 99
    · subst e
      rw [if_pos (Nat.le_refl _)]
      refine ⟨σ, rfl, fun x => ?_, agr_refl⟩
      rw [if_neg (by omega)]
    · rw [if_neg (by omega), if_pos (by omega), if_pos (by omega), rowN_get hS]
      obtain ⟨τ, e1, c1, a1⟩ := M_ka52 hg k (j + 1) (psI σ 262 (99 * g + j) (nI (S (10 + j)))) (rowN_other hS (by decide)) (by rw [psI_other (by decide)]; exact h26) (by omega) (by omega)
      refine ⟨τ, e1, fun x => ?_, agr_trans (agr_psI (by simp)) a1⟩
      rw [c1 x]
      by_cases q : x = 99 * g + j
      · subst q
        rw [if_neg (by omega), if_pos (by omega), psI_eq, if_pos rfl, show 99 * g + j - 99 * g = j by omega]
      · by_cases q2 : 99 * g + (j + 1) ≤ x ∧ x < 99 * g + 99
        · rw [if_pos q2, if_pos (by omega)]
        · rw [if_neg q2, if_neg (by omega), psI_eq, if_neg q]
theorem M_ka12 : ∀ (k j : Nat) (σ : PS), 99 ≤ j → j ≤ 1980 → 1981 ≤ k + j → ∃ τ, L_X12_keepsAct_12 n k (nI j) σ = some τ ∧ (∀ x, τ.1 262 x = if j ≤ x + 99 ∧ x + 99 < 1980 then σ.1 262 (x + 99) else σ.1 262 x) ∧ agr [262] σ τ
  | 0, j, σ, h0, hj, hk => by omega
  | k + 1, j, σ, h0, hj, hk => by
    rw [L_X12_keepsAct_12]
    simp (disch := omega) only [nI_lit, nI_leI, nI_sub, nI_add, nI_ge0, nI_clamp, true_and]
    by_cases e : j = 1980
    · subst e
      rw [if_pos (Nat.le_refl _)]
      refine ⟨σ, rfl, fun x => ?_, agr_refl⟩
      rw [if_neg (by omega)]
    · rw [if_neg (by omega), if_pos (by omega), if_pos (by omega)]
      obtain ⟨τ, e1, c1, a1⟩ := M_ka12 k (j + 1) (psI σ 262 (j - 99) (σ.1 262 j)) (by omega) (by omega) (by omega)
      refine ⟨τ, e1, fun x => ?_, agr_trans (agr_psI (by simp)) a1⟩
      rw [c1 x]
      simp only [psI_eq]
      by_cases q : x = j - 99
      · subst q
        rw [if_neg (by omega), if_pos rfl, if_pos (by omega), show j - 99 + 99 = j by omega]
      · by_cases q2 : j + 1 ≤ x + 99 ∧ x + 99 < 1980
        · rw [if_pos q2, if_neg (show ¬ x + 99 = j - 99 by omega), if_pos (show j ≤ x + 99 ∧ x + 99 < 1980 by omega)]
        · rw [if_neg q2, if_neg q, if_neg (show ¬ (j ≤ x + 99 ∧ x + 99 < 1980) by omega)]
theorem M_keepsAct (hn : 3000 ≤ n) {σ : PS} {h : Nat} {H : Nat → Nat → Nat} (hS : rowN σ 259 S) (hh : hM σ h H) : ∃ τ, F_X12_keepsAct n σ = some τ ∧ hM τ (hpN h) (hpH h H S) ∧ agm [262] [26] σ τ := by
  obtain ⟨h20, h26, hc⟩ := hh
  unfold F_X12_keepsAct hpN hpH
  rw [h26]
  simp (disch := omega) only [nI_lit, nI_eq]
  by_cases e : h = 20
  · subst e
    simp only [if_true]
    obtain ⟨τ, e1, c1, a1⟩ := M_ka12 (n := n) n 99 σ (by decide) (by decide) (by omega)
    rw [e1, Option.bind_some]
    have q26 : τ.1 249 26 = nI 20 := by rw [(a1 249 (by decide)).1]; exact h26
    rw [q26, nI_sub (by decide)]
    obtain ⟨υ, e2, c2, a2⟩ := M_ka52 (n := n) (S := S) (g := 19) (by decide) n 0 (psI τ 249 26 (nI (20 - 1))) (rowN_other (rowN_agr hS a1 (by decide)) (by decide)) (by rw [psI_eq, if_pos rfl]) (by decide) (by omega)
    rw [e2, Option.bind_some]
    have u26 : υ.1 249 26 = nI 19 := by rw [(a2 249 (by decide)).1, psI_eq, if_pos rfl]
    rw [u26, nI_add]
    refine ⟨_, rfl, ⟨by decide, by rw [psI_eq, if_pos rfl], fun j hj k hk => ?_⟩, ?_⟩
    · show _ = nI ((if j = 19 then S else H (j + 1)) (10 + k))
      rw [psI_other (by decide), c2]
      by_cases q : j = 19
      · subst q
        rw [if_pos (by omega), if_pos rfl, show 99 * 19 + k - 99 * 19 = k by omega]
      · rw [if_neg (by omega), if_neg q, psI_other (by decide), c1, if_pos (by omega), show 99 * j + k + 99 = 99 * (j + 1) + k by omega]
        exact hc (j + 1) (by omega) k hk
    · have b1 : agm [262] [26] σ τ := agm_of a1 (by decide)
      have b2 : agm [262] [26] τ (psI τ 249 26 (nI (20 - 1))) := agm_fld (by simp)
      have b3 : agm [262] [26] (psI τ 249 26 (nI (20 - 1))) υ := agm_of a2 (by decide)
      exact agm_trans b1 (agm_trans b2 (agm_trans b3 (agm_fld (by simp))))
  · simp only [e, if_false]
    obtain ⟨υ, e2, c2, a2⟩ := M_ka52 (n := n) (S := S) (g := h) (by omega) n 0 σ hS h26 (by decide) (by omega)
    rw [e2, Option.bind_some]
    have u26 : υ.1 249 26 = nI h := by rw [(a2 249 (by decide)).1]; exact h26
    rw [u26, nI_add]
    refine ⟨_, rfl, ⟨by omega, by rw [psI_eq, if_pos rfl], fun j hj k hk => ?_⟩, ?_⟩
    · show _ = nI ((if j = h then S else H j) (10 + k))
      rw [psI_other (by decide), c2]
      by_cases q : j = h
      · subst q
        rw [if_pos (by omega), if_pos rfl]
        congr 2
        omega
      · rw [if_neg (by omega), if_neg q]
        exact hc j (by omega) k hk
    · have b3 : agm [262] [26] σ υ := agm_of a2 (by decide)
      exact agm_trans b3 (agm_fld (by simp))
theorem M_undo21 {g : Nat} {K : Nat → Nat} (hg : g < 20) : ∀ (k j : Nat) (σ : PS) (T : Nat → Nat), rowN σ 259 T → σ.1 249 26 = nI g → (∀ x, x < 99 → σ.1 262 (99 * g + x) = nI (K x)) → j ≤ 99 → 100 ≤ k + j → (∀ i, T i = if 10 ≤ i ∧ i < 10 + j then K (i - 10) else S i) → ∃ τ, L_X12_undo_21 n k (nI j) σ = some τ ∧ rowN τ 259 (lay S K) ∧ agr [259] σ τ
  | 0, j, σ, T, hS, h26, hK, hj, hk, hT => by omega
  | k + 1, j, σ, T, hS, h26, hK, hj, hk, hT => by
    rw [L_X12_undo_21, h26]
    simp (disch := omega) only [nI_lit, nI_leI, nI_mul, nI_add, nI_ge0, nI_clamp, true_and]
    by_cases e : j = 99
    · subst e
      rw [if_pos (Nat.le_refl _)]
      have : T = lay S K := by
        funext i
        rw [hT i]
        rfl
      rw [← this]
      exact ⟨σ, rfl, hS, agr_refl⟩
    · rw [if_neg (by omega), if_pos (by omega), if_pos (by omega), hK j (by omega)]
      obtain ⟨τ, e1, c1, a1⟩ := M_undo21 hg k (j + 1) (psI σ 259 (10 + j) (nI (K j))) (un T (10 + j) (K j)) (rowN_set hS) (by rw [psI_other (by decide)]; exact h26) (fun x hx => by rw [psI_other (by decide)]; exact hK x hx) (by omega) (by omega) (fun i => by
        by_cases q : i = 10 + j
        · subst q
          rw [un_eq, if_pos (by omega), show 10 + j - 10 = j by omega]
        · rw [un_ne _ _ q, hT i]
          by_cases q2 : 10 ≤ i ∧ i < 10 + j
          · rw [if_pos q2, if_pos (by omega)]
          · rw [if_neg q2, if_neg (by omega)])
      exact ⟨τ, e1, c1, agr_trans (agr_psI (by simp)) a1⟩
theorem M_undo (hn : 3000 ≤ n) {σ : PS} {h : Nat} {H : Nat → Nat → Nat} (hS : rowN σ 259 S) (hh : hM σ h H) (h0 : h ≠ 0) (hl : lk S (H (h - 1))) : ∃ τ, F_X12_undo n σ = some (nI (h - 1), τ) ∧ rowN τ 259 (H (h - 1)) ∧ hM τ (h - 1) H ∧ agm [259] [26] σ τ := by
  obtain ⟨h20, h26, hc⟩ := hh
  unfold F_X12_undo
  rw [h26]
  simp (disch := omega) only [nI_lit, nI_eq]
  rw [if_neg h0, nI_sub (by omega)]
  have hlay : lay S (fun k => H (h - 1) (10 + k)) = H (h - 1) := by
    have q : lk (H (h - 1)) S := fun j hj => (hl j hj).symm
    exact lay_lk q
  obtain ⟨τ, e1, c1, a1⟩ := M_undo21 (n := n) (S := S) (g := h - 1) (K := fun k => H (h - 1) (10 + k)) (by omega) n 0 (psI σ 249 26 (nI (h - 1))) S (rowN_other hS (by decide)) (by rw [psI_eq, if_pos rfl]) (fun x hx => by rw [psI_other (by decide)]; exact hc (h - 1) (by omega) x hx) (by decide) (by omega) (fun i => by rw [if_neg (by omega)])
  rw [hlay] at c1
  have t26 : τ.1 249 26 = nI (h - 1) := by rw [(a1 249 (by decide)).1, psI_eq, if_pos rfl]
  rw [e1, Option.bind_some, t26]
  refine ⟨τ, rfl, c1, ⟨by omega, t26, fun j hj k hk => ?_⟩, ?_⟩
  · rw [(a1 262 (by decide)).1, psI_other (by decide)]
    exact hc j (by omega) k hk
  · have b2 : agm [259] [26] (psI σ 249 26 (nI (h - 1))) τ := agm_of a1 (by decide)
    exact agm_trans (agm_fld (by simp)) b2
end MA
