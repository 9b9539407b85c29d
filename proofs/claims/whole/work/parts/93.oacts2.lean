section OB
variable {n : Nat} {S : Nat → Nat}
theorem isI_lt {m k : Nat} (hm : m < 2 ^ 31) (hk : k < m) : isI m (nI k) = 1 := by
  unfold isI
  rw [if_neg (show ¬ nI k < 0 from nI_n0 (by omega)), if_neg (nI_ge hk (by omega))]
theorem keep_mono {p x : Nat} {σ τ : PS} (a : agr (94 :: wI (96 + 6 * p)) σ τ) : agr (94 :: x :: wI (96 + 6 * p)) σ τ := agr_mono a (fun j hj => by
  rcases List.mem_cons.mp hj with z | z
  · rw [z]; exact List.mem_cons_self
  · exact List.mem_cons_of_mem _ (List.mem_cons_of_mem _ z))
/-- a nerve is steadied -/
theorem O_steady_X (hn : 100 ≤ n) {b : Nat} (hw : okW S b) {h p : Nat} {H : Nat → Nat → Nat} {σ : PS} (hR : RX σ 25 S) (hh : hX σ h p H) {t m : Nat} (ht : t < S 2) (h1 : 1 ≤ m) (h9 : m ≤ 9) : ∃ τ, F_X11_steady n (nI t) (nI m) σ = some (nI (min (S (13 + 4 * t + 1) + m) 99), τ) ∧ RX τ 25 (un S (13 + 4 * t + 1) (min (S (13 + 4 * t + 1) + m) 99)) ∧ hX τ (hpN h) ((p + 1) % 20) (hpH h H S) ∧ agr (94 :: 27 :: wI (96 + 6 * p)) σ τ := by
  have h36 := okW_36 hw
  have h2 := hw.2.2.1
  have hnv := (hw.2.2.2.2.1 t ht).2.1
  unfold F_X11_steady
  rw [X_hasTent hR, Option.bind_some, isI_lt (by omega) ht, if_neg (show ¬ (1 : Int32) = 0 by decide)]
  rw [if_neg (show ¬ nI m < (1 : Int32) from nI_nlt (show 1 ≤ m from h1) (by omega)), if_pos (show nI m ≤ (9 : Int32) from nI_le (show m ≤ 9 from h9) (by decide))]
  obtain ⟨τ, e, hk, a⟩ := X_keep hn h2 hR hh
  have hR' := RX_agr hR a (keep_m hh.2.1)
  rw [e, Option.bind_some]
  simp (disch := omega) only [nI_lit, nI_ge0, nI_clamp, true_and]
  have hm : (if nI 99 < nI (S (13 + 4 * t + 1) + m) then nI 99 else nI (S (13 + 4 * t + 1) + m)) = nI (min (S (13 + 4 * t + 1) + m) 99) := by
    by_cases q : 99 < S (13 + 4 * t + 1) + m
    · rw [if_pos (nI_lt q (by omega)), Nat.min_eq_right (by omega)]
    · rw [if_neg (nI_nlt (by omega) (by omega)), Nat.min_eq_left (by omega)]
  rw [if_pos (show t < 6 by omega), (RX_tent hR' ht).2.1, nI_add, hm]
  have g : (psI τ 27 t (nI (min (S (13 + 4 * t + 1) + m) 99))).1 27 t = nI (min (S (13 + 4 * t + 1) + m) 99) := by rw [psI_eq, if_pos rfl]
  rw [g]
  exact ⟨_, rfl, RX_nerve hR' h36 h2 ht _, hX_agr hk (agr_psI (T := [27]) (by simp)) (one_T (by decide)), agr_trans (keep_mono a) (agr_psI (by simp))⟩
theorem O_steady_M (hn : 3000 ≤ n) {b : Nat} (hw : okW S b) {h : Nat} {H : Nat → Nat → Nat} {σ : PS} (hS : rowN σ 259 S) (hh : hM σ h H) {t m : Nat} (ht : t < S 2) (h1 : 1 ≤ m) (h9 : m ≤ 9) : ∃ τ, F_X12_steady n (nI t) (nI m) σ = some (nI (min (S (13 + 4 * t + 1) + m) 99), τ) ∧ rowN τ 259 (un S (13 + 4 * t + 1) (min (S (13 + 4 * t + 1) + m) 99)) ∧ hM τ (hpN h) (hpH h H S) ∧ agm [259, 262] [26] σ τ := by
  have h2 := hw.2.2.1
  have hnv := (hw.2.2.2.2.1 t ht).2.1
  unfold F_X12_steady
  rw [M_isTent hS, Option.bind_some, isI_lt (by omega) ht, if_neg (show ¬ (1 : Int32) = 0 by decide), show (1 : Int64) = lN 1 from rfl, show (9 : Int64) = lN 9 from rfl, M_in (show m < 2 ^ 31 by omega) (by decide) (by decide), Option.bind_some, if_pos (show 1 ≤ m ∧ m ≤ 9 from ⟨h1, h9⟩), if_neg (show ¬ (1 : Int32) = 0 by decide)]
  obtain ⟨τ, e, hk, a⟩ := M_keepsAct hn hS hh
  have hS' := rowN_agm hS a (by decide) (by decide)
  rw [e, Option.bind_some, M_nerveOf hS' (by omega), Option.bind_some]
  simp (disch := omega) only [nI_lit, nI_mul, nI_add, nI_leI, nI_ge0, nI_clamp, true_and]
  have fin : ∀ v, v = min (S (13 + 4 * t + 1) + m) 99 → ∃ υ, (F_X12_nerveOf n (nI t) (psI τ 259 (13 + 4 * t + 1) (nI v))).bind (fun q13 => some (q13.1, q13.2)) = some (nI (min (S (13 + 4 * t + 1) + m) 99), υ) ∧ rowN υ 259 (un S (13 + 4 * t + 1) (min (S (13 + 4 * t + 1) + m) 99)) ∧ hM υ (hpN h) (hpH h H S) ∧ agm [259, 262] [26] σ υ := by
    intro v hv
    subst hv
    have hS2 := rowN_set (k := 13 + 4 * t + 1) (v := min (S (13 + 4 * t + 1) + m) 99) hS'
    rw [M_nerveOf hS2 (by omega), Option.bind_some, un_eq]
    exact ⟨_, rfl, hS2, hM_agr hk (agr_psI (T := [259]) (by simp)) (by decide) (by decide), agm_trans (agm_mono a (by simp) (by simp)) (agm_psI (by simp) (by decide))⟩
  by_cases q : S (13 + 4 * t + 1) + m ≤ 99
  · rw [if_pos q, if_pos (by omega)]
    exact fin _ (Nat.min_eq_left q).symm
  · rw [if_neg q, if_pos (by omega)]
    exact fin _ (Nat.min_eq_right (by omega)).symm
/-- a bush is planted or cleared -/
theorem O_bush_X (hn : 100 ≤ n) {b : Nat} (hw : okW S b) {h p : Nat} {H : Nat → Nat → Nat} {σ : PS} (hR : RX σ 25 S) (hh : hX σ h p H) {c : Nat} (hc : c < S 1 * S 1) : ∃ τ, F_X11_bush n (nI c) σ = some (nI (1 - S (37 + c)), τ) ∧ RX τ 25 (un S (37 + c) (1 - S (37 + c))) ∧ hX τ (hpN h) ((p + 1) % 20) (hpH h H S) ∧ agr (94 :: 25 :: wI (96 + 6 * p)) σ τ := by
  have h36 := okW_36 hw
  have h2 := hw.2.2.1
  have hb := (hw.2.2.2.2.2.2.1 c (by omega)).1
  unfold F_X11_bush
  rw [X_hasCell hR, Option.bind_some, isI_lt (by omega) hc, if_neg (show ¬ (1 : Int32) = 0 by decide)]
  obtain ⟨τ, e, hk, a⟩ := X_keep hn h2 hR hh
  have hR' := RX_agr hR a (keep_m hh.2.1)
  rw [e, Option.bind_some, hR'.2.2.2.2.2.2.1, show (1 : Int64) = lN 1 from rfl, wb_shl 1 (show c < 64 by omega), Nat.one_mul, lN_xor]
  have hR2 := RX_bush hR' h36 h2 hc hb
  have e1 : un S (37 + c) (1 - S (37 + c)) 1 = S 1 := un_ne _ _ (by omega)
  rw [X_isFree hR2 (by rw [e1]; exact h36) (by rw [e1]; exact hc), Option.bind_some, un_eq]
  have fr : hX (psJ τ 25 6 (lN (bm S ^^^ 2 ^ c))) (hpN h) ((p + 1) % 20) (hpH h H S) := hX_agr hk (agr_psJ (T := [25]) (by simp)) (one_T (by decide))
  have ag : agr (94 :: 25 :: wI (96 + 6 * p)) σ (psJ τ 25 6 (lN (bm S ^^^ 2 ^ c))) := agr_trans (keep_mono a) (agr_psJ (by simp))
  by_cases z : S (37 + c) = 0
  · simp only [z, Nat.sub_zero, show ¬ (1 : Nat) = 0 by decide, if_false, if_true]
    rw [z] at hR2
    exact ⟨_, rfl, hR2, fr, ag⟩
  · have z1 : S (37 + c) = 1 := by omega
    simp only [z1, Nat.sub_self, if_true]
    rw [z1] at hR2
    rw [if_neg (show ¬ (1 : Int32) = 0 by decide)]
    exact ⟨_, rfl, hR2, fr, ag⟩
theorem O_bush_M (hn : 3000 ≤ n) {b : Nat} (hw : okW S b) {h : Nat} {H : Nat → Nat → Nat} {σ : PS} (hS : rowN σ 259 S) (hh : hM σ h H) {c : Nat} (hc : c < S 1 * S 1) : ∃ τ, F_X12_bush n (nI c) σ = some (nI (1 - S (37 + c)), τ) ∧ rowN τ 259 (un S (37 + c) (1 - S (37 + c))) ∧ hM τ (hpN h) (hpH h H S) ∧ agm [259, 262] [26] σ τ := by
  have h36 := okW_36 hw
  have hb := (hw.2.2.2.2.2.2.1 c (by omega)).1
  unfold F_X12_bush
  rw [M_isCell hS, Option.bind_some, isI_lt (by omega) hc, if_neg (show ¬ (1 : Int32) = 0 by decide)]
  obtain ⟨τ, e, hk, a⟩ := M_keepsAct hn hS hh
  have hS' := rowN_agm hS a (by decide) (by decide)
  rw [e, Option.bind_some]
  simp (disch := omega) only [nI_lit, nI_add, nI_ge0, nI_clamp, true_and]
  rw [if_pos (by omega), rowN_get hS', nI_sub hb]
  have hS2 := rowN_set (k := 37 + c) (v := 1 - S (37 + c)) hS'
  rw [rowN_get hS2, un_eq]
  exact ⟨_, rfl, hS2, hM_agr hk (agr_psI (T := [259]) (by simp)) (by decide) (by decide), agm_trans (agm_mono a (by simp) (by simp)) (agm_psI (by simp) (by decide))⟩
end OB
