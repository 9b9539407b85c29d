/-! cut: the reference's search, its steps. -/
section K29
variable {S T : Nat → Nat} {b tg n : Nat} {σ τ : PS}
abbrev ccP (T : Nat → Nat) (tg v : Nat) : Prop := (v ≠ T 11 ∧ v ≠ tg) ∧ T (37 + v) = 0
theorem M_canCut (hS : rowN σ 259 T) (cw : okW T b) {u v : Nat} (hu : u < T 2) (hv : v < T 1 * T 1) : F_X12_canCut n (nI v) (nI u) σ = some (if ccP T (T (13 + 4 * u)) v then 1 else 0, σ) := by
  have h36 := okW_36 cw
  have h2 := cw.2.2.1
  have h11 := cw.2.2.2.1
  have ht := (cw.2.2.2.2.1 u hu).1
  have hb := (cw.2.2.2.2.2.2.1 v (by omega)).1
  unfold F_X12_canCut
  rw [M_isBush hS (by omega) (by omega), Option.bind_some]
  by_cases q : T (37 + v) = 0
  · rw [if_pos (show (if T (37 + v) = 0 then (0 : Int32) else 1) = 0 from if_pos q)]
    show (if nI v = σ.1 259 11 then some ((0 : Int32), σ) else (F_X12_cellOf n (nI u) σ).bind _) = _
    rw [rowN_get hS]
    by_cases q1 : v = T 11
    · have nc : ¬ ccP T (T (13 + 4 * u)) v := fun h => h.1.1 q1
      rw [if_neg nc, if_pos (by rw [q1])]
    · rw [if_neg (fun h => q1 (nI_inj (by omega) (by omega) h)), M_cellOf hS (by omega), Option.bind_some]
      by_cases q2 : v = T (13 + 4 * u)
      · have nc : ¬ ccP T (T (13 + 4 * u)) v := fun h => h.1.2 q2
        rw [if_neg nc, if_pos (show nI v = nI (T (13 + 4 * u)) by rw [← q2])]
      · have nc : ccP T (T (13 + 4 * u)) v := ⟨⟨q1, q2⟩, q⟩
        rw [if_pos nc, if_neg (show ¬ nI v = nI (T (13 + 4 * u)) from fun h => q2 (nI_inj (by omega) (by omega) h))]
  · have nc : ¬ ccP T (T (13 + 4 * u)) v := fun h => q h.2
    rw [if_neg (show ¬ (if T (37 + v) = 0 then (0 : Int32) else 1) = 0 by rw [if_neg q]; decide), if_neg nc]
theorem M_cscan (cw : okW T b) {k u : Nat} (hk : k < 4) (hu : u < T 2) {x2 : Int32} : ∀ (m K g : Nat) (σ : PS), rowN σ 259 T → σ.1 264 k = nI g → g + m = T 1 * T 1 → m < K → ∃ g' τ, g ≤ g' ∧ g' ≤ T 1 * T 1 ∧ (∀ v, g ≤ v → v < g' → ¬ ccP T (T (13 + 4 * u)) v) ∧ (g' < T 1 * T 1 → ccP T (T (13 + 4 * u)) g') ∧ L_X12_isCutBy_88 n K (nI u) x2 (nI k) σ = some (nI u, x2, nI k, τ) ∧ τ.1 264 k = nI g' ∧ (∀ j, j ≠ k → τ.1 264 j = σ.1 264 j) ∧ agr [264] σ τ
  | _, 0, g, σ, hS, h8, hg, hK => by omega
  | 0, K + 1, g, σ, hS, h8, hg, hK => by
    have h36 := okW_36 cw
    rw [L_X12_isCutBy_88, nI_clamp (show k < 2 ^ 31 by omega), if_pos (show 0 ≤ nI k ∧ k < 4 from ⟨nI_pos' (by omega), hk⟩), M_cells hS, Option.bind_some, h8, if_pos (show nI (T 1 * T 1) ≤ nI g from nI_le (by omega) (by omega))]
    exact ⟨g, σ, Nat.le_refl _, by omega, fun v h1 h2 => by omega, fun w => by omega, rfl, h8, fun _ _ => rfl, agr_refl⟩
  | m + 1, K + 1, g, σ, hS, h8, hg, hK => by
    have h36 := okW_36 cw
    rw [L_X12_isCutBy_88, nI_clamp (show k < 2 ^ 31 by omega), if_pos (show 0 ≤ nI k ∧ k < 4 from ⟨nI_pos' (by omega), hk⟩), M_cells hS, Option.bind_some, h8, if_neg (show ¬ nI (T 1 * T 1) ≤ nI g from nI_ge (by omega) (by omega))]
    show ∃ g' τ, _ ∧ _ ∧ _ ∧ _ ∧ (F_X12_canCut n (nI g) (nI u) σ).bind _ = some (nI u, x2, nI k, τ) ∧ _
    rw [M_canCut hS cw hu (by omega), Option.bind_some]
    by_cases e : ccP T (T (13 + 4 * u)) g
    · rw [if_neg (show ¬ (if ccP T (T (13 + 4 * u)) g then (1 : Int32) else 0) = 0 by rw [if_pos e]; decide)]
      exact ⟨g, σ, Nat.le_refl _, by omega, fun v h1 h2 => by omega, fun _ => e, rfl, h8, fun _ _ => rfl, agr_refl⟩
    · rw [if_pos (show (if ccP T (T (13 + 4 * u)) g then (1 : Int32) else 0) = 0 by rw [if_neg e])]
      show ∃ g' τ, _ ∧ _ ∧ _ ∧ _ ∧ L_X12_isCutBy_88 n K (nI u) x2 (nI k) (psI σ 264 k (σ.1 264 k + 1)) = some (nI u, x2, nI k, τ) ∧ _
      rw [h8, nI_1]
      have ag : agr [264] σ (psI σ 264 k (nI (g + 1))) := agr_psI (by simp)
      obtain ⟨g', τ, t1, t2, t3, t4, t5, t6, t7, t8⟩ := M_cscan cw hk hu (x2 := x2) m K (g + 1) (psI σ 264 k (nI (g + 1))) (rowN_agr hS ag (by decide)) (by rw [psI_eq, if_pos rfl]) (by omega) (by omega)
      refine ⟨g', τ, by omega, t2, fun v h1 h2 => ?_, t4, t5, t6, fun j hj => by rw [t7 j hj, psI_eq, if_neg hj], agr_trans ag t8⟩
      by_cases y : v = g
      · rw [y]; exact e
      · exact t3 v (by omega) h2
/-- the cells passed over change nothing -/
theorem lx_skip {k : Nat} : ∀ (d m : Nat), d + m ≤ T 1 * T 1 → (∀ v, T 1 * T 1 - (d + m) ≤ v → v < T 1 * T 1 - m → ¬ ccP T tg v) → lx tg (d + m) T (k + 1) = lx tg m T (k + 1)
  | 0, m, h, _ => by rw [Nat.zero_add]
  | d + 1, m, h, hh => by
    rw [show d + 1 + m = (d + m) + 1 by omega]
    show (if _ then _ else lx tg (d + m) T (k + 1)) = _
    rw [if_neg (hh _ (by omega) (by omega))]
    exact lx_skip d m (by omega) (fun v h1 h2 => hh v (by omega) h2)
end K29
