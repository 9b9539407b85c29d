/-! cut: the reference's search, whole. -/
section K32
variable {S T : Nat → Nat} {b tg n : Nat} {σ τ : PS}
/-- what the search from a level comes to -/
def cres (n N u k : Nat) (T : Nat → Nat) (tg r m j : Nat) (σ τ : PS) : Prop := (∀ l, lx tg m T r = some l → (∀ K, L_X12_isCutBy_16 n (K + j) (nI u) (nI N) (nI k) σ = some (0, τ)) ∧ (∀ i x, l[i]? = some x → τ.1 264 (k + i) = nI x) ∧ rowN τ 259 (bs T l)) ∧ (lx tg m T r = none → (∀ K, L_X12_isCutBy_16 n (K + j) (nI u) (nI N) (nI k) σ = L_X12_isCutBy_16 n K (nI u) (nI N) (nI k + -1) τ) ∧ rowN τ 259 T) ∧ (∀ i, i < k → τ.1 264 i = σ.1 264 i ∧ τ.1 265 i = σ.1 265 i) ∧ agr [259, 260, 261, 264, 265] σ τ
/-- a turn of the loop at a level -/
def cstp (n N u k : Nat) (T : Nat → Nat) (v : Nat) (σ : PS) : Prop := ∃ g' τ, v ≤ g' ∧ g' ≤ T 1 * T 1 ∧ (∀ w, v ≤ w → w < g' → ¬ ccP T (T (13 + 4 * u)) w) ∧ (g' < T 1 * T 1 → ccP T (T (13 + 4 * u)) g') ∧ τ.1 264 k = nI g' ∧ (∀ j, j ≠ k → τ.1 264 j = σ.1 264 j) ∧ rowN τ 259 T ∧ agr [259, 264] σ τ ∧ ∀ K, L_X12_isCutBy_16 n (K + 1) (nI u) (nI N) (nI k) σ = if g' < T 1 * T 1 then L_X12_isCutBy_16 n K (nI u) (nI N) (nI (k + 1)) (psI (psI (psI (psI τ 265 k 1) 259 (37 + g') 1) 264 (k + 1) (nI g')) 265 (k + 1) 0) else L_X12_isCutBy_16 n K (nI u) (nI N) (nI k + -1) (psI τ 265 k 0)
theorem cstp_1 (hn : 100 ≤ n) (cw : okW T b) {N k u v : Nat} (hN : N ≤ 3) (hk : k < N) (hu : u < T 2) (hS : rowN σ 259 T) (h4 : σ.1 264 k = nI v - 1) (h5 : σ.1 265 k = 0) (hv : v ≤ T 1 * T 1) : cstp n N u k T v σ := by
  obtain ⟨g', τ, t1, t2, t3, t4, t5, t6, t7, t8⟩ := M_citer hn cw hN hk hu hS h4 h5 hv
  exact ⟨g', τ, t1, t2, t3, t4, t5, t6, rowN_agr hS t7 (by decide), agr_mono t7 (by decide), t8⟩
theorem M_cloop (hn : 100 ≤ n) (cw : okW T b) {N k u r J : Nat} (hN : N ≤ 3) (hk : k < N) (hu : u < T 2) (sub : ∀ (g : Nat) (σ : PS), g < T 1 * T 1 → rowN σ 259 (bs T [g]) → σ.1 264 (k + 1) = nI (g + 1) - 1 → σ.1 265 (k + 1) = 0 → ∃ j τ, j ≤ J ∧ cres n N u (k + 1) (bs T [g]) (T (13 + 4 * u)) r (T 1 * T 1 - (g + 1)) j σ τ) : ∀ (M v : Nat) (σ : PS), T 1 * T 1 - v ≤ M → v ≤ T 1 * T 1 → cstp n N u k T v σ → ∃ j τ, j ≤ (M + 1) * (1 + J) ∧ cres n N u k T (T (13 + 4 * u)) (r + 1) (T 1 * T 1 - v) j σ τ := by
  have h36 := okW_36 cw
  intro M
  induction M with
  | zero =>
    intro v σ hM hv hs
    obtain ⟨g', τ, t1, t2, t3, t4, t5, t6, t7, t8, t9⟩ := hs
    have y : ¬ g' < T 1 * T 1 := by omega
    have e0 : lx (T (13 + 4 * u)) (T 1 * T 1 - v) T (r + 1) = none := by
      rw [show T 1 * T 1 - v = 0 by omega]; rfl
    refine ⟨1, psI τ 265 k 0, by omega, fun l hl => ?_, fun _ => ⟨fun K => by rw [t9 K, if_neg y], rowN_other t7 (by decide)⟩, fun i hi => ⟨by rw [psI_other (by decide), t6 i (by omega)], by rw [psI_eq, if_neg (by omega), (t8 265 (by decide)).1]⟩, agr_trans (agr_mono t8 (by decide)) (agr_psI (by decide))⟩
    rw [e0] at hl; cases hl
  | succ M ih =>
    intro v σ hM hv hs
    obtain ⟨g', τ, t1, t2, t3, t4, t5, t6, t7, t8, t9⟩ := hs
    have sk : lx (T (13 + 4 * u)) (T 1 * T 1 - v) T (r + 1) = lx (T (13 + 4 * u)) (T 1 * T 1 - g') T (r + 1) := by
      have := lx_skip (k := r) (T := T) (tg := T (13 + 4 * u)) (g' - v) (T 1 * T 1 - g') (by omega) (fun w h1 h2 => t3 w (by omega) (by omega))
      rw [show g' - v + (T 1 * T 1 - g') = T 1 * T 1 - v by omega] at this
      exact this
    by_cases y : g' < T 1 * T 1
    · obtain ⟨m', hm'⟩ : ∃ m', m' = T 1 * T 1 - (g' + 1) := ⟨_, rfl⟩
      have cc := t4 y
      have el : lx (T (13 + 4 * u)) (T 1 * T 1 - g') T (r + 1) = match lx (T (13 + 4 * u)) m' (bs T [g']) r with | some l => some (g' :: l) | none => lx (T (13 + 4 * u)) m' T (r + 1) := by
        rw [show T 1 * T 1 - g' = m' + 1 by omega]
        have eg : T 1 * T 1 - (m' + 1) = g' := by omega
        rw [← eg] at cc ⊢
        exact if_pos cc
      generalize hW : psI (psI (psI (psI τ 265 k 1) 259 (37 + g') 1) 264 (k + 1) (nI g')) 265 (k + 1) 0 = W at t9
      have aW : agr [259, 260, 261, 264, 265] τ W := by
        rw [← hW]
        exact agr_trans (agr_psI (by decide)) (agr_trans (agr_psI (by decide)) (agr_trans (agr_psI (by decide)) (agr_psI (by decide))))
      have rW : rowN W 259 (bs T [g']) := by
        have q1 : rowN (psI τ 265 k 1) 259 T := rowN_other t7 (by decide)
        have q2 := rowN_set (k := 37 + g') (v := 1) q1
        rw [un_bs] at q2
        rw [← hW]
        exact rowN_other (rowN_other q2 (by decide)) (by decide)
      have w4 : W.1 264 (k + 1) = nI g' := by rw [← hW, psI_other (by decide), psI_eq, if_pos rfl]
      have w5 : W.1 265 (k + 1) = 0 := by rw [← hW, psI_eq, if_pos rfl]
      have wl : ∀ i, i ≠ k + 1 → W.1 264 i = τ.1 264 i := fun i hi => by rw [← hW, psI_other (by decide), psI_eq, if_neg hi, psI_other (by decide), psI_other (by decide)]
      have wk5 : W.1 265 k = 1 := by rw [← hW, psI_eq, if_neg (by omega), psI_other (by decide), psI_other (by decide), psI_eq, if_pos rfl]
      have wl5 : ∀ i, i < k → W.1 265 i = τ.1 265 i := fun i hi => by rw [← hW, psI_eq, if_neg (by omega), psI_other (by decide), psI_other (by decide), psI_eq, if_neg (by omega)]
      obtain ⟨j1, τ1, u1, u2, u3, u4, u5⟩ := sub g' W y rW (by rw [w4]; exact (nI_pred _).symm) w5
      rw [← hm'] at u2 u3
      have lo4 : ∀ i, i < k → τ1.1 264 i = σ.1 264 i ∧ τ1.1 265 i = σ.1 265 i := fun i hi => ⟨by rw [(u4 i (by omega)).1, wl i (by omega), t6 i (by omega)], by rw [(u4 i (by omega)).2, wl5 i hi, (t8 265 (by decide)).1]⟩
      have k4 : τ1.1 264 k = nI g' := by rw [(u4 k (by omega)).1, wl k (by omega), t5]
      have k5 : τ1.1 265 k = 1 := by rw [(u4 k (by omega)).2, wk5]
      have ag1 : agr [259, 260, 261, 264, 265] σ τ1 := agr_trans (agr_mono t8 (by decide)) (agr_trans aW u5)
      have hmul : (M + 1 + 1) * (1 + J) = (M + 1) * (1 + J) + (1 + J) := Nat.succ_mul _ _
      cases hq : lx (T (13 + 4 * u)) m' (bs T [g']) r with
      | some l =>
        rw [hq] at el
        obtain ⟨a1, a2, a3⟩ := u2 l hq
        refine ⟨j1 + 1, τ1, by omega, fun l' hl' => ?_, fun hl' => ?_, lo4, ag1⟩
        · rw [sk, el] at hl'
          cases hl'
          refine ⟨fun K => by rw [← Nat.add_assoc, t9, if_pos y, a1], fun i x hx => ?_, by rw [← bs_bs]; exact a3⟩
          cases i with
          | zero =>
            have : g' = x := by simpa using hx
            rw [← this]; exact k4
          | succ i =>
            rw [show k + (i + 1) = k + 1 + i by omega]
            exact a2 i x (by simpa using hx)
        · rw [sk, el] at hl'; cases hl'
      | none =>
        rw [hq] at el
        obtain ⟨a1, a2⟩ := u3 hq
        have e1 : nI (k + 1) + (-1 : Int32) = nI k := m1_p (by omega)
        have st : cstp n N u k T (g' + 1) τ1 := by
          obtain ⟨g2, τ2, s1, s2, s3, s4, s5, s6, s7, s8, s9⟩ := M_citer2 (n := n) hn cw hN hk hu a2 cc.2 k4 k5 y
          exact ⟨g2, τ2, s1, s2, s3, s4, s5, s6, s7, s8, s9⟩
        obtain ⟨j2, τ2, v1, v2, v3, v4, v5⟩ := ih (g' + 1) τ1 (by omega) (by omega) st
        rw [← hm'] at v2 v3
        have go : ∀ K, L_X12_isCutBy_16 n (K + (j2 + j1 + 1)) (nI u) (nI N) (nI k) σ = L_X12_isCutBy_16 n (K + j2) (nI u) (nI N) (nI k) τ1 := fun K => by
          rw [show K + (j2 + j1 + 1) = (K + j2 + j1) + 1 by omega, t9, if_pos y, a1, e1]
        refine ⟨j2 + j1 + 1, τ2, by omega, fun l' hl' => ?_, fun hl' => ?_, fun i hi => ⟨(v4 i hi).1.trans (lo4 i hi).1, (v4 i hi).2.trans (lo4 i hi).2⟩, agr_trans ag1 v5⟩
        · rw [sk, el] at hl'
          obtain ⟨b1, b2, b3⟩ := v2 l' hl'
          exact ⟨fun K => by rw [go, b1], b2, b3⟩
        · rw [sk, el] at hl'
          obtain ⟨b1, b2⟩ := v3 hl'
          exact ⟨fun K => by rw [go, b1], b2⟩
    · have e0 : lx (T (13 + 4 * u)) (T 1 * T 1 - v) T (r + 1) = none := by
        rw [sk, show T 1 * T 1 - g' = 0 by omega]; rfl
      have hmul : (M + 1 + 1) * (1 + J) = (M + 1) * (1 + J) + (1 + J) := Nat.succ_mul _ _
      refine ⟨1, psI τ 265 k 0, by omega, fun l hl => ?_, fun _ => ⟨fun K => by rw [t9 K, if_neg y], rowN_other t7 (by decide)⟩, fun i hi => ⟨by rw [psI_other (by decide), t6 i (by omega)], by rw [psI_eq, if_neg (by omega), (t8 265 (by decide)).1]⟩, agr_trans (agr_mono t8 (by decide)) (agr_psI (by decide))⟩
      rw [e0] at hl; cases hl
def Jcb : Nat → Nat
  | 0 => 1
  | t + 1 => 37 * (1 + Jcb t)
theorem Jcb_le : ∀ N, N ≤ 3 → Jcb N ≤ 200000 := by decide
theorem M_srch (hn : 100 ≤ n) {N u : Nat} (hN : N ≤ 3) : ∀ (r k v : Nat) (T : Nat → Nat) (σ : PS), k + r = N → okW T b → u < T 2 → v ≤ T 1 * T 1 → rowN σ 259 T → σ.1 264 k = nI v - 1 → σ.1 265 k = 0 → ∃ j τ, j ≤ Jcb r ∧ cres n N u k T (T (13 + 4 * u)) r (T 1 * T 1 - v) j σ τ
  | 0, k, v, T, σ, hk, cw, hu, hv, hS, h4, h5 => by
    have h36 := okW_36 cw
    have h2 := cw.2.2.1
    have h11 := cw.2.2.2.1
    have ht := (cw.2.2.2.2.1 u hu).1
    obtain ⟨τ, a1, a2⟩ := M_wayB (n := n) hn hS cw h11 ht
    have ek : nI k = nI N := by rw [show k = N by omega]
    have e0 : ∀ m, lx (T (13 + 4 * u)) m T 0 = if wy T (T 11) (T (13 + 4 * u)) = 99 then some [] else none := fun m => by cases m <;> rfl
    have st : ∀ K, L_X12_isCutBy_16 n (K + 1) (nI u) (nI N) (nI k) σ = if nI (wy T (T 11) (T (13 + 4 * u))) = (99 : Int32) then some (0, τ) else L_X12_isCutBy_16 n K (nI u) (nI N) (nI k + -1) τ := fun K => by
      rw [L_X12_isCutBy_16, if_neg (show ¬ nI k < (0 : Int32) from nI_n0 (by omega)), if_pos ek, M_cellOf hS (by omega), Option.bind_some]
      show (F_X12_wayBetween n (σ.1 259 11) (nI (T (13 + 4 * u))) σ).bind _ = _
      rw [rowN_get hS, a1, Option.bind_some]
    have fr : (∀ i, i < k → τ.1 264 i = σ.1 264 i ∧ τ.1 265 i = σ.1 265 i) ∧ agr [259, 260, 261, 264, 265] σ τ := ⟨fun i _ => ⟨by rw [(a2 264 (by decide)).1], by rw [(a2 265 (by decide)).1]⟩, agr_mono a2 (by decide)⟩
    refine ⟨1, τ, Nat.le_refl _, fun l hl => ?_, fun hl => ?_, fr⟩
    · rw [e0] at hl
      by_cases q : wy T (T 11) (T (13 + 4 * u)) = 99
      · rw [if_pos q] at hl
        cases hl
        exact ⟨fun K => by rw [st, q]; exact if_pos rfl, fun i x hx => by simp at hx, by rw [bs_nil]; exact rowN_agr hS a2 (by decide)⟩
      · rw [if_neg q] at hl; cases hl
    · rw [e0] at hl
      by_cases q : wy T (T 11) (T (13 + 4 * u)) = 99
      · rw [if_pos q] at hl; cases hl
      · have lt := (wy_is cw h11).2.2.2 _ ht q
        exact ⟨fun K => by rw [st, if_neg (show ¬ nI (wy T (T 11) (T (13 + 4 * u))) = (99 : Int32) from fun w => q (nI_inj (by omega) (by decide) w))], rowN_agr hS a2 (by decide)⟩
  | r + 1, k, v, T, σ, hk, cw, hu, hv, hS, h4, h5 => by
    have h36 := okW_36 cw
    have h2 := cw.2.2.1
    have st := cstp_1 (n := n) hn cw hN (show k < N by omega) hu hS h4 h5 hv
    obtain ⟨j, τ, a1, a2⟩ := M_cloop (n := n) (r := r) (J := Jcb r) hn cw hN (show k < N by omega) hu (fun g σ' hg hS' h4' h5' => by
      have e1 : bs T [g] 1 = T 1 := bs_ne (by omega)
      have e2 : bs T [g] 2 = T 2 := bs_ne (by omega)
      have e3 : bs T [g] (13 + 4 * u) = T (13 + 4 * u) := bs_ne (by omega)
      have := M_srch hn hN r (k + 1) (g + 1) (bs T [g]) σ' (by omega) (okW_bs cw (fun x hx => by simp at hx; omega)) (by rw [e2]; exact hu) (by rw [e1]; omega) hS' h4' h5'
      rw [e1, e3] at this
      exact this) (T 1 * T 1 - v) v σ (Nat.le_refl _) hv st
    refine ⟨j, τ, ?_, a2⟩
    have : (T 1 * T 1 - v + 1) * (1 + Jcb r) ≤ 37 * (1 + Jcb r) := Nat.mul_le_mul_right _ (by omega)
    show j ≤ 37 * (1 + Jcb r)
    omega
end K32
