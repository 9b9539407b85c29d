/-! winds: both sides alike, to the end. -/
section K14
variable {B : Nat → Int32} {sz z h p : Nat} {cs : Nat → List CL} {S S' : Nat → Nat} {H : Nat → Nat → Nat} {fo x : Int32} {im : Nat → Option IMG} {σ τ : PS} {n : Nat}
/-- the tours in the wind: asked, gathered, drawn -/
noncomputable def wdP (S : Nat → Nat) (D : Nat) (ru : RU) (p m : Nat) : Nat → Int32 × Int32 × Nat
  | 0 => (0, 0, D)
  | j + 1 => ((wdP S D ru p m j).1 + (nI (aAll (wdN S (wdP S D ru p m j).2.2 ru p m).1 (S 2)) - nI (aAll S (S 2))), (wdP S D ru p m j).2.1 + nI (pcn ((wdN S (wdP S D ru p m j).2.2 ru p m).1 12)), (wdN S (wdP S D ru p m j).2.2 ru p m).2)
theorem wdP_lt {b D m : Nat} (cw : okW S b) (hD : D < 2 ^ 31) (ru : RU) : ∀ j, (wdP S D ru p m j).2.2 < 2 ^ 31
  | 0 => hD
  | j + 1 => (wdN_ok cw (wdP_lt cw hD ru j) ru m).2.2
theorem k12_64 {b : Nat} (cw : okW S b) : S 12 < 64 := by
  have := cw.2.2.2.2.2.1
  have p64 : 2 ^ (S 2) ≤ 2 ^ 6 := Nat.pow_le_pow_right (by decide) cw.2.2.1
  omega
theorem X_blow31 {b D p m t : Nat} (hn : 3000 ≤ n) (cw : okW S b) (hb : b + 200 < 2 ^ 20) (hD : D < 2 ^ 31) (hp : p ≤ 100) (hm : m ≤ 60) (ht : t ≤ 10) {ru : RU} {fo : Int32} : ∀ (K j : Nat) (σ : PS), RX σ 25 S → σ.2 216 6 = lN (wdP S D ru p m j).2.2 → σ.1 216 4 = (wdP S D ru p m j).1 → σ.1 216 5 = (wdP S D ru p m j).2.1 → foX n σ ru fo → σ.1 18 5 = fo → j ≤ t → t < K + j → ∃ τ, L_X2_blow_31 n 18 K (nI t) (nI m) (nI p) (nI (aAll S (S 2))) (nI j) σ = some τ ∧ τ.1 216 4 = (wdP S D ru p m t).1 ∧ τ.1 216 5 = (wdP S D ru p m t).2.1 ∧ agx (216 :: wI 217) σ τ
  | 0, j, σ, hR, h6, h4, h5', hf, h5, hk, hK => by omega
  | K + 1, j, σ, hR, h6, h4, h5', hf, h5, hk, hK => by
    have h2 := cw.2.2.1
    rw [L_X2_blow_31]
    by_cases e : t ≤ j
    · have : j = t := by omega
      subst this
      rw [if_pos (nI_le (Nat.le_refl _) (by omega))]
      exact ⟨σ, rfl, h4, h5', agx_refl⟩
    · rw [if_neg (nI_ge (by omega) (by omega))]
      have hDj := wdP_lt (p := p) (m := m) cw hD ru j
      obtain ⟨o1, o2, o3⟩ := wdN_ok (p := p) cw hDj ru m
      obtain ⟨τ1, a1, a2⟩ := X_copyFrom (n := n) (i := 217) (a := 25) (by omega) (by omega) (σ := σ)
      have ag1 : agx (216 :: wI 217) σ τ1 := agx_of (agr_mono a2.2.2.2.2 (by decide)) (by decide)
      have hR1 := CP_RX a2 hR h2
      obtain ⟨τ2, b1, b2, b3, b4, b5⟩ := X_blow51 (n := n) hn cw hb hDj hp hm (ru := ru) (fo := fo) (x2 := nI t) (x5 := nI (aAll S (S 2))) (x6 := nI j) n 0 τ1 hR1 (by rw [(a2.2.2.2.2 216 (by decide)).2]; exact h6) (foX_agx hf ag1 (by decide)) (by rw [(ag1.1 18 (by decide) (by decide) (by decide)).1]; exact h5) (by omega) (by omega)
      have ag2 := agx_trans ag1 b4
      have e2 : (wdN S (wdP S D ru p m j).2.2 ru p m).1 2 = S 2 := o2 2 (by omega)
      have g4 : τ2.1 216 4 = (wdP S D ru p m j).1 := by rw [b5, (a2.2.2.2.2 216 (by decide)).1]; exact h4
      have g5 : τ2.1 216 5 = (wdP S D ru p m j).2.1 := by rw [b5, (a2.2.2.2.2 216 (by decide)).1]; exact h5'
      show ∃ τ, (F_X10_copyFrom n 217 25 σ).bind _ = some τ ∧ _
      rw [a1, Option.bind_some]
      show ∃ τ, (L_X2_blow_51 n 18 n (nI t) (nI m) (nI p) (nI (aAll S (S 2))) (nI j) (nI 0) τ1).bind _ = some τ ∧ _
      rw [b1, Option.bind_some]
      show ∃ τ, (F_X10_askedInAll n 217 τ2).bind _ = some τ ∧ _
      rw [X_askedInAll (by omega) b2 o1.2.2.1, Option.bind_some, e2]
      generalize hU : wdN S (wdP S D ru p m j).2.2 ru p m = U at *
      generalize hW : wdP S D ru p m j = W at *
      have ew : wdP S D ru p m (j + 1) = (W.1 + (nI (aAll U.1 (S 2)) - nI (aAll S (S 2))), W.2.1 + nI (pcn (U.1 12)), U.2) := by
        show ((wdP S D ru p m j).1 + (nI (aAll (wdN S (wdP S D ru p m j).2.2 ru p m).1 (S 2)) - nI (aAll S (S 2))), (wdP S D ru p m j).2.1 + nI (pcn ((wdN S (wdP S D ru p m j).2.2 ru p m).1 12)), (wdN S (wdP S D ru p m j).2.2 ru p m).2) = _
        rw [hW, hU]
      show ∃ τ, (F_J6_bitCount_0f7a4 n ((psI τ2 216 4 (τ2.1 216 4 + (nI (aAll U.1 (S 2)) - nI (aAll S (S 2))))).1 217 4) (psI τ2 216 4 (τ2.1 216 4 + (nI (aAll U.1 (S 2)) - nI (aAll S (S 2)))))).bind (fun q10 => L_X2_blow_31 n 18 K (nI t) (nI m) (nI p) (nI (aAll S (S 2))) (nI j + 1) (psI q10.2 216 5 (((psI τ2 216 4 (τ2.1 216 4 + (nI (aAll U.1 (S 2)) - nI (aAll S (S 2))))).1 216 5) + q10.1))) = some τ ∧ _
      rw [psI_other (show 217 ≠ 216 by decide), b2.2.2.2.2.1, J_bitCount6 _ (k12_64 o1), Option.bind_some, g4, psI_eq, if_neg (by decide), g5, nI_1]
      have ag3 : agr [216] τ2 (psI (psI τ2 216 4 (W.1 + (nI (aAll U.1 (S 2)) - nI (aAll S (S 2))))) 216 5 (W.2.1 + nI (pcn (U.1 12)))) := agr_trans (agr_psI (by simp)) (agr_psI (by simp))
      have agx3 : agx (216 :: wI 217) σ (psI (psI τ2 216 4 (W.1 + (nI (aAll U.1 (S 2)) - nI (aAll S (S 2))))) 216 5 (W.2.1 + nI (pcn (U.1 12)))) := agx_trans ag2 (agx_of (agr_mono ag3 (by decide)) (by decide))
      obtain ⟨τ, t1, t2, t3, t4⟩ := X_blow31 hn cw hb hD hp hm ht (ru := ru) (fo := fo) K (j + 1) _ (RX_agx hR agx3 (by decide) (by decide)) (by rw [ew]; exact b3) (by rw [ew, psI_eq, if_neg (by decide), psI_eq, if_pos rfl]) (by rw [ew, psI_eq, if_pos rfl]) (foX_agx hf agx3 (by decide)) (by rw [(agx3.1 18 (by decide) (by decide) (by decide)).1]; exact h5) (by omega) (by omega)
      exact ⟨τ, t1, t2, t3, agx_trans agx3 t4⟩
theorem agm_fldJ {T Fs : List Nat} {k : Nat} {v : Int64} (h : k ∈ Fs) : agm T Fs σ (psJ σ 249 k v) := ⟨fun j _ hn => psJ_ne hn, fun b hb => ⟨rfl, by
  have : b ≠ k := fun e => hb (e ▸ h)
  simp [psJ, this]⟩⟩
theorem M_blows {b D : Nat} (cw : okW S b) (hD : D < 2 ^ 31) (hS : rowN σ 259 S) (h6 : σ.2 249 38 = lN D) : ∃ τ, F_X12_blows n σ = some τ ∧ rowN τ 259 (blS S (dX D / 65536 % 4)) ∧ τ.2 249 38 = lN (dX D) ∧ agm [259] [38] σ τ := by
  have h36 := okW_36 cw
  have h11 := cw.2.2.2.1
  unfold F_X12_blows
  have ag1 : agm [259] [38] σ (psJ σ 249 38 (lN (dX D))) := agm_fldJ (by simp)
  have hS1 : rowN (psJ σ 249 38 (lN (dX D))) 259 S := rowN_psJ hS
  rw [show (4 : Int32) = nI 4 from rfl, M_draw hD h6 (by decide) (by decide), Option.bind_some, rowN_get hS, M_besideOf hS1 cw.1 cw.2.1 h11 (Nat.mod_lt _ (by decide)), Option.bind_some]
  unfold blS
  by_cases w : nb (S 1) (S 11) (dX D / 65536 % 4) = 99
  · have e : ps S (S 11) (dX D / 65536 % 4) = 99 := by unfold ps; rw [if_pos w]
    rw [if_pos (show oI (nb (S 1) (S 11) (dX D / 65536 % 4)) < 0 by rw [w]; exact m1_lt), if_pos e]
    exact ⟨_, rfl, hS1, psJ_v, ag1⟩
  · have hlt := nb_lt h11 w
    have eo : oI (nb (S 1) (S 11) (dX D / 65536 % 4)) = nI (nb (S 1) (S 11) (dX D / 65536 % 4)) := by unfold oI; rw [if_neg w]
    rw [eo, if_neg (show ¬ nI (nb (S 1) (S 11) (dX D / 65536 % 4)) < 0 from nI_n0 (by omega))]
    have hb1 := (cw.2.2.2.2.2.2.1 _ (show nb (S 1) (S 11) (dX D / 65536 % 4) < 36 by omega)).1
    show ∃ τ, (F_X12_isBush n (nI (nb (S 1) (S 11) (dX D / 65536 % 4))) (psJ σ 249 38 (lN (dX D)))).bind _ = _ ∧ _
    rw [M_isBush hS1 (by omega) (by omega), Option.bind_some]
    by_cases y : S (37 + nb (S 1) (S 11) (dX D / 65536 % 4)) = 0
    · have e : ps S (S 11) (dX D / 65536 % 4) = nb (S 1) (S 11) (dX D / 65536 % 4) := by unfold ps; rw [if_neg w, if_pos y]
      rw [if_pos (show (if S (37 + nb (S 1) (S 11) (dX D / 65536 % 4)) = 0 then (0 : Int32) else 1) = 0 from if_pos y), e, if_neg w]
      exact ⟨_, rfl, rowN_set hS1, (congrFun (congrFun psI_J 249) 38).trans psJ_v, agm_trans ag1 (agm_psI (by simp) (by decide))⟩
    · have e : ps S (S 11) (dX D / 65536 % 4) = 99 := by unfold ps; rw [if_neg w, if_neg y]
      rw [if_neg (show ¬ (if S (37 + nb (S 1) (S 11) (dX D / 65536 % 4)) = 0 then (0 : Int32) else 1) = 0 by rw [if_neg y]; decide), if_pos e]
      exact ⟨_, rfl, hS1, psJ_v, ag1⟩
theorem M_winds93 {b D p m : Nat} (hn : 3000 ≤ n) (cw : okW S b) (hb : b + 200 < 2 ^ 20) (hD : D < 2 ^ 31) (hp : p ≤ 100) (hm : m ≤ 60) {ru : RU} {x1 x4 x5 x6 x7 x8 : Int32} : ∀ (K k : Nat) (σ : PS), rowN σ 259 (wdN S D ru p k).1 → σ.2 249 38 = lN (wdN S D ru p k).2 → foM n σ ru → k ≤ m → m < K + k → ∃ τ, L_X12_winds_93 n K x1 (nI m) (nI p) x4 x5 x6 x7 x8 (nI k) σ = some (x1, nI m, nI p, x4, x5, x6, x7, x8, τ) ∧ rowN τ 259 (wdN S D ru p m).1 ∧ τ.2 249 38 = lN (wdN S D ru p m).2 ∧ agm [257, 258, 259, 260, 261] [18, 38] σ τ
  | 0, k, σ, hS, h6, hf, hk, hK => by omega
  | K + 1, k, σ, hS, h6, hf, hk, hK => by
    rw [L_X12_winds_93]
    by_cases e : m ≤ k
    · have : k = m := by omega
      subst this
      rw [if_pos (nI_le (Nat.le_refl _) (by omega))]
      exact ⟨σ, rfl, hS, h6, agm_refl⟩
    · obtain ⟨o1, o2, o3⟩ := wdN_ok (p := p) cw hD ru k
      rw [if_neg (nI_ge (by omega) (by omega)), nI_1]
      have ew : wdN S D ru p (k + 1) = wdS ru p (wdN S D ru p k) := rfl
      unfold wdS at ew
      generalize hU : wdN S D ru p k = U at *
      have l1 := dX_lt U.2
      have ag1 : agm [257, 258, 259, 260, 261] [18, 38] σ (psJ σ 249 38 (lN (dX U.2))) := agm_fldJ (by simp)
      have hf1 := foM_agm hf ag1 (by decide) (by decide) (by decide) (by decide)
      rw [show (100 : Int32) = nI 100 from rfl, M_draw o3 h6 (by decide) (by decide), Option.bind_some]
      have fin : ∀ V τ1 τ2, F_X12_passes n τ1 = some (V, τ2) → rowN τ2 259 (wdN S D ru p (k + 1)).1 → τ2.2 249 38 = lN (wdN S D ru p (k + 1)).2 → agm [257, 258, 259, 260, 261] [18, 38] σ τ2 → ∃ τ, (F_X12_passes n τ1).bind (fun q25 => L_X12_winds_93 n K x1 (nI m) (nI p) x4 x5 x6 x7 x8 (nI (k + 1)) q25.2) = some (x1, nI m, nI p, x4, x5, x6, x7, x8, τ) ∧ rowN τ 259 (wdN S D ru p m).1 ∧ τ.2 249 38 = lN (wdN S D ru p m).2 ∧ agm [257, 258, 259, 260, 261] [18, 38] σ τ := by
        intro V τ1 τ2 b1 b2 b3 b4
        obtain ⟨τ, t1, t2, t3, t4⟩ := M_winds93 hn cw hb hD hp hm (ru := ru) (x1 := x1) (x4 := x4) (x5 := x5) (x6 := x6) (x7 := x7) (x8 := x8) K (k + 1) τ2 b2 b3 (foM_agm hf b4 (by decide) (by decide) (by decide) (by decide)) (by omega) (by omega)
        rw [b1, Option.bind_some]
        exact ⟨τ, t1, t2, t3, agm_trans b4 t4⟩
      by_cases q : dX U.2 / 65536 % 100 < p
      · rw [if_pos q] at ew
        rw [if_neg (show ¬ nI p ≤ nI (dX U.2 / 65536 % 100) from nI_ge q (by omega))]
        obtain ⟨τ1, a1, a2, a3, a4⟩ := M_blows (n := n) o1 l1 (rowN_psJ hS) (psJ_v (σ := σ) (i := 249) (k := 38) (v := lN (dX U.2)))
        have ag2 := agm_trans ag1 (agm_mono a4 (by decide) (by decide))
        obtain ⟨τ2, b1, b2, b3⟩ := M_passes (n := n) (b := b + k) (by omega) (by omega) (okW_bl o1) a2 (foM_agm hf ag2 (by decide) (by decide) (by decide) (by decide))
        show ∃ τ, (F_X12_blows n (psJ σ 249 38 (lN (dX U.2)))).bind _ = _ ∧ _
        rw [a1, Option.bind_some]
        exact fin _ τ1 τ2 b1 (by rw [ew]; exact b2) (by rw [ew, (b3.2 38 (by decide)).2]; exact a3) (agm_trans ag2 (agm_mono b3 (by decide) (by decide)))
      · rw [if_neg q] at ew
        rw [if_pos (show nI p ≤ nI (dX U.2 / 65536 % 100) from nI_le (by omega) (by omega))]
        obtain ⟨τ2, b1, b2, b3⟩ := M_passes (n := n) (b := b + k) (by omega) (by omega) o1 (rowN_psJ (j := 249) (k := 38) (v := lN (dX U.2)) hS) hf1
        exact fin _ _ τ2 b1 (by rw [ew]; exact b2) (by rw [ew, (b3.2 38 (by decide)).2]; exact psJ_v) (agm_trans ag1 (agm_mono b3 (by decide) (by decide)))
theorem M_winds84 {b D p m t : Nat} (hn : 3000 ≤ n) (cw : okW S b) (hb : b + 200 < 2 ^ 20) (hD : D < 2 ^ 31) (hp : p ≤ 100) (hm : m ≤ 60) (ht : t ≤ 10) {ru : RU} {w : Int32} : ∀ (K j : Nat) (σ : PS), rowN σ 259 S → (∀ i, i < 99 → σ.1 263 i = nI (S (10 + i))) → σ.2 249 38 = lN (wdP S D ru p m j).2.2 → foM n σ ru → j ≤ t → t < K + j → ∃ τ, L_X12_winds_84 n K (nI t) (nI m) (nI p) w (wdP S D ru p m j).1 (wdP S D ru p m j).2.1 (nI (aAll S (S 2))) (nI j) σ = some (w, (wdP S D ru p m t).1, (wdP S D ru p m t).2.1, τ) ∧ rowN τ 259 S ∧ agm [257, 258, 259, 260, 261] [18, 38] σ τ
  | 0, j, σ, hS, hK3, h6, hf, hk, hK => by omega
  | K + 1, j, σ, hS, hK3, h6, hf, hk, hK => by
    have h2 := cw.2.2.1
    rw [L_X12_winds_84]
    by_cases e : t ≤ j
    · have : j = t := by omega
      subst this
      rw [if_pos (nI_le (Nat.le_refl _) (by omega))]
      exact ⟨σ, rfl, hS, agm_refl⟩
    · rw [if_neg (nI_ge (by omega) (by omega))]
      have hDj := wdP_lt (p := p) (m := m) cw hD ru j
      obtain ⟨o1, o2, o3⟩ := wdN_ok (p := p) cw hDj ru m
      obtain ⟨τ1, a1, a2, a3, a4⟩ := M_winds93 (n := n) hn cw hb hDj hp hm (ru := ru) (x1 := nI t) (x4 := w) (x5 := (wdP S D ru p m j).1) (x6 := (wdP S D ru p m j).2.1) (x7 := nI (aAll S (S 2))) (x8 := nI j) n 0 σ hS h6 hf (by omega) (by omega)
      obtain ⟨τ2, d1, d2, d3⟩ := M_lb (n := n) (S := S) hn (τ := τ1) (fun i hi => by rw [(a4.1 263 (by decide) (by decide)).1]; exact hK3 i hi) a2 o2
      have ag2 := agm_trans a4 (agm_mono (agm_of d3 (by decide) (Fs := [])) (by decide) (by simp))
      have e2 : (wdN S (wdP S D ru p m j).2.2 ru p m).1 2 = S 2 := o2 2 (by omega)
      show ∃ τ, (L_X12_winds_93 n n (nI t) (nI m) (nI p) w (wdP S D ru p m j).1 (wdP S D ru p m j).2.1 (nI (aAll S (S 2))) (nI j) (nI 0) σ).bind _ = _ ∧ _
      rw [a1, Option.bind_some]
      show ∃ τ, (F_X12_askedAll n τ1).bind _ = _ ∧ _
      rw [M_askedAll (by omega) a2 o1.2.2.1, Option.bind_some, e2]
      show ∃ τ, (F_X12_bits n (τ1.1 259 12) τ1).bind _ = _ ∧ _
      rw [rowN_get a2, M_bits (by omega) (k12_64 o1), Option.bind_some]
      show ∃ τ, (F_X12_laysBack n τ1).bind _ = _ ∧ _
      rw [d1, Option.bind_some]
      show ∃ τ, L_X12_winds_84 n K (nI t) (nI m) (nI p) w ((wdP S D ru p m j).1 + (nI (aAll (wdN S (wdP S D ru p m j).2.2 ru p m).1 (S 2)) - nI (aAll S (S 2)))) ((wdP S D ru p m j).2.1 + nI (pcn ((wdN S (wdP S D ru p m j).2.2 ru p m).1 12))) (nI (aAll S (S 2))) (nI j + 1) τ2 = _ ∧ _
      rw [nI_1]
      obtain ⟨τ, t1, t2, t3⟩ := M_winds84 hn cw hb hD hp hm ht (ru := ru) (w := w) K (j + 1) τ2 d2 (fun i hi => by rw [(ag2.1 263 (by decide) (by decide)).1]; exact hK3 i hi) (by rw [(d3 249 (by decide)).2]; exact a3) (foM_agm hf ag2 (by decide) (by decide) (by decide) (by decide)) (by omega) (by omega)
      exact ⟨τ, t1, t2, agm_trans ag2 t3⟩
theorem K_winds (hn : 3000 ≤ n) (a b c d : Int32) (hi : Inv σ) : Kok (F_X11_winds n a b c d) (F_X12_winds n a b c d) σ := by
  obtain ⟨B, sz, z, cs, S, h, p, H, fo, x, im, hg, hx, hm⟩ := hi
  rcases hg.2.2.1 with q | hc
  · refine K_noC hg hx hm (-1) (fun τ hr => ?_) (fun τ hr => ?_)
    · unfold F_X11_winds; rw [X_pitched hr (by rw [q]; decide), Option.bind_some, if_pos (q 1), if_pos rfl]
    · unfold F_X12_winds; rw [M_isCamp hr (by rw [q]; decide), Option.bind_some, if_neg (show ¬ S 0 = 1 by rw [q]; decide), if_pos rfl]
  obtain ⟨c0, cw, cb, c10, c178, cnt, chi⟩ := id hc
  have h1 := cw.1
  have h1' := cw.2.1
  have h2 := cw.2.2.1
  have hs1 : ¬ S 1 = 0 := by omega
  have XP : ∀ τ, RX τ 25 S → F_X10_isPitched n 25 τ = some (1, τ) := fun τ hr => by rw [X_pitched hr (by omega), if_neg hs1]
  have MP : ∀ τ, rowN τ 259 S → F_X12_isCamp n τ = some (1, τ) := fun τ hr => by rw [M_isCamp hr (by omega), if_pos c0]
  rcases rng a 1 10 (by decide) with ⟨t, ht1, ht2, ht31, e⟩ | hout | q
  rotate_left
  · refine K_noC hg hx hm (-1) (fun τ hr => ?_) (fun τ hr => ?_)
    · unfold F_X11_winds
      rw [XP τ hr, Option.bind_some, if_neg ne10]
      by_cases w : a < (1 : Int32)
      · rw [if_pos w]
      · rw [if_neg w, if_pos (show (10 : Int32) < a from lt_of_out hout w)]
    · unfold F_X12_winds
      rw [MP τ hr, Option.bind_some, if_neg ne10, show (1 : Int64) = lN 1 from rfl, show (10 : Int64) = lN 10 from rfl, M_in_out (by decide) (by decide) hout, Option.bind_some, if_pos rfl]
  · exact absurd q (by decide)
  subst e
  have pa1 : ¬ nI t < (1 : Int32) := nI_nlt (show 1 ≤ t from ht1) ht31
  have pa2 : ¬ (10 : Int32) < nI t := nI_nlt (show t ≤ 10 from ht2) (by decide)
  rcases rng b 1 60 (by decide) with ⟨m, hm1', hm2, hm31, e⟩ | hout | q
  rotate_left
  · refine K_noC hg hx hm (-1) (fun τ hr => ?_) (fun τ hr => ?_)
    · unfold F_X11_winds
      rw [XP τ hr, Option.bind_some, if_neg ne10, if_neg pa1, if_neg pa2]
      by_cases w : b < (1 : Int32)
      · rw [if_pos w]
      · rw [if_neg w, if_neg (show ¬ b ≤ (60 : Int32) from Int32.not_le.mpr (lt_of_out hout w))]
    · unfold F_X12_winds
      rw [MP τ hr, Option.bind_some, if_neg ne10, show (1 : Int64) = lN 1 from rfl, show (10 : Int64) = lN 10 from rfl, M_in_in (by decide) (by decide) ht31 (by omega) ht2, Option.bind_some, if_neg ne10, show (60 : Int64) = lN 60 from rfl, M_in_out (by decide) (by decide) hout, Option.bind_some, if_pos rfl]
  · exact absurd q (by decide)
  subst e
  have pb1 : ¬ nI m < (1 : Int32) := nI_nlt (show 1 ≤ m from hm1') hm31
  have pb2 : nI m ≤ (60 : Int32) := nI_le (show m ≤ 60 from hm2) (by decide)
  rcases rng c 0 100 (by decide) with ⟨pp, _, hp2, hp31, e⟩ | hout | q
  rotate_left
  · refine K_noC hg hx hm (-1) (fun τ hr => ?_) (fun τ hr => ?_)
    · unfold F_X11_winds
      rw [XP τ hr, Option.bind_some, if_neg ne10, if_neg pa1, if_neg pa2, if_neg pb1, if_pos pb2]
      by_cases w : c < 0
      · rw [if_pos w]
      · rw [if_neg w, if_pos (show (100 : Int32) < c from lt_of_out hout w)]
    · unfold F_X12_winds
      rw [MP τ hr, Option.bind_some, if_neg ne10, show (1 : Int64) = lN 1 from rfl, show (10 : Int64) = lN 10 from rfl, M_in_in (by decide) (by decide) ht31 (by omega) ht2, Option.bind_some, if_neg ne10, show (60 : Int64) = lN 60 from rfl, M_in_in (by decide) (by decide) hm31 (by omega) hm2, Option.bind_some, if_neg ne10, show (0 : Int64) = lN 0 from rfl, show (100 : Int64) = lN 100 from rfl, M_in_out (by decide) (by decide) hout, Option.bind_some, if_pos rfl]
  · exact absurd q (by decide)
  subst e
  have pc1 : ¬ nI pp < (0 : Int32) := nI_n0 (by omega)
  have pc2 : ¬ (100 : Int32) < nI pp := nI_nlt (show pp ≤ 100 from hp2) (by decide)
  rcases rng d 0 1 (by decide) with ⟨w, _, hw2, hw31, e⟩ | hout | q
  rotate_left
  · refine K_noC hg hx hm (-1) (fun τ hr => ?_) (fun τ hr => ?_)
    · unfold F_X11_winds
      rw [XP τ hr, Option.bind_some, if_neg ne10, if_neg pa1, if_neg pa2, if_neg pb1, if_pos pb2, if_neg pc1, if_neg pc2]
      by_cases w : d < 0
      · rw [if_pos w]
      · rw [if_neg w, if_neg (show ¬ d ≤ (1 : Int32) from Int32.not_le.mpr (lt_of_out hout w))]
    · unfold F_X12_winds
      rw [MP τ hr, Option.bind_some, if_neg ne10, show (1 : Int64) = lN 1 from rfl, show (10 : Int64) = lN 10 from rfl, M_in_in (by decide) (by decide) ht31 (by omega) ht2, Option.bind_some, if_neg ne10, show (60 : Int64) = lN 60 from rfl, M_in_in (by decide) (by decide) hm31 (by omega) hm2, Option.bind_some, if_neg ne10, show (0 : Int64) = lN 0 from rfl, show (100 : Int64) = lN 100 from rfl, M_in_in (by decide) (by decide) hp31 (by omega) hp2, Option.bind_some, if_neg ne10, M_in_out (by decide) (by decide) hout, Option.bind_some, if_pos rfl]
  · exact absurd q (by decide)
  subst e
  have pd1 : ¬ nI w < (0 : Int32) := nI_n0 (by omega)
  have pd2 : nI w ≤ (1 : Int32) := nI_le (show w ≤ 1 from hw2) (by decide)
  obtain ⟨D, hD, eD⟩ : ∃ D, D < 2 ^ 31 ∧ x = nI D := by
    rcases rng x 0 2147483647 (by decide) with ⟨k, _, _, hk, e⟩ | hout | q
    · exact ⟨k, hk, e⟩
    · rcases hout with w | ⟨_, _, k, hk, _, e⟩
      · exact absurd hg.2.2.2.2.1 (Int32.not_le.mpr w)
      · exact ⟨k, hk, e⟩
    · exact absurd q (by decide)
  have hR := hx.2.2.2.1.1
  have hx6 : σ.1 18 6 = nI D := by rw [hx.2.2.2.1.2.2.2.2.1]; exact eD
  generalize hV : psI (psI (psJ σ 216 6 (lN D)) 216 4 (0 : Int32)) 216 5 (0 : Int32) = V
  have v4 : V.1 216 4 = 0 := by rw [← hV, psI_eq, if_neg (by decide), psI_eq, if_pos rfl]
  have v5 : V.1 216 5 = 0 := by rw [← hV, psI_eq, if_pos rfl]
  have v6 : V.2 216 6 = lN D := by rw [← hV, psI_J, psI_J]; exact psJ_v
  have ag0 : agr [216] σ V := by rw [← hV]; exact agr_trans (agr_psJ (by simp)) (agr_trans (agr_psI (by simp)) (agr_psI (by simp)))
  have agx0 : agx (216 :: wI 217) σ V := agx_of (agr_mono ag0 (by decide)) (by decide)
  have hRV := RX_agr hR ag0 (by decide)
  obtain ⟨τ3, d1, d2, d3, d4⟩ := X_blow31 (n := n) hn cw (by omega) hD hp2 hm2 ht2 (ru := ruO cs fo) (fo := fo) n 0 V hRV v6 v4 v5 (foX_agx (fo_X (n := n) (by omega) hx hg.2.1 hg.2.2.2.1) agx0 (by decide)) (by rw [(ag0 18 (by decide)).1]; exact hx.2.2.2.1.2.2.2.1) (by omega) (by omega)
  have sx : sX σ τ3 := sX_trans (sX_agx agx0 (by decide)) (sX_agx d4 (by decide))
  refine K_ask hg hx hm (if nI w = (0 : Int32) then (wdP S D (ruO cs fo) pp m t).1 else (wdP S D (ruO cs fo) pp m t).2.1) ⟨τ3, ?_, sx⟩ (fun τ hm1 => ?_)
  · unfold F_X11_winds F_X2_blow
    rw [XP σ hR, Option.bind_some, if_neg ne10, if_neg pa1, if_neg pa2, if_neg pb1, if_pos pb2, if_neg pc1, if_neg pc2, if_neg pd1, if_pos pd2]
    show ((F_X10_askedInAll n 25 (psI (psI (psJ σ 216 6 ((σ.1 18 6).toInt64)) 216 4 (0 : Int32)) 216 5 (0 : Int32))).bind _).bind _ = _
    rw [hx6, nI_l hD, hV, X_askedInAll (by omega) hRV h2, Option.bind_some]
    show ((L_X2_blow_31 n 18 n (nI t) (nI m) (nI pp) (nI (aAll S (S 2))) (nI 0) V).bind _).bind _ = _
    rw [d1, Option.bind_some, Option.bind_some, d2, d3]
    by_cases w0 : nI w = (0 : Int32)
    · rw [if_pos w0, if_pos w0]
    · rw [if_neg w0, if_neg w0]
  · have hS := hm1.2.2.2.1
    have hx22 : τ.1 249 22 = nI D := by rw [hm1.2.2.2.2.2.1]; exact eD
    have hS1 : rowN (psJ τ 249 38 (lN D)) 259 S := rowN_psJ hS
    have ag1 : agm scT [18, 38] τ (psJ τ 249 38 (lN D)) := agm_fldJ (by simp)
    obtain ⟨υ1, b1, b2, b3⟩ := M_keeps (n := n) (by omega) hS1
    have ag2 : agm scT [18, 38] τ υ1 := agm_trans ag1 (agm_mono (agm_of b3 (by decide) (Fs := [])) (by simp) (by simp))
    have hf := foM_agm (fo_M (n := n) (by omega) hm1 hg.2.1 hg.2.2.2.1) ag2 (by decide) (by decide) (by decide) (by decide)
    obtain ⟨υ, e1, e2, e3⟩ := M_winds84 (n := n) hn cw (by omega) hD hp2 hm2 ht2 (ru := ruO cs fo) (w := nI w) n 0 υ1 (rowN_agr hS1 b3 (by decide)) b2 (by rw [(b3 249 (by decide)).2]; exact psJ_v) hf (by omega) (by omega)
    refine ⟨υ, ?_, sM_row (T := scT) (Fs := [18, 38]) (agm_trans ag2 (agm_mono e3 (by decide) (by simp))) hS e2 (by decide) (by decide)⟩
    unfold F_X12_winds
    rw [MP τ hS, Option.bind_some, if_neg ne10, show (1 : Int64) = lN 1 from rfl, show (10 : Int64) = lN 10 from rfl, M_in_in (by decide) (by decide) ht31 (by omega) ht2, Option.bind_some, if_neg ne10, show (60 : Int64) = lN 60 from rfl, M_in_in (by decide) (by decide) hm31 (by omega) hm2, Option.bind_some, if_neg ne10, show (0 : Int64) = lN 0 from rfl, show (100 : Int64) = lN 100 from rfl, M_in_in (by decide) (by decide) hp31 (by omega) hp2, Option.bind_some, if_neg ne10, M_in_in (by decide) (by decide) hw31 (by omega) hw2, Option.bind_some, if_neg ne10]
    show (F_X12_askedAll n (psJ τ 249 38 ((τ.1 249 22).toInt64))).bind _ = _
    rw [hx22, nI_l hD, M_askedAll (by omega) hS1 h2, Option.bind_some]
    show (F_X12_keeps n (psJ τ 249 38 (lN D))).bind _ = _
    rw [b1, Option.bind_some]
    rw [show L_X12_winds_84 n n (nI t) (nI m) (nI pp) (nI w) (0 : Int32) (0 : Int32) (nI (aAll S (S 2))) (0 : Int32) υ1 = _ from e1, Option.bind_some]
    by_cases w0 : nI w = (0 : Int32)
    · rw [if_pos w0, if_pos w0]
    · rw [if_neg w0, if_neg w0]
end K14
