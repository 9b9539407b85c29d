/-! the game: the reference's half, to the end. -/
section K22
variable {B : Nat → Int32} {sz z h p : Nat} {cs : Nat → List CL} {S S' : Nat → Nat} {H : Nat → Nat → Nat} {fo x : Int32} {im : Nat → Option IMG} {σ τ : PS} {n : Nat}
/-- what follows when a cell is gone to -/
def enM (n N k : Nat) (K : Nat) (σ : PS) : Option PS := if k % 2 = 0 then (if k + 1 = N then (F_X12_apart n (σ.1 268 k) (σ.1 267 k) σ).bind (fun a => (F_X12_isWorth n (nI k) a.1 a.2).bind (fun u => L_X12_plays_19 n K (nI N) (nI k) u)) else (F_X12_beginsTurn n (nI (k + 1)) (σ.1 268 k) (σ.1 267 k) σ).bind (fun u => L_X12_plays_19 n K (nI N) (nI (k + 1)) u)) else (if k + 1 = N then (F_X12_apart n (σ.1 266 k) (σ.1 268 k) σ).bind (fun a => (F_X12_isWorth n (nI k) a.1 a.2).bind (fun u => L_X12_plays_19 n K (nI N) (nI k) u)) else (F_X12_beginsTurn n (nI (k + 1)) (σ.1 266 k) (σ.1 268 k) σ).bind (fun u => L_X12_plays_19 n K (nI N) (nI (k + 1)) u))
theorem gfr_mono {k : Nat} (h : gfr (k + 1) σ τ) : gfr k σ τ := ⟨h.1, fun j hj => h.2.1 j (by omega), fun _ => h.2.2 (by omega)⟩
theorem M_iter {b N k q c g : Nat} (hn : 100 ≤ n) (cw : okW S b) (hN : N ≤ 4) (hk : k < N) (hq : q < S 1 * S 1) (hc : c < S 1 * S 1) (hS : rowN σ 259 S) (h6 : σ.1 266 k = nI q) (h7 : σ.1 267 k = nI c) (h8 : σ.1 268 k = nI g - 1) (hg : g ≤ S 1 * S 1) : ∃ g' τ, g ≤ g' ∧ g' ≤ S 1 * S 1 ∧ (∀ v, g ≤ v → v < g' → ¬ canC S (decide (k % 2 = 0)) (if k % 2 = 0 then q else c) v) ∧ (g' < S 1 * S 1 → canC S (decide (k % 2 = 0)) (if k % 2 = 0 then q else c) g') ∧ τ.1 268 k = nI g' ∧ agr [268] σ τ ∧ gfr k σ τ ∧ ∀ K, L_X12_plays_19 n (K + 1) (nI N) (nI k) σ = if g' < S 1 * S 1 then enM n N k K τ else exM n N k K τ := by
  have h36 := okW_36 cw
  have ag0 : agr [268] σ (psI σ 268 k (nI g)) := agr_psI (by simp)
  obtain ⟨g', τ, t1, t2, t3, t4, t5, t6, t7, t8⟩ := M_scan (n := n) hn cw (k := k) (by omega) hq hc (x2 := nI N) (S 1 * S 1 - g) n g (psI σ 268 k (nI g)) (rowN_agr hS ag0 (by decide)) (by rw [psI_other (by decide)]; exact h6) (by rw [psI_other (by decide)]; exact h7) (by rw [psI_eq, if_pos rfl]) (by omega) (by omega)
  have hSt : rowN τ 259 S := rowN_agr (rowN_agr hS ag0 (by decide)) t7 (by decide)
  refine ⟨g', τ, t1, t2, t3, t4, t6, agr_trans ag0 t7, gfr_trans (gfr_psI (by omega)) t8, fun K => ?_⟩
  rw [L_X12_plays_19, if_neg (show ¬ nI k < (0 : Int32) from nI_n0 (by omega)), nI_clamp (show k < 2 ^ 31 by omega), if_pos (show 0 ≤ nI k ∧ k < 5 from ⟨nI_pos' (by omega), by omega⟩), h8, show nI g - 1 + (1 : Int32) = nI g from Int32.sub_add_cancel _ _, t5, Option.bind_some]
  dsimp only
  rw [nI_clamp (show k < 2 ^ 31 by omega), if_pos (show 0 ≤ nI k ∧ k < 5 from ⟨nI_pos' (by omega), by omega⟩), M_cells hSt, Option.bind_some]
  dsimp only
  rw [t6, par (show k < 5 by omega), show nI k + (1 : Int32) = nI (k + 1) from nI_1 _]
  have e1 : (nI (k + 1) = nI N) ↔ k + 1 = N := ⟨fun w => nI_inj (by omega) (by omega) w, fun w => by rw [w]⟩
  by_cases y : g' < S 1 * S 1
  · rw [if_pos (nI_lt y (by omega)), if_pos y]
    unfold enM
    rw [t6]
    by_cases e : k % 2 = 0
    · rw [if_pos e, e, if_pos (show nI 0 = (0 : Int32) from rfl), if_neg (show ¬ nI 0 = (1 : Int32) by decide)]
      by_cases y2 : k + 1 = N
      · rw [if_pos y2, if_pos (e1.mpr y2)]
      · rw [if_neg y2, if_neg (fun w => y2 (e1.mp w))]
    · have e2 : k % 2 = 1 := by omega
      rw [if_neg e, e2, if_neg (show ¬ nI 1 = (0 : Int32) by decide), if_pos (show nI 1 = (1 : Int32) from rfl)]
      by_cases y2 : k + 1 = N
      · rw [if_pos y2, if_pos (e1.mpr y2)]
      · rw [if_neg y2, if_neg (fun w => y2 (e1.mp w))]
  · rw [if_neg (show ¬ nI g' < nI (S 1 * S 1) from nI_nlt (by omega) (by omega)), if_neg y]
    unfold exM
    by_cases k0 : k = 0
    · subst k0
      rw [if_pos (show nI 0 + (-1 : Int32) < 0 by decide), if_pos rfl]
      rfl
    · rw [m1_p (by omega), if_neg (show ¬ nI (k - 1) < (0 : Int32) from nI_n0 (by omega)), if_neg k0, show nI (k - 1) + (1 : Int32) = nI k from (nI_1 _).trans (by rw [Nat.sub_add_cancel (by omega)]), nI_clamp (show k < 2 ^ 31 by omega), if_pos (show 0 ≤ nI k ∧ k < 5 from ⟨nI_pos' (by omega), by omega⟩)]
theorem M_loop {b N k q c t J : Nat} (hn : 100 ≤ n) (cw : okW S b) (hN : N ≤ 4) (hk : k < N) (hq : q < S 1 * S 1) (hc : c < S 1 * S 1) (sub : ∀ σ g acc, rowN σ 259 S → σ.1 266 k = nI q → σ.1 267 k = nI c → σ.1 268 k = nI g → g < S 1 * S 1 → lvM σ k acc → nn1 acc.1 → ∃ j τ, j ≤ J ∧ rowN τ 259 S ∧ τ.1 266 k = nI q ∧ τ.1 267 k = nI c ∧ τ.1 268 k = nI g ∧ lvM τ k (gst (decide (k % 2 = 0)) acc (vL S t k q c g) (nI g)) ∧ gfr k σ τ ∧ ∀ K, enM n N k (K + j) σ = L_X12_plays_19 n K (nI N) (nI k) τ) : ∀ (M m g : Nat) (σ : PS), m ≤ M → g + m = S 1 * S 1 → rowN σ 259 S → σ.1 266 k = nI q → σ.1 267 k = nI c → σ.1 268 k = nI g - 1 → lvM σ k (fcK S (decide (k % 2 = 0)) (vL S t k q c) (if k % 2 = 0 then q else c) g) → ∃ j τ, j ≤ (m + 1) * (1 + J) ∧ rowN τ 259 S ∧ gfr k σ τ ∧ lvM τ k (gv S (t + 1) (decide (k % 2 = 0)) q c) ∧ ∀ K, L_X12_plays_19 n (K + j) (nI N) (nI k) σ = exM n N k K τ := by
  have hf : (if k % 2 = 0 then q else c) < S 1 * S 1 := by split <;> assumption
  have hV : ∀ y, y < S 1 * S 1 → 0 ≤ vL S t k q c y := fun y hy => by
    unfold vL
    split
    · exact gv_pos cw t false y c hy hc
    · exact gv_pos cw t true q y hq hy
  have hgv : gv S (t + 1) (decide (k % 2 = 0)) q c = fcK S (decide (k % 2 = 0)) (vL S t k q c) (if k % 2 = 0 then q else c) (S 1 * S 1) := by rw [gv_vL, fc_g5 cw hf]
  rw [hgv]
  intro M
  induction M with
  | zero =>
    intro m g σ hm hg hS h6 h7 h8 hl
    obtain ⟨g', τ, t1, t2, t3, t4, t5, t6, t7, t8⟩ := M_iter (n := n) hn cw hN hk hq hc hS h6 h7 h8 (by omega)
    have eg : g' = g := by omega
    refine ⟨1, τ, by rw [show m = 0 by omega]; omega, rowN_agr hS t6 (by decide), t7, ?_, fun K => by rw [t8 K, if_neg (by omega)]⟩
    rw [show S 1 * S 1 = g by omega]
    exact ⟨by rw [(t6 269 (by decide)).1]; exact hl.1, fun e w => by rw [(t6 249 (by decide)).1]; exact hl.2 e w⟩
  | succ M ih =>
    intro m g σ hm hg hS h6 h7 h8 hl
    obtain ⟨g', τ, t1, t2, t3, t4, t5, t6, t7, t8⟩ := M_iter (n := n) hn cw hN hk hq hc hS h6 h7 h8 (by omega)
    have hSt := rowN_agr hS t6 (by decide)
    have sk := fcK_skip (V := vL S t k q c) g' t1 t3
    have hlt : lvM τ k (fcK S (decide (k % 2 = 0)) (vL S t k q c) (if k % 2 = 0 then q else c) g') := by
      rw [sk]
      exact ⟨by rw [(t6 269 (by decide)).1]; exact hl.1, fun e w => by rw [(t6 249 (by decide)).1]; exact hl.2 e w⟩
    by_cases y : g' < S 1 * S 1
    · obtain ⟨j1, τ1, u1, u2, u3, u4, u5, u6, u7, u8⟩ := sub τ g' _ hSt (by rw [(t6 266 (by decide)).1]; exact h6) (by rw [(t6 267 (by decide)).1]; exact h7) t5 y hlt (fcK_nn hV g' t2)
      have ef : fcK S (decide (k % 2 = 0)) (vL S t k q c) (if k % 2 = 0 then q else c) (g' + 1) = gst (decide (k % 2 = 0)) (fcK S (decide (k % 2 = 0)) (vL S t k q c) (if k % 2 = 0 then q else c) g') (vL S t k q c g') (nI g') := if_pos (t4 y)
      obtain ⟨j2, τ2, v1, v2, v3, v4, v5⟩ := ih (S 1 * S 1 - g' - 1) (g' + 1) τ1 (by omega) (by omega) u2 u3 u4 (by rw [u5]; exact (nI_pred _).symm) (by rw [ef]; exact u6)
      refine ⟨j2 + j1 + 1, τ2, ?_, v2, gfr_trans t7 (gfr_trans u7 v3), v4, fun K => ?_⟩
      · have a1 : (S 1 * S 1 - g' - 1 + 1 + 1) * (1 + J) ≤ (m + 1) * (1 + J) := Nat.mul_le_mul_right _ (by omega)
        have a2 : (S 1 * S 1 - g' - 1 + 1 + 1) * (1 + J) = (S 1 * S 1 - g' - 1 + 1) * (1 + J) + (1 + J) := Nat.succ_mul _ _
        omega
      · rw [show K + (j2 + j1 + 1) = (K + j2 + j1) + 1 by omega, t8, if_pos y, u8, v5]
    · refine ⟨1, τ, ?_, hSt, t7, ?_, fun K => by rw [t8 K, if_neg y]⟩
      · have : 1 * (1 + J) ≤ (m + 1) * (1 + J) := Nat.mul_le_mul_right _ (by omega)
        omega
      · rw [show S 1 * S 1 = g' by omega]
        exact hlt
def Jsb : Nat → Nat
  | 0 => 0
  | t + 1 => 37 * (1 + Jsb t)
theorem M_lvl {b N : Nat} (hn : 100 ≤ n) (cw : okW S b) (hN : N ≤ 4) : ∀ (t k q c : Nat) (σ : PS), k + (t + 1) = N → q < S 1 * S 1 → c < S 1 * S 1 → rowN σ 259 S → σ.1 266 k = nI q → σ.1 267 k = nI c → σ.1 268 k = -1 → lvM σ k (-1, 0) → ∃ j τ, j ≤ Jsb (t + 1) ∧ rowN τ 259 S ∧ gfr k σ τ ∧ lvM τ k (gv S (t + 1) (decide (k % 2 = 0)) q c) ∧ ∀ K, L_X12_plays_19 n (K + j) (nI N) (nI k) σ = exM n N k K τ
  | 0, k, q, c, σ, hk, hq, hc, hS, h6, h7, h8, hl => by
    have h36 := okW_36 cw
    obtain ⟨j, τ, a1, a2, a3, a4, a5⟩ := M_loop (n := n) (t := 0) (J := 0) hn cw hN (show k < N by omega) hq hc (fun σ g acc hS h6 h7 h8 hg hl ha => by
      have e : k + 1 = N := by omega
      unfold enM
      by_cases y : k % 2 = 0
      · have ev : vL S 0 k q c g = nI (gpN (S 1) g c) := by unfold vL; rw [if_pos y]; rfl
        have g12 := (gp_is (S 1) (by have := cw.2.1; omega) cw.1 g hg c hc).2.2
        obtain ⟨τ, w1, w2, w3, w4⟩ := M_worth (n := n) (k := k) (g := g) (by omega) (v := nI (gpN (S 1) g c)) hl h8 ha (nI_pos' (by omega))
        refine ⟨0, τ, Nat.le_refl _, rowN_agm hS w3 (by decide) (by decide), by rw [(w3.1 266 (by decide) (by decide)).1]; exact h6, by rw [(w3.1 267 (by decide) (by decide)).1]; exact h7, by rw [(w3.1 268 (by decide) (by decide)).1]; exact h8, by rw [ev]; exact w2, w4, fun K => ?_⟩
        rw [if_pos y, if_pos e, h8, h7, M_apart hS cw hg hc, Option.bind_some]
        show (F_X12_isWorth n (nI k) (nI (gpN (S 1) g c)) σ).bind _ = _
        rw [w1]; rfl
      · have ev : vL S 0 k q c g = nI (gpN (S 1) q g) := by unfold vL; rw [if_neg y]; rfl
        have g12 := (gp_is (S 1) (by have := cw.2.1; omega) cw.1 q hq g hg).2.2
        obtain ⟨τ, w1, w2, w3, w4⟩ := M_worth (n := n) (k := k) (g := g) (by omega) (v := nI (gpN (S 1) q g)) hl h8 ha (nI_pos' (by omega))
        refine ⟨0, τ, Nat.le_refl _, rowN_agm hS w3 (by decide) (by decide), by rw [(w3.1 266 (by decide) (by decide)).1]; exact h6, by rw [(w3.1 267 (by decide) (by decide)).1]; exact h7, by rw [(w3.1 268 (by decide) (by decide)).1]; exact h8, by rw [ev]; exact w2, w4, fun K => ?_⟩
        rw [if_neg y, if_pos e, h8, h6, M_apart hS cw hq hg, Option.bind_some]
        show (F_X12_isWorth n (nI k) (nI (gpN (S 1) q g)) σ).bind _ = _
        rw [w1]; rfl) (S 1 * S 1) (S 1 * S 1) 0 σ (Nat.le_refl _) (by omega) hS h6 h7 h8 hl
    refine ⟨j, τ, ?_, a2, a3, a4, a5⟩
    have : (S 1 * S 1 + 1) * (1 + 0) ≤ 37 * (1 + 0) := Nat.mul_le_mul_right _ (by omega)
    show j ≤ 37 * (1 + 0)
    omega
  | t + 1, k, q, c, σ, hk, hq, hc, hS, h6, h7, h8, hl => by
    have h36 := okW_36 cw
    have ih := M_lvl hn cw hN t (k + 1)
    obtain ⟨j, τ, a1, a2, a3, a4, a5⟩ := M_loop (n := n) (t := t + 1) (J := Jsb (t + 1)) hn cw hN (show k < N by omega) hq hc (fun σ g acc hS h6 h7 h8 hg hl ha => by
      have e : ¬ k + 1 = N := by omega
      -- the next turn begins at (q', c')
      have go : ∀ q' c', q' < S 1 * S 1 → c' < S 1 * S 1 → vL S (t + 1) k q c g = (gv S (t + 1) (decide ((k + 1) % 2 = 0)) q' c').1 → (∀ K, enM n N k K σ = (F_X12_beginsTurn n (nI (k + 1)) (nI q') (nI c') σ).bind (fun u => L_X12_plays_19 n K (nI N) (nI (k + 1)) u)) → ∃ j τ, j ≤ Jsb (t + 1) ∧ rowN τ 259 S ∧ τ.1 266 k = nI q ∧ τ.1 267 k = nI c ∧ τ.1 268 k = nI g ∧ lvM τ k (gst (decide (k % 2 = 0)) acc (vL S (t + 1) k q c g) (nI g)) ∧ gfr k σ τ ∧ ∀ K, enM n N k (K + j) σ = L_X12_plays_19 n K (nI N) (nI k) τ := by
        intro q' c' hq' hc' ev hen
        generalize hW : psI (psI (psI (psI σ 266 (k + 1) (nI q')) 267 (k + 1) (nI c')) 268 (k + 1) (-1 : Int32)) 269 (k + 1) (-1 : Int32) = W
        have fW : gfr (k + 1) σ W := by rw [← hW]; exact gfr_trans (gfr_psI (by omega)) (gfr_trans (gfr_psI (by omega)) (gfr_trans (gfr_psI (by omega)) (gfr_psI (by omega))))
        have bW : ∀ K, enM n N k K σ = L_X12_plays_19 n K (nI N) (nI (k + 1)) W := by
          intro K
          rw [hen K]
          unfold F_X12_beginsTurn
          rw [nI_clamp (show k + 1 < 2 ^ 31 by omega), if_pos (show 0 ≤ nI (k + 1) ∧ k + 1 < 5 from ⟨nI_pos' (by omega), by omega⟩), hW, Option.bind_some]
        obtain ⟨j, τ1, b1, b2, b3, b4, b5⟩ := ih q' c' W (by omega) hq' hc' (rowN_agm hS fW.1 (by decide) (by decide)) (by rw [← hW, psI_other (by decide), psI_other (by decide), psI_other (by decide), psI_eq, if_pos rfl]) (by rw [← hW, psI_other (by decide), psI_other (by decide), psI_eq, if_pos rfl]) (by rw [← hW, psI_other (by decide), psI_eq, if_pos rfl]) ⟨by rw [← hW, psI_eq, if_pos rfl], fun w => by omega⟩
        have f1 := gfr_trans fW b3
        have r1 := f1.2.1 k (by omega)
        have hl1 : lvM τ1 k acc := ⟨by rw [r1.2.2.2]; exact hl.1, fun e w => by rw [f1.2.2 (by omega)]; exact hl.2 e w⟩
        have pv := gv_pos cw (t + 1) (decide ((k + 1) % 2 = 0)) q' c' hq' hc'
        obtain ⟨τ2, w1, w2, w3, w4⟩ := M_worth (n := n) (k := k) (g := g) (by omega) (v := (gv S (t + 1) (decide ((k + 1) % 2 = 0)) q' c').1) hl1 (by rw [r1.2.2.1]; exact h8) ha pv
        refine ⟨j, τ2, b1, rowN_agm b2 w3 (by decide) (by decide), by rw [(w3.1 266 (by decide) (by decide)).1, r1.1]; exact h6, by rw [(w3.1 267 (by decide) (by decide)).1, r1.2.1]; exact h7, by rw [(w3.1 268 (by decide) (by decide)).1, r1.2.2.1]; exact h8, by rw [ev]; exact w2, gfr_trans (gfr_mono f1) w4, fun K => ?_⟩
        rw [bW, b5]
        unfold exM
        rw [if_neg (by omega), b4.1]
        show (F_X12_isWorth n (nI k) _ τ1).bind _ = _
        rw [w1]; rfl
      by_cases y : k % 2 = 0
      · refine go g c hg hc ?_ (fun K => by unfold enM; rw [if_pos y, if_neg e, h8, h7])
        unfold vL
        rw [if_pos y, show decide ((k + 1) % 2 = 0) = false from decide_eq_false (by omega)]
      · refine go q g hq hg ?_ (fun K => by unfold enM; rw [if_neg y, if_neg e, h8, h6])
        unfold vL
        rw [if_neg y, show decide ((k + 1) % 2 = 0) = true from decide_eq_true (by omega)]) (S 1 * S 1) (S 1 * S 1) 0 σ (Nat.le_refl _) (by omega) hS h6 h7 h8 hl
    refine ⟨j, τ, ?_, a2, a3, a4, a5⟩
    have : (S 1 * S 1 + 1) * (1 + Jsb (t + 1)) ≤ 37 * (1 + Jsb (t + 1)) := Nat.mul_le_mul_right _ (by omega)
    show j ≤ 37 * (1 + Jsb (t + 1))
    omega
end K22
