/-! cut: both sides alike. -/
section K33
variable {B : Nat → Int32} {sz z h p : Nat} {cs : Nat → List CL} {S S' : Nat → Nat} {H : Nat → Nat → Nat} {fo x : Int32} {im : Nat → Option IMG} {σ τ : PS} {n b : Nat}
theorem M_isCutByF (hn : 3000000 ≤ n) (cw : okW S b) {N u : Nat} (hN : N ≤ 3) (hu : u < S 2) (hS : rowN σ 259 S) : ∃ v τ, F_X12_isCutBy n (nI u) (nI N) σ = some (v, τ) ∧ (∀ l, lx (S (13 + 4 * u)) (S 1 * S 1) S N = some l → v = 1 ∧ (∀ i x, l[i]? = some x → τ.1 264 i = nI x) ∧ rowN τ 259 (bs S l)) ∧ (lx (S (13 + 4 * u)) (S 1 * S 1) S N = none → v = 0 ∧ rowN τ 259 S) ∧ agr [259, 260, 261, 264, 265] σ τ := by
  generalize hW : psI (psI σ 264 0 (-1 : Int32)) 265 0 (0 : Int32) = W
  have ag0 : agr [259, 260, 261, 264, 265] σ W := by rw [← hW]; exact agr_trans (agr_psI (by decide)) (agr_psI (by decide))
  have rW : rowN W 259 S := by rw [← hW]; exact rowN_other (rowN_other hS (by decide)) (by decide)
  have w4 : W.1 264 0 = nI 0 - 1 := by rw [← hW, psI_other (by decide), psI_eq, if_pos rfl]; rfl
  have w5 : W.1 265 0 = 0 := by rw [← hW, psI_eq, if_pos rfl]
  obtain ⟨j, τ, a1, a2, a3, a4, a5⟩ := M_srch (n := n) (b := b) (by omega) (u := u) hN N 0 0 S W (by omega) cw hu (Nat.zero_le _) rW w4 w5
  rw [Nat.sub_zero] at a2 a3
  have jl := Jcb_le N hN
  obtain ⟨K, hK⟩ : ∃ K, n = K + 1 + j := ⟨n - j - 1, by omega⟩
  cases hq : lx (S (13 + 4 * u)) (S 1 * S 1) S N with
  | some l =>
    obtain ⟨b1, b2, b3⟩ := a2 l hq
    have l1 := b1 (K + 1)
    rw [← hK] at l1
    refine ⟨1, τ, ?_, fun l' hl' => ?_, fun hl' => (by cases hl'), agr_trans ag0 a5⟩
    · unfold F_X12_isCutBy
      rw [nar_b.2, hW, show L_X12_isCutBy_16 n n (nI u) (nI N) (0 : Int32) W = _ from l1, Option.bind_some]
      rfl
    · cases hl'
      exact ⟨rfl, fun i x hx => by have := b2 i x hx; rw [Nat.zero_add] at this; exact this, b3⟩
  | none =>
    obtain ⟨b1, b2⟩ := a3 hq
    have l1 := b1 (K + 1)
    rw [← hK] at l1
    refine ⟨0, τ, ?_, fun l' hl' => (by cases hl'), fun _ => ⟨rfl, b2⟩, agr_trans ag0 a5⟩
    unfold F_X12_isCutBy
    rw [nar_b.2, hW, show L_X12_isCutBy_16 n n (nI u) (nI N) (0 : Int32) W = _ from l1, L_X12_isCutBy_16, if_pos (by decide), Option.bind_some]
    rfl
/-- what the reference finds -/
def cspc (S : Nat → Nat) (tg : Nat) (v : Int32) (τ : PS) : Prop := (v = -2 ∧ ∀ j, j ≤ 3 → lx tg (S 1 * S 1) S j = none) ∨ ∃ k l, k ≤ 3 ∧ v = nI k ∧ (∀ j, j < k → lx tg (S 1 * S 1) S j = none) ∧ lx tg (S 1 * S 1) S k = some l ∧ ∀ i x, l[i]? = some x → τ.1 264 i = nI x
theorem lk_bs {l : List Nat} (hl : ∀ x ∈ l, x < 36) : lk S (bs S l) := fun j hj => by
  rcases hj with q | q
  · exact bs_ne (by omega)
  · exact bs_hi hl (by omega)
theorem M_co9 (hn : 3000000 ≤ n) (cw : okW S b) {u : Nat} (hu : u < S 2) : ∀ (d K k : Nat) (σ : PS), k + d = 4 → d + 1 < K → rowN σ 259 S → (∀ i, i < 99 → σ.1 263 i = nI (S (10 + i))) → (∀ j, j < k → lx (S (13 + 4 * u)) (S 1 * S 1) S j = none) → ∃ v τ, L_X12_cutsOf_9 n K (nI u) (-2 : Int32) (nI k) σ = some (v, τ) ∧ cspc S (S (13 + 4 * u)) v τ ∧ rowN τ 259 S ∧ agr [259, 260, 261, 264, 265] σ τ
  | _, 0, k, σ, hk, hK, hS, h3, hl => by omega
  | 0, K + 1, k, σ, hk, hK, hS, h3, hl => by
    rw [L_X12_cutsOf_9, if_pos (show (3 : Int32) < nI k by rw [show k = 4 by omega]; decide)]
    exact ⟨-2, σ, rfl, Or.inl ⟨rfl, fun j hj => hl j (by omega)⟩, hS, agr_refl⟩
  | d + 1, K + 1, k, σ, hk, hK, hS, h3, hl => by
    obtain ⟨v, τ1, a1, a2, a3, a4⟩ := M_isCutByF (n := n) hn cw (N := k) (by omega) hu hS
    have k3 : ∀ i, i < 99 → τ1.1 263 i = nI (S (10 + i)) := fun i hi => by rw [(a4 263 (by decide)).1]; exact h3 i hi
    rw [L_X12_cutsOf_9, if_neg (show ¬ (3 : Int32) < nI k from nI_nlt (show k ≤ 3 by omega) (by decide)), if_neg (show ¬ (0 : Int32) ≤ -2 by decide), a1, Option.bind_some]
    cases hq : lx (S (13 + 4 * u)) (S 1 * S 1) S k with
    | none =>
      obtain ⟨b1, b2⟩ := a3 hq
      obtain ⟨τ2, c1, c2, c3⟩ := M_lb (n := n) (S := S) (by omega) k3 b2 (fun _ _ => rfl)
      obtain ⟨w, τ3, d1, d2, d3, d4⟩ := M_co9 hn cw hu d K (k + 1) τ2 (by omega) (by omega) c2 (fun i hi => by rw [(c3 263 (by decide)).1]; exact k3 i hi) (fun j hj => by
        by_cases e : j = k
        · rw [e]; exact hq
        · exact hl j (by omega))
      refine ⟨w, τ3, ?_, d2, d3, agr_trans a4 (agr_trans (agr_mono c3 (by decide)) d4)⟩
      rw [b1, if_pos rfl]
      show (F_X12_laysBack n τ1).bind _ = _
      rw [c1, Option.bind_some, nI_1, d1]
    | some l =>
      obtain ⟨b1, b2, b3⟩ := a2 l hq
      have ls := lx_some (S 1 * S 1) S k l (Nat.le_refl _) hq
      obtain ⟨τ2, c1, c2, c3⟩ := M_lb (n := n) (S := S) (by omega) k3 b3 (lk_bs (alw_36 cw ls.2.1))
      refine ⟨nI k, τ2, ?_, Or.inr ⟨k, l, by omega, rfl, hl, hq, fun i x hx => by rw [(c3 264 (by decide)).1]; exact b2 i x hx⟩, c2, agr_trans a4 (agr_mono c3 (by decide))⟩
      rw [b1, if_neg ne10]
      show (F_X12_laysBack n τ1).bind _ = _
      rw [c1, Option.bind_some]
      obtain ⟨K', eK⟩ : ∃ K', K = K' + 1 := ⟨K - 1, by omega⟩
      subst eK
      rw [L_X12_cutsOf_9, if_pos (show (0 : Int32) ≤ nI k from nI_pos' (by omega))]
      split <;> rfl
theorem M_cuts (hn : 3000000 ≤ n) (cw : okW S b) {u : Nat} (hu : u < S 2) (hS : rowN σ 259 S) : ∃ v τ, F_X12_cutsOf n (nI u) σ = some (v, τ) ∧ cspc S (S (13 + 4 * u)) v τ ∧ rowN τ 259 S ∧ agr [259, 260, 261, 263, 264, 265] σ τ := by
  obtain ⟨τ1, a1, a2, a3⟩ := M_keeps (n := n) (by omega) hS
  obtain ⟨v, τ2, b1, b2, b3, b4⟩ := M_co9 (n := n) hn cw hu 4 n 0 τ1 rfl (by omega) (rowN_agr hS a3 (by decide)) a2 (fun j hj => by omega)
  refine ⟨v, τ2, ?_, b2, b3, agr_trans (agr_mono a3 (by decide)) (agr_mono b4 (by decide))⟩
  unfold F_X12_cutsOf
  rw [a1, Option.bind_some, show L_X12_cutsOf_9 n n (nI u) (-2 : Int32) (0 : Int32) τ1 = _ from b1, Option.bind_some]
theorem Exk_lx {tg k : Nat} {l : List Nat} (hq : lx tg (S 1 * S 1) S k = some l) : Exk S tg k := by
  have ls := lx_some (S 1 * S 1) S k l (Nat.le_refl _) hq
  exact ⟨l, by omega, ls.2.1, ls.2.2⟩
theorem K_cut (hn : 3000000 ≤ n) (a b : Int32) (hi : Inv σ) : Kok (F_X11_cut n a b) (F_X12_cut n a b) σ := by
  obtain ⟨B, sz, z, cs, S, h, p, H, fo, x, im, hg, hx, hm⟩ := hi
  have o2 := okS_2 hg.2.2.1
  by_cases q1 : isI (S 2) a = 0
  · exact K_noC hg hx hm (-1) (fun τ hr => by unfold F_X11_cut; rw [X_hasTent hr, Option.bind_some, if_pos q1]) (fun τ hr => by unfold F_X12_cut; rw [M_isTent hr, Option.bind_some, if_pos q1])
  obtain ⟨t, ht, e⟩ := isI_of (by omega) q1
  subst e
  have hc : okC S := by
    rcases hg.2.2.1 with w | w
    · rw [w 2] at ht; omega
    · exact w
  obtain ⟨c0, cw, cb, c10, c178, cnt, chi⟩ := id hc
  have h36 := okW_36 cw
  rcases rng b 0 3 (by decide) with ⟨m, _, hm3, hm31, e⟩ | hout | q
  rotate_left
  · refine K_noC hg hx hm (-1) (fun τ hr => ?_) (fun τ hr => ?_)
    · unfold F_X11_cut
      rw [X_hasTent hr, Option.bind_some, if_neg q1]
      by_cases w : b < 0
      · rw [if_pos w]
      · rw [if_neg w, if_neg (show ¬ b ≤ (3 : Int32) from Int32.not_le.mpr (lt_of_out hout w))]
    · unfold F_X12_cut
      rw [M_isTent hr, Option.bind_some, if_neg q1, show (0 : Int64) = lN 0 from rfl, show (3 : Int64) = lN 3 from rfl, M_in_out (by decide) (by decide) hout, Option.bind_some, if_pos rfl]
  · exact absurd q (by decide)
  subst e
  have pc1 : ¬ nI m < (0 : Int32) := nI_n0 (by omega)
  have pc2 : nI m ≤ (3 : Int32) := nI_le (show m ≤ 3 from hm3) (by decide)
  have m0 : nI m = (0 : Int32) ↔ m = 0 := ⟨fun w => nI_inj (by omega) (by decide) w, fun w => by rw [w]; rfl⟩
  have hR := hx.2.2.2.1.1
  obtain ⟨τ1, a1, a2, a3, a4⟩ := X_findCut (n := n) (by omega) cw ht hR
  have sx : sX σ τ1 := sX_agr a4 (by decide)
  have xs : F_X11_cut n (nI t) (nI m) σ = (if nI m = 0 then some (τ1.1 240 0, τ1) else (if τ1.1 240 0 < nI m then some ((-2 : Int32), τ1) else (if 0 ≤ (nI m - (1 : Int32)) ∧ (nI m - (1 : Int32)).toNatClampNeg < 3 then some (τ1.1 241 ((nI m - (1 : Int32)).toNatClampNeg), τ1) else none))) := by
    unfold F_X11_cut
    rw [X_hasTent hR, Option.bind_some, if_neg q1, if_neg pc1, if_pos pc2]
    show (F_X7_findCut n 25 (nI t) σ).bind _ = _
    rw [a1, Option.bind_some]
  have ms : ∀ τ, IM τ B sz z cs S h H fo x im → ∃ v υ, F_X12_cut n (nI t) (nI m) τ = (if nI m = 0 then some (v, υ) else (if 0 ≤ v then (if v < nI m then some ((-2 : Int32), υ) else (if 0 ≤ (nI m - (1 : Int32)) ∧ (nI m - (1 : Int32)).toNatClampNeg < 4 then some (υ.1 264 ((nI m - (1 : Int32)).toNatClampNeg), υ) else none)) else some (v, υ))) ∧ cspc S (S (13 + 4 * t)) v υ ∧ sM τ υ := by
    intro τ hm1
    have hS := hm1.2.2.2.1
    obtain ⟨v, υ, b1, b2, b3, b4⟩ := M_cuts (n := n) hn cw ht hS
    refine ⟨v, υ, ?_, b2, sM_row (agm_of b4 (by decide) (Fs := [])) hS b3 (by decide) (by decide)⟩
    unfold F_X12_cut
    rw [M_isTent hS, Option.bind_some, if_neg q1, show (0 : Int64) = lN 0 from rfl, show (3 : Int64) = lN 3 from rfl, M_in_in (by decide) (by decide) hm31 (by omega) hm3, Option.bind_some, if_neg ne10]
    show (F_X12_cutsOf n (nI t) τ).bind _ = _
    rw [b1, Option.bind_some]
  rcases a2 with ⟨ev, hno⟩ | ⟨k, hk3, ev, hE, hmin⟩
  · refine K_ask hg hx hm (-2) ⟨τ1, ?_, sx⟩ (fun τ hm1 => ?_)
    · rw [xs, ev]
      by_cases w : nI m = (0 : Int32)
      · rw [if_pos w]
      · rw [if_neg w, if_pos (show (-2 : Int32) < nI m from Int32.lt_of_lt_of_le (show (-2 : Int32) < 0 by decide) (nI_pos' (by omega)))]
    · obtain ⟨v, υ, b1, b2, b3⟩ := ms τ hm1
      refine ⟨υ, ?_, b3⟩
      rcases b2 with ⟨ev2, _⟩ | ⟨k, l, l1, _, _, l4, _⟩
      · rw [b1, ev2, if_neg (show ¬ (0 : Int32) ≤ -2 by decide)]
        split <;> rfl
      · exact absurd (Exk_lx l4) (hno k l1)
  · have lgd : lx (S (13 + 4 * t)) (S 1 * S 1) S k = some (gd (S (13 + 4 * t)) (S 1 * S 1) S k) := by
      refine lx_gd (S 1 * S 1) S k (Nat.le_refl _) h36 (fun c hc => (cw.2.2.2.2.2.2.1 c hc).1) hE (fun l h1 h2 h3 => ⟨?_, fun y _ => by omega⟩)
      apply Classical.byContradiction
      intro w
      exact hmin l.length (by omega) ⟨l, Nat.le_refl _, h2, h3⟩
    have len := (lx_some (S 1 * S 1) S k _ (Nat.le_refl _) lgd).1
    have r1 := a3 k hk3 ev
    have p1 : m ≠ 0 → nI m - (1 : Int32) = nI (m - 1) := fun w => by
      rw [show (1 : Int32) = nI 1 from rfl, nI_sub (by omega)]
    have p2 : nI k < nI m ↔ k < m := ⟨fun w => by
      apply Classical.byContradiction
      intro y
      exact nI_nlt (show m ≤ k by omega) (by omega) w, fun w => nI_lt w hm31⟩
    refine K_ask hg hx hm (if m = 0 then nI k else if k < m then -2 else τ1.1 241 (m - 1)) ⟨τ1, ?_, sx⟩ (fun τ hm1 => ?_)
    · rw [xs, ev]
      by_cases w : m = 0
      · rw [if_pos (m0.mpr w), if_pos w]
      · rw [if_neg (fun y => w (m0.mp y)), if_neg w]
        by_cases w2 : k < m
        · rw [if_pos (p2.mpr w2), if_pos w2]
        · rw [if_neg (fun y => w2 (p2.mp y)), if_neg w2, p1 w, nI_clamp (by omega), if_pos ⟨nI_pos' (by omega), by omega⟩]
    · obtain ⟨v, υ, b1, b2, b3⟩ := ms τ hm1
      refine ⟨υ, ?_, b3⟩
      rcases b2 with ⟨_, hno⟩ | ⟨k', l, l1, l2, l3, l4, l5⟩
      · rw [hno k hk3] at lgd; cases lgd
      · have ek : k' = k := by
          apply Classical.byContradiction
          intro w
          by_cases y : k' < k
          · exact hmin k' y (Exk_lx l4)
          · have := l3 k (by omega)
            rw [this] at lgd; cases lgd
        subst ek
        rw [lgd] at l4
        cases l4
        rw [b1, l2]
        by_cases w : m = 0
        · rw [if_pos (m0.mpr w), if_pos w]
        · rw [if_neg (fun y => w (m0.mp y)), if_neg w, if_pos (show (0 : Int32) ≤ nI k' from nI_pos' (by omega))]
          by_cases w2 : k' < m
          · rw [if_pos (p2.mpr w2), if_pos w2]
          · rw [if_neg (fun y => w2 (p2.mp y)), if_neg w2, p1 w, nI_clamp (by omega), if_pos ⟨nI_pos' (by omega), by omega⟩]
            have hx1 := List.getElem?_eq_getElem (l := gd (S (13 + 4 * t)) (S 1 * S 1) S k') (i := m - 1) (by omega)
            rw [l5 _ _ hx1, r1 _ _ hx1]
end K33
