/-! game: both sides alike. -/
section K23
variable {B : Nat → Int32} {sz z h p : Nat} {cs : Nat → List CL} {S S' : Nat → Nat} {H : Nat → Nat → Nat} {fo x : Int32} {im : Nat → Option IMG} {σ τ : PS} {n : Nat}
theorem Jsb_le : ∀ N, N ≤ 4 → Jsb N ≤ 2000000 := by decide
theorem pos_ne {a : Int32} (h : 0 ≤ a) : a ≠ -1 := fun e => by rw [e] at h; exact absurd h (by decide)
theorem X_play (hn : 100 ≤ n) {b u t : Nat} (cw : okW S b) (hu : u < S 2) (ht : t < 4) (hR : RX σ 25 S) : ∃ τ, F_X7_play n 25 (nI u) (nI (t + 1)) σ = some τ ∧ τ.1 240 2 = (gv S (t + 1) true (S 11) (S (13 + 4 * u))).1 ∧ τ.1 240 3 = (gv S (t + 1) true (S 11) (S (13 + 4 * u))).2 ∧ agr [240] σ τ := by
  have hc := (cw.2.2.2.2.1 u hu).1
  have ag0 : agr [240] σ (psI σ 240 2 (-1 : Int32)) := agr_psI (by simp)
  obtain ⟨nn, hnn⟩ : ∃ nn, n = nn + 1 + 1 + 1 + 1 + 1 + 1 := ⟨n - 6, by omega⟩
  obtain ⟨τ1, a1, a2, a3, a4, a5⟩ := X_play1 (n := n) (K := nn + 1 + 1 + 1 + 1 + 1) (k := 0) (d := 2) hn cw hu ht (by decide) (by decide) rfl (-1, 0) (RX_agr hR ag0 (by decide)) (by rw [psI_eq, if_pos rfl]) (fun w => absurd rfl w)
  obtain ⟨τ2, b1, b2, b3, b4, b5⟩ := X_play1 (n := n) (K := nn + 1 + 1 + 1 + 1) (k := 1) (d := 0) hn cw hu ht (by decide) (by decide) rfl _ a2 a3 a4
  obtain ⟨τ3, c1, c2, c3, c4, c5⟩ := X_play1 (n := n) (K := nn + 1 + 1 + 1) (k := 2) (d := 4) hn cw hu ht (by decide) (by decide) rfl _ b2 b3 b4
  obtain ⟨τ4, d1, d2, d3, d4, d5⟩ := X_play1 (n := n) (K := nn + 1 + 1) (k := 3) (d := 1) hn cw hu ht (by decide) (by decide) rfl _ c2 c3 c4
  obtain ⟨τ5, e1, e2, e3, e4, e5⟩ := X_play1 (n := n) (K := nn + 1) (k := 4) (d := 3) hn cw hu ht (by decide) (by decide) rfl _ d2 d3 d4
  have pv := gv_pos cw (t + 1) true (S 11) (S (13 + 4 * u)) cw.2.2.2.1 hc
  refine ⟨τ5, ?_, e3, e4 (pos_ne pv), agr_trans ag0 (agr_trans a5 (agr_trans b5 (agr_trans c5 (agr_trans d5 e5))))⟩
  unfold F_X7_play
  have l5 : L_X7_play_8 n 25 (nn + 1 + 1 + 1 + 1 + 1 + 1) (nI u) (nI (t + 1)) (nI 0) (psI σ 240 2 (-1 : Int32)) = some τ5 := by
    rw [a1, b1, c1, d1, e1, L_X7_play_8, if_pos (by decide)]
  rw [← hnn] at l5
  rw [show L_X7_play_8 n 25 n (nI u) (nI (t + 1)) (0 : Int32) (psI σ 240 2 (-1 : Int32)) = _ from l5, Option.bind_some]
theorem M_plays (hn : 3000000 ≤ n) {b u t : Nat} (cw : okW S b) (hu : u < S 2) (ht : t < 4) (hS : rowN σ 259 S) : ∃ τ, F_X12_plays n (nI u) (nI (t + 1)) σ = some τ ∧ τ.1 269 0 = (gv S (t + 1) true (S 11) (S (13 + 4 * u))).1 ∧ τ.1 249 34 = (gv S (t + 1) true (S 11) (S (13 + 4 * u))).2 ∧ agm [266, 267, 268, 269] [34] σ τ := by
  have hc := (cw.2.2.2.2.1 u hu).1
  have h6 := cw.2.2.1
  generalize hW : psI (psI (psI (psI σ 266 0 (nI (S 11))) 267 0 (nI (S (13 + 4 * u)))) 268 0 (-1 : Int32)) 269 0 (-1 : Int32) = W
  have fW : gfr 0 σ W := by rw [← hW]; exact gfr_trans (gfr_psI (by omega)) (gfr_trans (gfr_psI (by omega)) (gfr_trans (gfr_psI (by omega)) (gfr_psI (by omega))))
  obtain ⟨j, τ, a1, a2, a3, a4, a5⟩ := M_lvl (n := n) (by omega) cw (N := t + 1) (by omega) t 0 (S 11) (S (13 + 4 * u)) W (by omega) cw.2.2.2.1 hc (rowN_agm hS fW.1 (by decide) (by decide)) (by rw [← hW, psI_other (by decide), psI_other (by decide), psI_other (by decide), psI_eq, if_pos rfl]) (by rw [← hW, psI_other (by decide), psI_other (by decide), psI_eq, if_pos rfl]) (by rw [← hW, psI_other (by decide), psI_eq, if_pos rfl]) ⟨by rw [← hW, psI_eq, if_pos rfl], fun _ w => absurd rfl w⟩
  have jl := Jsb_le (t + 1) (by omega)
  have pv := gv_pos cw (t + 1) true (S 11) (S (13 + 4 * u)) cw.2.2.2.1 hc
  have a4' : lvM τ 0 (gv S (t + 1) true (S 11) (S (13 + 4 * u))) := a4
  refine ⟨τ, ?_, a4'.1, a4'.2 rfl (pos_ne pv), agm_trans fW.1 a3.1⟩
  unfold F_X12_plays F_X12_beginsTurn
  rw [M_cellOf hS (by omega), Option.bind_some]
  show ((if 0 ≤ (0 : Int32) ∧ (0 : Int32).toNatClampNeg < 5 then some (psI (psI (psI (psI σ 266 0 (σ.1 259 11)) 267 0 (nI (S (13 + 4 * u)))) 268 0 (-1 : Int32)) 269 0 (-1 : Int32)) else none).bind _) = _
  rw [if_pos (by decide), rowN_get hS, hW, Option.bind_some]
  obtain ⟨K, hK⟩ : ∃ K, n = K + 1 + j := ⟨n - j - 1, by omega⟩
  have l := a5 (K + 1)
  rw [← hK] at l
  rw [show L_X12_plays_19 n n (nI (t + 1)) (0 : Int32) W = _ from l]
  unfold exM
  rw [if_pos rfl, L_X12_plays_19, if_pos (by decide)]
  rfl
theorem K_game (hn : 3000000 ≤ n) (a b c : Int32) (hi : Inv σ) : Kok (F_X11_game n a b c) (F_X12_game n a b c) σ := by
  obtain ⟨B, sz, z, cs, S, h, p, H, fo, x, im, hg, hx, hm⟩ := hi
  have o2 := okS_2 hg.2.2.1
  by_cases q1 : isI (S 2) a = 0
  · exact K_noC hg hx hm (-1) (fun τ hr => by unfold F_X11_game; rw [X_hasTent hr, Option.bind_some, if_pos q1]) (fun τ hr => by unfold F_X12_game; rw [M_isTent hr, Option.bind_some, if_pos q1])
  obtain ⟨t, ht, e⟩ := isI_of (by omega) q1
  subst e
  have hc : okC S := by
    rcases hg.2.2.1 with w | w
    · rw [w 2] at ht; omega
    · exact w
  obtain ⟨c0, cw, cb, c10, c178, cnt, chi⟩ := id hc
  rcases rng b 1 4 (by decide) with ⟨m, hm1', hm100, hm31, e⟩ | hout | q
  rotate_left
  · refine K_noC hg hx hm (-1) (fun τ hr => ?_) (fun τ hr => ?_)
    · unfold F_X11_game
      rw [X_hasTent hr, Option.bind_some, if_neg q1]
      by_cases w : b < (1 : Int32)
      · rw [if_pos w]
      · rw [if_neg w, if_pos (show (4 : Int32) < b from lt_of_out hout w)]
    · unfold F_X12_game
      rw [M_isTent hr, Option.bind_some, if_neg q1, show (1 : Int64) = lN 1 from rfl, show (4 : Int64) = lN 4 from rfl, M_in_out (by decide) (by decide) hout, Option.bind_some, if_pos rfl]
  · exact absurd q (by decide)
  subst e
  have pb1 : ¬ nI m < (1 : Int32) := nI_nlt (show 1 ≤ m from hm1') hm31
  have pb2 : ¬ (4 : Int32) < nI m := nI_nlt (show m ≤ 4 from hm100) (by decide)
  rcases rng c 0 1 (by decide) with ⟨w, _, hw2, hw31, e⟩ | hout | q
  rotate_left
  · refine K_noC hg hx hm (-1) (fun τ hr => ?_) (fun τ hr => ?_)
    · unfold F_X11_game
      rw [X_hasTent hr, Option.bind_some, if_neg q1, if_neg pb1, if_neg pb2]
      by_cases w : c < 0
      · rw [if_pos w]
      · rw [if_neg w, if_neg (show ¬ c ≤ (1 : Int32) from Int32.not_le.mpr (lt_of_out hout w))]
    · unfold F_X12_game
      rw [M_isTent hr, Option.bind_some, if_neg q1, show (1 : Int64) = lN 1 from rfl, show (4 : Int64) = lN 4 from rfl, M_in_in (by decide) (by decide) hm31 (by omega) hm100, Option.bind_some, if_neg ne10, show (0 : Int64) = lN 0 from rfl, M_in_out (by decide) (by decide) hout, Option.bind_some, if_pos rfl]
  · exact absurd q (by decide)
  subst e
  have pc1 : ¬ nI w < (0 : Int32) := nI_n0 (by omega)
  have pc2 : nI w ≤ (1 : Int32) := nI_le (show w ≤ 1 from hw2) (by decide)
  have hR := hx.2.2.2.1.1
  obtain ⟨m', em⟩ : ∃ m', m = m' + 1 := ⟨m - 1, by omega⟩
  subst em
  obtain ⟨τ1, a1, a2, a3, a4⟩ := X_play (n := n) (by omega) cw ht (t := m') (by omega) hR
  refine K_ask hg hx hm (if nI w = (0 : Int32) then (gv S (m' + 1) true (S 11) (S (13 + 4 * t))).1 else (gv S (m' + 1) true (S 11) (S (13 + 4 * t))).2) ⟨τ1, ?_, sX_agr a4 (by decide)⟩ (fun τ hm1 => ?_)
  · unfold F_X11_game
    rw [X_hasTent hR, Option.bind_some, if_neg q1, if_neg pb1, if_neg pb2, if_neg pc1, if_pos pc2]
    show (F_X7_play n 25 (nI t) (nI (m' + 1)) σ).bind _ = _
    rw [a1, Option.bind_some, a2, a3]
    by_cases w0 : nI w = (0 : Int32)
    · rw [if_pos w0, if_pos w0]
    · rw [if_neg w0, if_neg w0]
  · obtain ⟨υ, b1, b2, b3, b4⟩ := M_plays (n := n) hn cw ht (t := m') (by omega) hm1.2.2.2.1
    refine ⟨υ, ?_, sM_agm b4 (by decide) (by decide)⟩
    unfold F_X12_game
    rw [M_isTent hm1.2.2.2.1, Option.bind_some, if_neg q1, show (1 : Int64) = lN 1 from rfl, show (4 : Int64) = lN 4 from rfl, M_in_in (by decide) (by decide) hm31 (by omega) hm100, Option.bind_some, if_neg ne10, show (0 : Int64) = lN 0 from rfl, M_in_in (by decide) (by decide) hw31 (by omega) hw2, Option.bind_some, if_neg ne10]
    show (F_X12_plays n (nI t) (nI (m' + 1)) τ).bind _ = _
    rw [b1, Option.bind_some, b2, b3]
    by_cases w0 : nI w = (0 : Int32)
    · rw [if_pos w0, if_pos w0]
    · rw [if_neg w0, if_neg w0]
end K23
