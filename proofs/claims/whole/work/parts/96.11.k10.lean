/-! hide: both sides alike. -/
section K10
variable {B : Nat → Int32} {sz z h p : Nat} {cs : Nat → List CL} {S S' : Nat → Nat} {H : Nat → Nat → Nat} {fo x : Int32} {im : Nat → Option IMG} {σ τ : PS} {n : Nat}
theorem okW_cell {b : Nat} (cw : okW S b) {t c : Nat} (ht : t < 6) (hc : c < S 1 * S 1) : okW (un S (13 + 4 * t) c) b := by
  obtain ⟨w1, w2, w3, w4, w5, w6, w7, w8⟩ := cw
  have e : ∀ j, j ≠ 13 + 4 * t → un S (13 + 4 * t) c j = S j := fun j hj => un_ne _ _ hj
  refine ⟨by rw [e 1 (by omega)]; exact w1, by rw [e 1 (by omega)]; exact w2, by rw [e 2 (by omega)]; exact w3, by rw [e 11 (by omega), e 1 (by omega)]; exact w4, fun u hu => ?_, by rw [e 12 (by omega), e 2 (by omega)]; exact w6, fun y hy => by rw [e _ (by omega), e _ (by omega)]; exact w7 y hy, by rw [e 10 (by omega)]; exact w8⟩
  rw [e 2 (by omega)] at hu
  rw [e 1 (by omega), e 2 (by omega), e (13 + 4 * u + 1) (by omega), e (13 + 4 * u + 2) (by omega), e (13 + 4 * u + 3) (by omega)]
  refine ⟨?_, (w5 u hu).2⟩
  by_cases eu : u = t
  · subst eu; rw [un_eq]; exact hc
  · rw [e _ (by omega)]; exact (w5 u hu).1
/-- how often the one is asked, hidden in a cell -/
noncomputable def hdV (S : Nat → Nat) (ru : RU) (t m y : Nat) : Int32 := nI (pasN (un S (13 + 4 * t) y) ru m (13 + 4 * t + 2)) - nI (S (13 + 4 * t + 2))
noncomputable def hdP (S : Nat → Nat) (ru : RU) (t m : Nat) : Nat → Int32 × Int32
  | 0 => (-1, -1)
  | k + 1 => if (hdP S ru t m k).1 < 0 then (nI k, hdV S ru t m k) else if hdV S ru t m k < (hdP S ru t m k).2 then (nI k, hdV S ru t m k) else hdP S ru t m k
theorem hdP_pos {ru : RU} {t m : Nat} : ∀ k, k < 36 → ∃ w, (hdP S ru t m (k + 1)).1 = nI w ∧ w < k + 1
  | 0, _ => ⟨0, by
      show (if (-1 : Int32) < 0 then (nI 0, hdV S ru t m 0) else _).1 = nI 0
      rw [if_pos (by decide)], by omega⟩
  | k + 1, hk => by
    obtain ⟨w, w1, w2⟩ := hdP_pos (ru := ru) (t := t) (m := m) k (by omega)
    have em : hdP S ru t m (k + 1 + 1) = if (hdP S ru t m (k + 1)).1 < 0 then (nI (k + 1), hdV S ru t m (k + 1)) else if hdV S ru t m (k + 1) < (hdP S ru t m (k + 1)).2 then (nI (k + 1), hdV S ru t m (k + 1)) else hdP S ru t m (k + 1) := rfl
    rw [em, if_neg (show ¬ (hdP S ru t m (k + 1)).1 < 0 by rw [w1]; exact nI_n0 (by omega))]
    split
    · exact ⟨k + 1, rfl, by omega⟩
    · exact ⟨w, w1, by omega⟩
theorem X_hide13 {b : Nat} (hn : 3000 ≤ n) (cw : okW S b) {t m : Nat} (ht : t < S 2) (hm : m ≤ 100) (hb : b + 100 < 2 ^ 20) {ru : RU} {fo : Int32} : ∀ (K k : Nat) (σ : PS), RX σ 25 S → foX n σ ru fo → σ.1 18 5 = fo → σ.1 216 3 = (hdP S ru t m k).1 → (k ≠ 0 → σ.1 216 4 = (hdP S ru t m k).2) → k ≤ S 1 * S 1 → 37 ≤ K + k → ∃ τ, L_X2_findHidingCell_13 n 18 K (nI t) (nI m) (nI k) σ = some τ ∧ τ.1 216 3 = (hdP S ru t m (S 1 * S 1)).1 ∧ τ.1 216 4 = (hdP S ru t m (S 1 * S 1)).2 ∧ agx (216 :: wI 217) σ τ
  | 0, k, σ, hR, hf, h5, h3, h4, hk, hK => by have := okW_36 cw; omega
  | K + 1, k, σ, hR, hf, h5, h3, h4, hk, hK => by
    have h36 := okW_36 cw
    have h2 := cw.2.2.1
    have hs := Nat.mul_le_mul cw.1 cw.1
    rw [L_X2_findHidingCell_13, show σ.1 (18 + 7) 1 = nI (S 1 * S 1) from hR.2.1]
    by_cases e : S 1 * S 1 ≤ k
    · have : k = S 1 * S 1 := by omega
      rw [this] at h3 h4
      rw [this, if_pos (nI_le (Nat.le_refl _) (by omega))]
      exact ⟨σ, rfl, h3, h4 (by omega), agx_refl⟩
    · rw [if_neg (nI_ge (by omega) (by omega))]
      obtain ⟨τ1, a1, a2⟩ := X_copyFrom (n := n) (i := 217) (a := 25) (by omega) (by omega) (σ := σ)
      have hR1 := CP_RX a2 hR h2
      have hR2 := RX_tentCell hR1 h36 h2 ht k
      have ag1 : agx (216 :: wI 217) σ τ1 := agx_of (agr_mono a2.2.2.2.2 (by decide)) (by decide)
      have ag2 : agx (216 :: wI 217) σ (psI τ1 218 t (nI k)) := agx_trans ag1 (agx_of (T := 216 :: wI 217) (agr_psI (by decide)) (by decide))
      have hck : okW (un S (13 + 4 * t) k) b := okW_cell cw (by omega) (by omega)
      have h52 : (psI τ1 218 t (nI k)).1 18 5 = fo := by rw [(ag2.1 18 (by decide) (by decide) (by decide)).1]; exact h5
      obtain ⟨τ2, b1, b2, b3⟩ := X_walkOn (n := n) (m := m) (by omega) hck (ru := ru) (x := fo) (by omega) (by omega) hR2 (foX_agx hf ag2 (by decide))
      have ag3 : agx (216 :: wI 217) σ τ2 := agx_trans ag2 (agx_mono b3 (by decide))
      have hR25 : RX τ2 25 S := RX_agx hR ag3 (by decide) (by decide)
      have e2 := (pasN_2 hck ru m).1
      rw [un_ne _ _ (by omega)] at e2
      have g1 : τ2.1 220 t = nI (pasN (un S (13 + 4 * t) k) ru m (13 + 4 * t + 2)) := (RX_tent b2 (by rw [e2]; exact ht)).2.2.1
      have g2 : τ2.1 (18 + 7 + 3) t = nI (S (13 + 4 * t + 2)) := (RX_tent hR25 ht).2.2.1
      have g3 : τ2.1 216 3 = (hdP S ru t m k).1 := by rw [(b3.1 216 (by decide) (by decide) (by decide)).1, psI_other (by decide), (a2.2.2.2.2 216 (by decide)).1]; exact h3
      have g4 : k ≠ 0 → τ2.1 216 4 = (hdP S ru t m k).2 := fun q => by rw [(b3.1 216 (by decide) (by decide) (by decide)).1, psI_other (by decide), (a2.2.2.2.2 216 (by decide)).1]; exact h4 q
      have h53 : τ2.1 18 5 = fo := by rw [(ag3.1 18 (by decide) (by decide) (by decide)).1]; exact h5
      show ∃ τ, (F_X10_copyFrom n 217 25 σ).bind _ = some τ ∧ _
      rw [a1, Option.bind_some, nI_clamp (by omega), if_pos ⟨nI_pos' (by omega), by omega⟩, h52, b1, Option.bind_some, g1, g2, g3, nI_1, show nI (pasN (un S (13 + 4 * t) k) ru m (13 + 4 * t + 2)) - nI (S (13 + 4 * t + 2)) = hdV S ru t m k from rfl]
      have em : hdP S ru t m (k + 1) = if (hdP S ru t m k).1 < 0 then (nI k, hdV S ru t m k) else if hdV S ru t m k < (hdP S ru t m k).2 then (nI k, hdV S ru t m k) else hdP S ru t m k := rfl
      have take : hdP S ru t m (k + 1) = (nI k, hdV S ru t m k) → ∃ τ, L_X2_findHidingCell_13 n 18 K (nI t) (nI m) (nI (k + 1)) (psI (psI τ2 216 3 (nI k)) 216 4 (hdV S ru t m k)) = some τ ∧ τ.1 216 3 = (hdP S ru t m (S 1 * S 1)).1 ∧ τ.1 216 4 = (hdP S ru t m (S 1 * S 1)).2 ∧ agx (216 :: wI 217) σ τ := by
        intro hh
        have ag : agr [216] τ2 (psI (psI τ2 216 3 (nI k)) 216 4 (hdV S ru t m k)) := agr_trans (agr_psI (by simp)) (agr_psI (by simp))
        have agx4 : agx (216 :: wI 217) σ (psI (psI τ2 216 3 (nI k)) 216 4 (hdV S ru t m k)) := agx_trans ag3 (agx_of (agr_mono ag (by decide)) (by decide))
        obtain ⟨τ, t1, t2, t3, t4⟩ := X_hide13 hn cw ht hm hb (ru := ru) (fo := fo) K (k + 1) _ (RX_agr hR25 ag (by decide)) (foX_agx hf agx4 (by decide)) (by rw [(ag 18 (by decide)).1]; exact h53) (by rw [hh, psI_eq, if_neg (by decide), psI_eq, if_pos rfl]) (fun _ => by rw [hh, psI_eq, if_pos rfl]) (by omega) (by omega)
        exact ⟨τ, t1, t2, t3, agx_trans agx4 t4⟩
      by_cases k0 : k = 0
      · subst k0
        rw [if_pos (show (hdP S ru t m 0).1 = -1 from rfl)]
        exact take (by rw [em]; exact if_pos (show (-1 : Int32) < 0 by decide))
      · obtain ⟨w, w1, w2⟩ := hdP_pos (S := S) (ru := ru) (t := t) (m := m) (k - 1) (by omega)
        rw [show k - 1 + 1 = k by omega] at w1
        have p1 : ¬ (hdP S ru t m k).1 < 0 := by rw [w1]; exact nI_n0 (by omega)
        rw [if_neg (show ¬ (hdP S ru t m k).1 = -1 by rw [w1]; exact m1_ne (by omega)), g4 k0]
        rw [if_neg p1] at em
        by_cases q : hdV S ru t m k < (hdP S ru t m k).2
        · rw [if_neg (Int32.not_le.mpr q)]
          exact take (by rw [em, if_pos q])
        · rw [if_neg q] at em
          rw [if_pos (Int32.not_lt.mp q)]
          obtain ⟨τ, t1, t2, t3, t4⟩ := X_hide13 hn cw ht hm hb (ru := ru) (fo := fo) K (k + 1) τ2 hR25 (foX_agx hf ag3 (by decide)) h53 (by rw [em]; exact g3) (fun _ => by rw [em]; exact g4 k0) (by omega) (by omega)
          exact ⟨τ, t1, t2, t3, agx_trans ag3 t4⟩
theorem M_hide52 {b : Nat} (hn : 3000 ≤ n) (cw : okW S b) {t m : Nat} (ht : t < S 2) (hm : m ≤ 100) (hb : b + 1000 < 2 ^ 20) {ru : RU} {a3 : Int32} : ∀ (K k : Nat) (σ : PS), rowN σ 259 S → (∀ i, i < 99 → σ.1 263 i = nI (S (10 + i))) → foM n σ ru → k ≤ S 1 * S 1 → 37 ≤ K + k → ∃ τ, L_X12_hide_52 n K (nI t) (nI m) a3 (nI (S (13 + 4 * t + 2))) (hdP S ru t m k).1 (hdP S ru t m k).2 (nI k) σ = some (a3, (hdP S ru t m (S 1 * S 1)).1, (hdP S ru t m (S 1 * S 1)).2, τ) ∧ rowN τ 259 S ∧ agm scT [18] σ τ
  | 0, k, σ, hS, hK3, hf, hk, hK => by have := okW_36 cw; omega
  | K + 1, k, σ, hS, hK3, hf, hk, hK => by
    have h36 := okW_36 cw
    have h2 := cw.2.2.1
    rw [L_X12_hide_52, M_cells hS, Option.bind_some]
    by_cases e : S 1 * S 1 ≤ k
    · have : k = S 1 * S 1 := by omega
      rw [this, if_pos (show nI (S 1 * S 1) ≤ nI (S 1 * S 1) from nI_le (Nat.le_refl _) (by omega))]
      exact ⟨σ, rfl, hS, agm_refl⟩
    · have ee : (13 : Int32) + (4 : Int32) * nI t = nI (13 + 4 * t) := by
        show nI 13 + nI 4 * nI t = _
        rw [nI_mul, nI_add]
      have hck : okW (un S (13 + 4 * t) k) b := okW_cell cw (by omega) (by omega)
      have hS1 := rowN_set (k := 13 + 4 * t) (v := k) hS
      have ag1 : agm scT [18] σ (psI σ 259 (13 + 4 * t) (nI k)) := agm_psI (by decide) (by decide)
      obtain ⟨τ2, b1, b2, b3⟩ := M_passesAll (n := n) (m := m) (by omega) (b := b) (by omega) hck (ru := ru) (by omega) hS1 (foM_agm hf (agm_psI (T := [259]) (Fs := []) (by simp) (by decide)) (by decide) (by decide) (by decide) (by simp))
      have hl : lk S (pasN (un S (13 + 4 * t) k) ru m) := fun j hj => by rw [pasN_lk hck ru m j hj]; exact un_ne _ _ (by omega)
      obtain ⟨τ3, d1, d2, d3⟩ := M_lb (n := n) (S := S) hn (τ := τ2) (fun i hi => by rw [(b3.1 263 (by decide) (by decide)).1, psI_other (by decide)]; exact hK3 i hi) b2 hl
      have ag3 : agm scT [18] σ τ3 := agm_trans ag1 (agm_trans (agm_mono b3 (by decide) (by decide)) (agm_mono (agm_of d3 (by decide) (Fs := [])) (by decide) (by simp)))
      rw [if_neg (show ¬ nI (S 1 * S 1) ≤ nI k from nI_ge (by omega) (by omega)), ee, nI_clamp (by omega), if_pos ⟨nI_pos' (by omega), by omega⟩]
      show ∃ τ, (F_X12_passesAll n (nI m) (psI σ 259 (13 + 4 * t) (nI k))).bind _ = _ ∧ _
      rw [b1, Option.bind_some, M_askedOf b2 (by omega), Option.bind_some]
      show ∃ τ, (F_X12_laysBack n τ2).bind _ = _ ∧ _
      rw [d1, Option.bind_some, nI_1]
      have em : hdP S ru t m (k + 1) = if (hdP S ru t m k).1 < 0 then (nI k, hdV S ru t m k) else if hdV S ru t m k < (hdP S ru t m k).2 then (nI k, hdV S ru t m k) else hdP S ru t m k := rfl
      have rcc : ∃ τ, L_X12_hide_52 n K (nI t) (nI m) a3 (nI (S (13 + 4 * t + 2))) (hdP S ru t m (k + 1)).1 (hdP S ru t m (k + 1)).2 (nI (k + 1)) τ3 = some (a3, (hdP S ru t m (S 1 * S 1)).1, (hdP S ru t m (S 1 * S 1)).2, τ) ∧ rowN τ 259 S ∧ agm scT [18] σ τ := by
        obtain ⟨τ, t1, t2, t3⟩ := M_hide52 hn cw ht hm hb (ru := ru) (a3 := a3) K (k + 1) τ3 d2 (fun i hi => by rw [(d3 263 (by decide)).1, (b3.1 263 (by decide) (by decide)).1, psI_other (by decide)]; exact hK3 i hi) (foM_agm hf ag3 (by decide) (by decide) (by decide) (by decide)) (by omega) (by omega)
        exact ⟨τ, t1, t2, agm_trans ag3 t3⟩
      rw [em] at rcc
      by_cases p1 : (hdP S ru t m k).1 < 0
      · rw [if_pos p1] at rcc
        rw [if_pos p1]
        exact rcc
      · rw [if_neg p1] at rcc
        rw [if_neg p1]
        by_cases q : hdV S ru t m k < (hdP S ru t m k).2
        · rw [if_pos q] at rcc
          rw [if_pos (show nI (pasN (un S (13 + 4 * t) k) ru m (13 + 4 * t + 2)) - nI (S (13 + 4 * t + 2)) < (hdP S ru t m k).2 from q)]
          exact rcc
        · rw [if_neg q] at rcc
          rw [if_neg (show ¬ nI (pasN (un S (13 + 4 * t) k) ru m (13 + 4 * t + 2)) - nI (S (13 + 4 * t + 2)) < (hdP S ru t m k).2 from q)]
          exact rcc
theorem K_hide (hn : 3000 ≤ n) (a b c : Int32) (hi : Inv σ) : Kok (F_X11_hide n a b c) (F_X12_hide n a b c) σ := by
  obtain ⟨B, sz, z, cs, S, h, p, H, fo, x, im, hg, hx, hm⟩ := hi
  have o2 := okS_2 hg.2.2.1
  by_cases q1 : isI (S 2) a = 0
  · exact K_noC hg hx hm (-1) (fun τ hr => by unfold F_X11_hide; rw [X_hasTent hr, Option.bind_some, if_pos q1]) (fun τ hr => by unfold F_X12_hide; rw [M_isTent hr, Option.bind_some, if_pos q1])
  obtain ⟨t, ht, e⟩ := isI_of (by omega) q1
  subst e
  have hc : okC S := by
    rcases hg.2.2.1 with w | w
    · rw [w 2] at ht; omega
    · exact w
  obtain ⟨c0, cw, cb, c10, c178, cnt, chi⟩ := id hc
  rcases rng b 1 30 (by decide) with ⟨m, hm1', hm100, hm31, e⟩ | hout | q
  rotate_left
  · refine K_noC hg hx hm (-1) (fun τ hr => ?_) (fun τ hr => ?_)
    · unfold F_X11_hide
      rw [X_hasTent hr, Option.bind_some, if_neg q1]
      by_cases w : b < (1 : Int32)
      · rw [if_pos w]
      · rw [if_neg w, if_pos (show (30 : Int32) < b from lt_of_out hout w)]
    · unfold F_X12_hide
      rw [M_isTent hr, Option.bind_some, if_neg q1, show (1 : Int64) = lN 1 from rfl, show (30 : Int64) = lN 30 from rfl, M_in_out (by decide) (by decide) hout, Option.bind_some, if_pos rfl]
  · exact absurd q (by decide)
  subst e
  have pb1 : ¬ nI m < (1 : Int32) := nI_nlt (show 1 ≤ m from hm1') hm31
  have pb2 : ¬ (30 : Int32) < nI m := nI_nlt (show m ≤ 30 from hm100) (by decide)
  rcases rng c 0 1 (by decide) with ⟨w, _, hw2, hw31, e⟩ | hout | q
  rotate_left
  · refine K_noC hg hx hm (-1) (fun τ hr => ?_) (fun τ hr => ?_)
    · unfold F_X11_hide
      rw [X_hasTent hr, Option.bind_some, if_neg q1, if_neg pb1, if_neg pb2]
      by_cases w : c < 0
      · rw [if_pos w]
      · rw [if_neg w, if_neg (show ¬ c ≤ (1 : Int32) from Int32.not_le.mpr (lt_of_out hout w))]
    · unfold F_X12_hide
      rw [M_isTent hr, Option.bind_some, if_neg q1, show (1 : Int64) = lN 1 from rfl, show (30 : Int64) = lN 30 from rfl, M_in_in (by decide) (by decide) hm31 (by omega) hm100, Option.bind_some, if_neg ne10, show (0 : Int64) = lN 0 from rfl, M_in_out (by decide) (by decide) hout, Option.bind_some, if_pos rfl]
  · exact absurd q (by decide)
  subst e
  have pc1 : ¬ nI w < (0 : Int32) := nI_n0 (by omega)
  have pc2 : nI w ≤ (1 : Int32) := nI_le (show w ≤ 1 from hw2) (by decide)
  have hR := hx.2.2.2.1.1
  have ag0 : agr [216] σ (psI (psI σ 216 3 (-1 : Int32)) 216 4 (0 : Int32)) := agr_trans (agr_psI (by simp)) (agr_psI (by simp))
  have agx0 : agx [216] σ (psI (psI σ 216 3 (-1 : Int32)) 216 4 (0 : Int32)) := agx_of ag0 (by decide)
  obtain ⟨τ1, a1, a2, a3, a4⟩ := X_hide13 (n := n) hn cw (ru := ruO cs fo) (fo := fo) ht (m := m) (by omega) (by omega) n 0 (psI (psI σ 216 3 (-1 : Int32)) 216 4 (0 : Int32)) (RX_agr hR ag0 (by decide)) (foX_agx (fo_X (by omega) hx hg.2.1 hg.2.2.2.1) agx0 (by decide)) (by rw [(ag0 18 (by decide)).1]; exact hx.2.2.2.1.2.2.2.1) (by rw [psI_eq, if_neg (by decide), psI_eq, if_pos rfl]; rfl) (fun q => absurd rfl q) (by omega) (by omega)
  have sx : sX σ τ1 := sX_trans (sX_agx agx0 (by decide)) (sX_agx a4 (by decide))
  refine K_ask hg hx hm (if nI w = (0 : Int32) then (hdP S (ruO cs fo) t m (S 1 * S 1)).1 else (hdP S (ruO cs fo) t m (S 1 * S 1)).2) ⟨τ1, ?_, sx⟩ (fun τ hm1 => ?_)
  · unfold F_X11_hide F_X2_findHidingCell
    rw [X_hasTent hR, Option.bind_some, if_neg q1, if_neg pb1, if_neg pb2, if_neg pc1, if_pos pc2]
    show ((L_X2_findHidingCell_13 n 18 n (nI t) (nI m) (nI 0) _).bind _).bind _ = _
    rw [a1, Option.bind_some, Option.bind_some, a2, a3]
    by_cases w0 : nI w = (0 : Int32)
    · rw [if_pos w0, if_pos w0]
    · rw [if_neg w0, if_neg w0]
  · obtain ⟨υ1, b1, b2, b3⟩ := M_keeps (n := n) (by omega) hm1.2.2.2.1
    have hf := foM_agm (fo_M (n := n) (by omega) hm1 hg.2.1 hg.2.2.2.1) (agm_of b3 (by decide) (Fs := [])) (by decide) (by decide) (by decide) (by simp)
    obtain ⟨υ, d1, d2, d3⟩ := M_hide52 (n := n) hn cw (ru := ruO cs fo) ht (m := m) (by omega) (by omega) (a3 := nI w) n 0 υ1 (rowN_agr hm1.2.2.2.1 b3 (by decide)) b2 hf (by omega) (by omega)
    refine ⟨υ, ?_, sM_row (T := scT) (Fs := [18]) (agm_trans (agm_mono (agm_of b3 (by decide) (Fs := [])) (by simp) (by simp)) d3) hm1.2.2.2.1 d2 (by decide) (by decide)⟩
    unfold F_X12_hide
    rw [M_isTent hm1.2.2.2.1, Option.bind_some, if_neg q1, show (1 : Int64) = lN 1 from rfl, show (30 : Int64) = lN 30 from rfl, M_in_in (by decide) (by decide) hm31 (by omega) hm100, Option.bind_some, if_neg ne10, show (0 : Int64) = lN 0 from rfl, M_in_in (by decide) (by decide) hw31 (by omega) hw2, Option.bind_some, if_neg ne10]
    show (F_X12_askedOf n (nI t) τ).bind _ = _
    rw [M_askedOf hm1.2.2.2.1 (by omega), Option.bind_some]
    show (F_X12_keeps n τ).bind _ = _
    rw [b1, Option.bind_some]
    rw [show L_X12_hide_52 n n (nI t) (nI m) (nI w) (nI (S (13 + 4 * t + 2))) (-1 : Int32) (-1 : Int32) (0 : Int32) υ1 = _ from d1, Option.bind_some]
    by_cases w0 : nI w = (0 : Int32)
    · rw [if_pos w0, if_pos w0]
    · rw [if_neg w0, if_neg w0]
end K10
