/-! The acts step, pitch, steady, bush, undo: both sides alike. -/
section K2
variable {B : Nat → Int32} {sz z h p : Nat} {cs : Nat → List CL} {S S' : Nat → Nat} {H : Nat → Nat → Nat} {fo x : Int32} {im : Nat → Option IMG} {σ τ : PS} {n : Nat}
theorem lk_symm {S T : Nat → Nat} (h : lk S T) : lk T S := fun j hj => (h j hj).symm
theorem okC_lk (hc : okC S) (hl : lk S S') (hw : okW S' (S' 10 + 2)) (h10 : S' 10 ≤ 999) : okC S' := by
  obtain ⟨a, b, c, d, e, f, g⟩ := hc
  refine ⟨by rw [hl 0 (by omega)]; exact a, hw, by rw [begS_of_lk hl]; exact c, h10, by rw [hl 178 (by omega)]; exact e, fun j hj => ?_, fun y hy => by rw [hl y (by omega)]; exact g y hy⟩
  rw [hl 178 (by omega)] at hj
  rw [hl _ (by omega), hl _ (by omega), hl 1 (by omega)]
  exact f j hj
theorem hpN_le {h : Nat} (hh : h ≤ 20) : hpN h ≤ 20 := by unfold hpN; split <;> omega
theorem okG_act (hg : okG B z S h H fo x im) (hh : h ≤ 20) (hc : okC S) (hc' : okC S') (hl : lk S S') : okG B z S' (hpN h) (hpH h H S) fo x im := by
  obtain ⟨g1, g2, g3, g4, g5, g6, g7, g8⟩ := hg
  refine ⟨g1, g2, Or.inr hc', g4, g5, fun _ => hc'.1, fun j hj => ?_, g8⟩
  have self : lk S' S ∧ okW S (S 10 + 2) ∧ S 10 ≤ 999 := ⟨lk_symm hl, hc.2.1, hc.2.2.2.1⟩
  have old : ∀ i, i < h → lk S' (H i) ∧ okW (H i) (H i 10 + 2) ∧ H i 10 ≤ 999 := fun i hi => ⟨lk_trans (lk_symm hl) (g7 i hi).1, (g7 i hi).2⟩
  unfold hpN at hj
  unfold hpH
  by_cases q : h = 20
  · rw [if_pos q] at hj ⊢
    by_cases q2 : j = 19
    · rw [if_pos q2]; exact self
    · rw [if_neg q2]; exact old (j + 1) (by omega)
  · rw [if_neg q] at hj ⊢
    by_cases q2 : j = h
    · rw [if_pos q2]; exact self
    · rw [if_neg q2]; exact old j (by omega)
theorem IX_act (hi : IX σ B sz z cs S h p H fo x im) (hz : z ≤ 6) (hl : lk S S') {h' p' : Nat} {H' : Nat → Nat → Nat} (hR : RX τ 25 S') (hh' : hX τ h' p' H') (hr : ∀ j, j < 25 ∨ (30 < j ∧ j < 94) → j ≠ 7 → j ≠ 17 → τ.1 j = σ.1 j ∧ τ.2 j = σ.2 j) (h7 : τ.1 7 0 = σ.1 7 0) : IX τ B sz z cs S' h' p' H' fo x im := by
  obtain ⟨a, b, c, d, e, f⟩ := hi
  refine ⟨⟨by rw [(hr 2 (by omega) (by decide) (by decide)).1]; exact a.1, by rw [(hr 1 (by omega) (by decide) (by decide)).1]; exact a.2.1, a.2.2⟩, by rw [h7]; exact b, st_agr c hz (fun j h1 h2 => (hr j (by omega) (by omega) (by omega)).1), ⟨hR, ?_, ?_, ?_, ?_, fun j hj => ?_⟩, hh', imX_rows f (fun j h1 h2 => hr j (by omega) (by omega) (by omega))⟩
  · rw [begS_of_lk hl]
    exact RX_rows d.2.1 (fun j h1 h2 => hr j (by omega) (by omega) (by omega))
  · rw [(hr 18 (by omega) (by decide) (by decide)).1, hl 178 (by omega)]; exact d.2.2.1
  · rw [(hr 18 (by omega) (by decide) (by decide)).1]; exact d.2.2.2.1
  · rw [(hr 18 (by omega) (by decide) (by decide)).1]; exact d.2.2.2.2.1
  · rw [hl 178 (by omega)] at hj
    rw [(hr 31 (by omega) (by decide) (by decide)).1, (hr 32 (by omega) (by decide) (by decide)).1, hl _ (by omega), hl _ (by omega)]
    exact d.2.2.2.2.2 j hj
theorem IM_act {T Fs : List Nat} (hi : IM σ B sz z cs S h H fo x im) {h' : Nat} {H' : Nat → Nat → Nat} (ha : agm T Fs σ τ) (hS : rowN τ 259 S') (hh : hM τ h' H') (hT : ∀ j, j ∈ T → 255 ≤ j ∧ j < 273) (hF : ∀ k, k ∈ Fs → k ≠ 1 ∧ k ≠ 2 ∧ k ≠ 21 ∧ k ≠ 22) : IM τ B sz z cs S' h' H' fo x im ∧ loA σ τ := by
  obtain ⟨m1, m2, m3, m4, m5, m6, m7, m8⟩ := hi
  have nT : ∀ j, j < 255 ∨ 273 ≤ j → j ∉ T := fun j hj q => by have := hT j q; omega
  have nF : ∀ k, k = 1 ∨ k = 2 ∨ k = 21 ∨ k = 22 → k ∉ Fs := fun k hk q => by have := hF k q; omega
  exact ⟨⟨⟨by rw [(ha.1 250 (nT _ (by omega)) (by decide)).1]; exact m1.1, by rw [(ha.2 1 (nF _ (by omega))).1]; exact m1.2.1, m1.2.2⟩, by rw [(ha.2 2 (nF _ (by omega))).1]; exact m2, fun r hr => stM_agm (m3 r hr) ha (nT _ (by omega)) (nT _ (by omega)) (nT _ (by omega)), hS, by rw [(ha.2 21 (nF _ (by omega))).1]; exact m5, by rw [(ha.2 22 (nF _ (by omega))).1]; exact m6, hh, imM_agm m8 ha (nT _ (by omega)) (nT _ (by omega)) (nT _ (by omega)) (nT _ (by omega))⟩, loA_agm ha (fun j hj => by have := hT j hj; omega)⟩
/-- an act that both sides do -/
theorem K_act {F1 F2 : PS → Option (Int32 × PS)} (hg : okG B z S h H fo x im) (hx : IX σ B sz z cs S h p H fo x im) (hm : IM σ B sz z cs S h H fo x im) (hc : okC S) (hc' : okC S') (hl : lk S S') (v : Int32) (h1 : ∃ τ, F1 σ = some (v, τ) ∧ RX τ 25 S' ∧ hX τ (hpN h) ((p + 1) % 20) (hpH h H S) ∧ (∀ j, j < 25 ∨ (30 < j ∧ j < 94) → j ≠ 7 → j ≠ 17 → τ.1 j = σ.1 j ∧ τ.2 j = σ.2 j) ∧ τ.1 7 0 = σ.1 7 0 ∧ hiA σ τ) (h2 : ∀ τ, IM τ B sz z cs S h H fo x im → ∃ υ T Fs, F2 τ = some (v, υ) ∧ rowN υ 259 S' ∧ hM υ (hpN h) (hpH h H S) ∧ agm T Fs τ υ ∧ (∀ j, j ∈ T → 255 ≤ j ∧ j < 273) ∧ ∀ k, k ∈ Fs → k ≠ 1 ∧ k ≠ 2 ∧ k ≠ 21 ∧ k ≠ 22) : Kok F1 F2 σ := by
  refine K_do (cs' := cs) (sz' := sz) (S' := S') (h' := hpN h) (p' := (p + 1) % 20) (H' := hpH h H S) (okG_act hg hx.2.2.2.2.1.1 hc hc' hl) hm v ?_ ?_
  · obtain ⟨τ, a1, a2, a3, a4, a5, a6⟩ := h1
    exact ⟨τ, a1, IX_act hx hg.2.1 hl a2 a3 a4 a5, a6⟩
  · intro τ hm1
    obtain ⟨υ, T, Fs, b1, b2, b3, b4, b5, b6⟩ := h2 τ hm1
    have := IM_act hm1 b4 b2 b3 b5 b6
    exact ⟨υ, b1, this.1, this.2⟩
theorem fr_agr {T : List Nat} (h : agr T σ τ) (hT : ∀ j, j ∈ T → (25 ≤ j ∧ j ≤ 30) ∨ (94 ≤ j ∧ j < 249)) : (∀ j, j < 25 ∨ (30 < j ∧ j < 94) → j ≠ 7 → j ≠ 17 → τ.1 j = σ.1 j ∧ τ.2 j = σ.2 j) ∧ τ.1 7 0 = σ.1 7 0 ∧ hiA σ τ :=
  ⟨fun j hj _ _ => h j (fun q => by have := hT j q; omega), by rw [(h 7 (fun q => by have := hT 7 q; omega)).1], hiA_agr h (fun j hj => by have := hT j hj; omega)⟩
theorem fr_agx {T : List Nat} (h : agx T σ τ) (hT : ∀ j, j ∈ T → (25 ≤ j ∧ j ≤ 30) ∨ (94 ≤ j ∧ j < 249)) : (∀ j, j < 25 ∨ (30 < j ∧ j < 94) → j ≠ 7 → j ≠ 17 → τ.1 j = σ.1 j ∧ τ.2 j = σ.2 j) ∧ τ.1 7 0 = σ.1 7 0 ∧ hiA σ τ :=
  ⟨fun j hj h7 h17 => h.1 j (fun q => by have := hT j q; omega) h7 h17, h.2, hiA_agx h (fun j hj => by have := hT j hj; omega)⟩
theorem X_pitched (hR : RX σ 25 S) (h1 : S 1 < 2 ^ 31) : F_X10_isPitched n 25 σ = some (if S 1 = 0 then 0 else 1, σ) := by
  unfold F_X10_isPitched
  rw [hR.1]
  by_cases q : S 1 = 0
  · rw [if_pos q, if_pos (by rw [q]; decide)]
  · rw [if_neg q, if_neg (nI_nle (by omega) h1)]
theorem keep_T {p x0 : Nat} (hp : p < 20) (hx : 25 ≤ x0 ∧ x0 ≤ 30) : ∀ j, j ∈ (94 :: x0 :: wI (96 + 6 * p)) → (25 ≤ j ∧ j ≤ 30) ∨ (94 ≤ j ∧ j < 249) := fun j hj => by
  simp at hj
  omega
theorem okW_b {b c : Nat} (h : okW S b) (hb : b ≤ c) : okW S c := okW_mono h hb
theorem K_step (hn : 3000 ≤ n) (hi : Inv σ) : Kok (F_X11_step n) (F_X12_step n) σ := by
  obtain ⟨B, sz, z, cs, S, h, p, H, fo, x, im, hg, hx, hm⟩ := hi
  obtain ⟨g1, g2, g3, g4, g5, g6, g7, g8⟩ := id hg
  have hR := hx.2.2.2.1.1
  rcases g3 with q | hc
  · refine K_ask hg hx hm (-1) ⟨σ, ?_, sX_refl⟩ (fun τ hm1 => ⟨τ, ?_, sM_refl⟩)
    · unfold F_X11_step
      rw [X_pitched hR (by rw [q]; decide), Option.bind_some, if_pos (q 1), if_pos rfl]
    · unfold F_X12_step
      rw [M_isCamp hm1.2.2.2.1 (by rw [q]; decide), Option.bind_some, if_neg (show ¬ S 0 = 1 by rw [q]; decide), if_pos rfl]
  · obtain ⟨c0, cw, cb, c10, c178, cnt, chi⟩ := id hc
    have h1 := cw.1
    have h1' := cw.2.1
    by_cases e9 : S 10 = 999
    · refine K_ask hg hx hm (-1) ⟨σ, ?_, sX_refl⟩ (fun τ hm1 => ⟨τ, ?_, sM_refl⟩)
      · unfold F_X11_step
        rw [X_pitched hR (by omega), Option.bind_some, if_neg (show ¬ S 1 = 0 by omega), if_neg ne10]
        show (if σ.1 25 3 < (999 : Int32) then _ else some ((-1 : Int32), σ)) = _
        rw [hR.2.2.2.1, e9, if_neg (by decide)]
      · unfold F_X12_step
        rw [M_isCamp hm1.2.2.2.1 (by omega), Option.bind_some, if_pos c0, if_neg ne10]
        show (if τ.1 259 10 = (999 : Int32) then some ((-1 : Int32), τ) else _) = _
        rw [rowN_get hm1.2.2.2.1, e9, if_pos (show nI 999 = (999 : Int32) from rfl)]
    · have hpas := okW_pas cw (ruO cs fo)
      have s10 : pasS S (ruO cs fo) 10 = S 10 + 1 := by unfold pasS; exact un_eq _ _ _
      have hc' : okC (pasS S (ruO cs fo)) := okC_lk hc (pasS_lk cw _) (by rw [s10]; exact hpas) (by rw [s10]; omega)
      refine K_act hg hx hm hc hc' (pasS_lk cw _) (nI (pasS S (ruO cs fo) 11)) ?_ ?_
      · have hfo : foX n σ (ruO cs fo) (σ.1 18 5) := by rw [hx.2.2.2.1.2.2.2.1]; exact fo_X (by omega) hx g2 g4
        obtain ⟨τ, a1, a2, a3, a4⟩ := O_step_X (n := n) (by omega) cw (by omega) hR hfo hx.2.2.2.2.1
        have hp := hx.2.2.2.2.1.2.1
        have fr := fr_agx a4 (fun j hj => by simp at hj; omega)
        exact ⟨τ, a1, a2, a3, fr.1, fr.2.1, fr.2.2⟩
      · intro τ hm1
        obtain ⟨υ, b1, b2, b3, b4⟩ := O_step_M (n := n) (by omega) c0 cw (by omega) hm1.2.2.2.1 (fo_M (by omega) hm1 g2 g4) hm1.2.2.2.2.2.2.1
        exact ⟨υ, _, _, b1, b2, b3, b4, by decide, by decide⟩
theorem okC_of {S : Nat → Nat} (hg : okS S) (h : S 1 ≠ 0) : okC S := by
  rcases hg with q | q
  · exact absurd (q 1) h
  · exact q
theorem K_pitch (hn : 3000 ≤ n) (a b : Int32) (hi : Inv σ) : Kok (F_X11_pitch n a b) (F_X12_pitch n a b) σ := by
  obtain ⟨B, sz, z, cs, S, h, p, H, fo, x, im, hg, hx, hm⟩ := hi
  have g3 := hg.2.2.1
  have hR := hx.2.2.2.1.1
  have o2 := okS_2 g3
  have refuse : (∀ τ, RX τ 25 S → F_X11_pitch n a b τ = some (-1, τ)) → (∀ τ, rowN τ 259 S → F_X12_pitch n a b τ = some (-1, τ)) → Kok (F_X11_pitch n a b) (F_X12_pitch n a b) σ := fun r1 r2 => K_ask hg hx hm (-1) ⟨σ, r1 σ hR, sX_refl⟩ (fun τ hm1 => ⟨τ, r2 τ hm1.2.2.2.1, sM_refl⟩)
  by_cases q1 : isI (S 2) a = 0
  · exact refuse (fun τ hr => by unfold F_X11_pitch; rw [X_hasTent hr, Option.bind_some, if_pos q1]) (fun τ hr => by unfold F_X12_pitch; rw [M_isTent hr, Option.bind_some, if_pos q1])
  by_cases q2 : isI (S 1 * S 1) b = 0
  · refine refuse (fun τ hr => ?_) (fun τ hr => ?_)
    · unfold F_X11_pitch; rw [X_hasTent hr, Option.bind_some, if_neg q1, X_hasCell hr, Option.bind_some, if_pos q2]
    · unfold F_X12_pitch; rw [M_isTent hr, Option.bind_some, if_neg q1, M_isCell hr, Option.bind_some, if_pos q2]
  obtain ⟨t, ht, e1⟩ := isI_of (by omega) q1
  obtain ⟨c, hcc, e2⟩ := isI_of (by omega) q2
  subst e1
  subst e2
  have hc : okC S := okC_of g3 (fun w => by rw [w] at hcc; omega)
  obtain ⟨c0, cw, cb, c10, c178, cnt, chi⟩ := id hc
  have hcl := (cw.2.2.2.2.1 t ht).1
  by_cases q3 : S (13 + 4 * t) = c
  · refine refuse (fun τ hr => ?_) (fun τ hr => ?_)
    · unfold F_X11_pitch
      rw [X_hasTent hr, Option.bind_some, if_neg q1, X_hasCell hr, Option.bind_some, if_neg q2, nI_clamp (by omega), if_pos ⟨nI_pos' (by omega), by omega⟩]
      show (if τ.1 26 t = nI c then _ else _) = _
      rw [(RX_tent hr ht).1, if_pos (by rw [q3])]
    · unfold F_X12_pitch
      rw [M_isTent hr, Option.bind_some, if_neg q1, M_isCell hr, Option.bind_some, if_neg q2, M_cellOf hr (by omega), Option.bind_some, if_pos (by rw [q3])]
  have hl : lk S (un S (13 + 4 * t) c) := fun j hj => un_ne _ _ (by omega)
  have hw' : okW (un S (13 + 4 * t) c) (S 10 + 2) := by
    obtain ⟨w1, w2, w3, w4, w5, w6, w7, w8⟩ := cw
    have e : ∀ j, j ≠ 13 + 4 * t → un S (13 + 4 * t) c j = S j := fun j hj => un_ne _ _ hj
    refine ⟨by rw [e 1 (by omega)]; exact w1, by rw [e 1 (by omega)]; exact w2, by rw [e 2 (by omega)]; exact w3, by rw [e 11 (by omega), e 1 (by omega)]; exact w4, fun u hu => ?_, by rw [e 12 (by omega), e 2 (by omega)]; exact w6, fun y hy => by rw [e _ (by omega), e _ (by omega)]; exact w7 y hy, by rw [e 10 (by omega)]; exact w8⟩
    rw [e 2 (by omega)] at hu
    rw [e 1 (by omega), e 2 (by omega), e (13 + 4 * u + 1) (by omega), e (13 + 4 * u + 2) (by omega), e (13 + 4 * u + 3) (by omega)]
    refine ⟨?_, (w5 u hu).2⟩
    by_cases eu : u = t
    · subst eu; rw [un_eq]; exact hcc
    · rw [e _ (by omega)]; exact (w5 u hu).1
  have s10 : un S (13 + 4 * t) c 10 = S 10 := un_ne _ _ (by omega)
  refine K_act hg hx hm hc (okC_lk hc hl (by rw [s10]; exact hw') (by rw [s10]; exact c10)) hl (nI (S (13 + 4 * t))) ?_ ?_
  · obtain ⟨τ, a1, a2, a3, a4⟩ := O_pitch_X (n := n) (by omega) cw hR hx.2.2.2.2.1 ht hcc q3
    have fr := fr_agr a4 (keep_T hx.2.2.2.2.1.2.1 (by omega))
    exact ⟨τ, a1, a2, a3, fr.1, fr.2.1, fr.2.2⟩
  · intro τ hm1
    obtain ⟨υ, b1, b2, b3, b4⟩ := O_pitch_M (n := n) hn cw hm1.2.2.2.1 hm1.2.2.2.2.2.2.1 ht hcc q3
    exact ⟨υ, _, _, b1, b2, b3, b4, by decide, by decide⟩
theorem K_steady (hn : 3000 ≤ n) (a b : Int32) (hi : Inv σ) : Kok (F_X11_steady n a b) (F_X12_steady n a b) σ := by
  obtain ⟨B, sz, z, cs, S, h, p, H, fo, x, im, hg, hx, hm⟩ := hi
  have g3 := hg.2.2.1
  have hR := hx.2.2.2.1.1
  have o2 := okS_2 g3
  have refuse : (∀ τ, RX τ 25 S → F_X11_steady n a b τ = some (-1, τ)) → (∀ τ, rowN τ 259 S → F_X12_steady n a b τ = some (-1, τ)) → Kok (F_X11_steady n a b) (F_X12_steady n a b) σ := fun r1 r2 => K_ask hg hx hm (-1) ⟨σ, r1 σ hR, sX_refl⟩ (fun τ hm1 => ⟨τ, r2 τ hm1.2.2.2.1, sM_refl⟩)
  by_cases q1 : isI (S 2) a = 0
  · exact refuse (fun τ hr => by unfold F_X11_steady; rw [X_hasTent hr, Option.bind_some, if_pos q1]) (fun τ hr => by unfold F_X12_steady; rw [M_isTent hr, Option.bind_some, if_pos q1])
  by_cases q0 : b < 0
  · refine refuse (fun τ hr => ?_) (fun τ hr => ?_)
    · unfold F_X11_steady
      have : b < (1 : Int32) := by
        have h1 : b.toInt < (0 : Int32).toInt := Int32.lt_iff_toInt_lt.mp q0
        have h2 : (0 : Int32).toInt = 0 := by decide
        have h3 : (1 : Int32).toInt = 1 := by decide
        rw [Int32.lt_iff_toInt_lt]; omega
      rw [X_hasTent hr, Option.bind_some, if_neg q1, if_pos this]
    · unfold F_X12_steady
      rw [M_isTent hr, Option.bind_some, if_neg q1, show (1 : Int64) = lN 1 from rfl, show (9 : Int64) = lN 9 from rfl, M_in_neg q0 (by decide), Option.bind_some, if_pos rfl]
  obtain ⟨m, hm31, e2⟩ := nI_of q0
  subst e2
  by_cases q2 : 1 ≤ m ∧ m ≤ 9
  · obtain ⟨t, ht, e1⟩ := isI_of (by omega) q1
    subst e1
    have hc : okC S := by
      rcases g3 with w | w
      · rw [w 2] at ht; omega
      · exact w
    obtain ⟨c0, cw, cb, c10, c178, cnt, chi⟩ := id hc
    have t6 : t < 6 := by have := cw.2.2.1; omega
    generalize hv : min (S (13 + 4 * t + 1) + m) 99 = v
    have hv99 : v ≤ 99 := by omega
    have hl : lk S (un S (13 + 4 * t + 1) v) := fun j hj => un_ne _ _ (by omega)
    have hw' : okW (un S (13 + 4 * t + 1) v) (S 10 + 2) := by
      obtain ⟨w1, w2, w3, w4, w5, w6, w7, w8⟩ := cw
      have e : ∀ j, j ≠ 13 + 4 * t + 1 → un S (13 + 4 * t + 1) v j = S j := fun j hj => un_ne _ _ hj
      refine ⟨by rw [e 1 (by omega)]; exact w1, by rw [e 1 (by omega)]; exact w2, by rw [e 2 (by omega)]; exact w3, by rw [e 11 (by omega), e 1 (by omega)]; exact w4, fun u hu => ?_, by rw [e 12 (by omega), e 2 (by omega)]; exact w6, fun y hy => by rw [e _ (by omega), e _ (by omega)]; exact w7 y hy, by rw [e 10 (by omega)]; exact w8⟩
      rw [e 2 (by omega)] at hu
      rw [e 1 (by omega), e 2 (by omega), e (13 + 4 * u) (by omega), e (13 + 4 * u + 2) (by omega), e (13 + 4 * u + 3) (by omega)]
      refine ⟨(w5 u hu).1, ?_, (w5 u hu).2.2⟩
      by_cases eu : u = t
      · subst eu; rw [un_eq]; exact hv99
      · rw [e _ (by omega)]; exact (w5 u hu).2.1
    have s10 : un S (13 + 4 * t + 1) v 10 = S 10 := un_ne _ _ (by omega)
    refine K_act hg hx hm hc (okC_lk hc hl (by rw [s10]; exact hw') (by rw [s10]; exact c10)) hl (nI v) ?_ ?_
    · obtain ⟨τ, a1, a2, a3, a4⟩ := O_steady_X (n := n) (by omega) cw hR hx.2.2.2.2.1 ht q2.1 q2.2
      rw [hv] at a1 a2
      have fr := fr_agr a4 (keep_T hx.2.2.2.2.1.2.1 (by omega))
      exact ⟨τ, a1, a2, a3, fr.1, fr.2.1, fr.2.2⟩
    · intro τ hm1
      obtain ⟨υ, b1, b2, b3, b4⟩ := O_steady_M (n := n) hn cw hm1.2.2.2.1 hm1.2.2.2.2.2.2.1 ht q2.1 q2.2
      rw [hv] at b1 b2
      exact ⟨υ, _, _, b1, b2, b3, b4, by decide, by decide⟩
  · refine refuse (fun τ hr => ?_) (fun τ hr => ?_)
    · unfold F_X11_steady
      rw [X_hasTent hr, Option.bind_some, if_neg q1]
      by_cases w : m < 1
      · rw [if_pos (show nI m < (1 : Int32) from nI_lt (show m < 1 from w) (by decide))]
      · rw [if_neg (show ¬ nI m < (1 : Int32) from nI_nlt (show 1 ≤ m by omega) hm31), if_neg (show ¬ nI m ≤ (9 : Int32) from nI_ge (show 9 < m by omega) hm31)]
    · unfold F_X12_steady
      rw [M_isTent hr, Option.bind_some, if_neg q1, show (1 : Int64) = lN 1 from rfl, show (9 : Int64) = lN 9 from rfl, M_in hm31 (by decide) (by decide), Option.bind_some, if_neg q2, if_pos rfl]
theorem K_bush (hn : 3000 ≤ n) (a : Int32) (hi : Inv σ) : Kok (F_X11_bush n a) (F_X12_bush n a) σ := by
  obtain ⟨B, sz, z, cs, S, h, p, H, fo, x, im, hg, hx, hm⟩ := hi
  have g3 := hg.2.2.1
  have hR := hx.2.2.2.1.1
  have o2 := okS_2 g3
  by_cases q2 : isI (S 1 * S 1) a = 0
  · refine K_ask hg hx hm (-1) ⟨σ, ?_, sX_refl⟩ (fun τ hm1 => ⟨τ, ?_, sM_refl⟩)
    · unfold F_X11_bush; rw [X_hasCell hR, Option.bind_some, if_pos q2]
    · unfold F_X12_bush; rw [M_isCell hm1.2.2.2.1, Option.bind_some, if_pos q2]
  obtain ⟨c, hcc, e2⟩ := isI_of (by omega) q2
  subst e2
  have hc : okC S := okC_of g3 (fun w => by rw [w] at hcc; omega)
  obtain ⟨c0, cw, cb, c10, c178, cnt, chi⟩ := id hc
  have hl : lk S (un S (37 + c) (1 - S (37 + c))) := fun j hj => un_ne _ _ (by omega)
  have hw' : okW (un S (37 + c) (1 - S (37 + c))) (S 10 + 2) := by
    obtain ⟨w1, w2, w3, w4, w5, w6, w7, w8⟩ := cw
    have e : ∀ j, j ≠ 37 + c → un S (37 + c) (1 - S (37 + c)) j = S j := fun j hj => un_ne _ _ hj
    refine ⟨by rw [e 1 (by omega)]; exact w1, by rw [e 1 (by omega)]; exact w2, by rw [e 2 (by omega)]; exact w3, by rw [e 11 (by omega), e 1 (by omega)]; exact w4, fun u hu => ?_, by rw [e 12 (by omega), e 2 (by omega)]; exact w6, fun y hy => ?_, by rw [e 10 (by omega)]; exact w8⟩
    · rw [e 2 (by omega)] at hu
      rw [e 1 (by omega), e 2 (by omega), e (13 + 4 * u) (by omega), e (13 + 4 * u + 1) (by omega), e (13 + 4 * u + 2) (by omega), e (13 + 4 * u + 3) (by omega)]
      exact w5 u hu
    · rw [e (73 + y) (by omega)]
      refine ⟨?_, (w7 y hy).2⟩
      by_cases ey : y = c
      · subst ey; rw [un_eq]; omega
      · rw [e _ (by omega)]; exact (w7 y hy).1
  have s10 : un S (37 + c) (1 - S (37 + c)) 10 = S 10 := un_ne _ _ (by omega)
  refine K_act hg hx hm hc (okC_lk hc hl (by rw [s10]; exact hw') (by rw [s10]; exact c10)) hl (nI (1 - S (37 + c))) ?_ ?_
  · obtain ⟨τ, a1, a2, a3, a4⟩ := O_bush_X (n := n) (by omega) cw hR hx.2.2.2.2.1 hcc
    have fr := fr_agr a4 (keep_T hx.2.2.2.2.1.2.1 (by omega))
    exact ⟨τ, a1, a2, a3, fr.1, fr.2.1, fr.2.2⟩
  · intro τ hm1
    obtain ⟨υ, b1, b2, b3, b4⟩ := O_bush_M (n := n) hn cw hm1.2.2.2.1 hm1.2.2.2.2.2.2.1 hcc
    exact ⟨υ, _, _, b1, b2, b3, b4, by decide, by decide⟩
theorem K_undo (hn : 3000 ≤ n) (hi : Inv σ) : Kok (F_X11_undo n) (F_X12_undo n) σ := by
  obtain ⟨B, sz, z, cs, S, h, p, H, fo, x, im, hg, hx, hm⟩ := hi
  obtain ⟨g1, g2, g3, g4, g5, g6, g7, g8⟩ := id hg
  by_cases q : h = 0
  · exact K_ask hg hx hm (-1) ⟨σ, O_undo0_X hx.2.2.2.2.1 q, sX_refl⟩ (fun τ hm1 => ⟨τ, O_undo0_M hm1.2.2.2.2.2.2.1 q, sM_refl⟩)
  have hc : okC S := by
    rcases g3 with w | w
    · have := g6 q; rw [w 0] at this; omega
    · exact w
  obtain ⟨l1, l2, l3⟩ := g7 (h - 1) (by omega)
  have hc' : okC (H (h - 1)) := okC_lk hc l1 l2 l3
  refine K_do (S' := H (h - 1)) (h' := h - 1) (p' := (p + 19) % 20) (H' := H) (B' := B) (sz' := sz) (z' := z) (cs' := cs) (fo' := fo) (x' := x) (im' := im) ⟨g1, g2, Or.inr hc', g4, g5, fun _ => hc'.1, fun j hj => ⟨lk_trans (lk_symm l1) (g7 j (by omega)).1, (g7 j (by omega)).2⟩, g8⟩ hm (nI (h - 1)) ?_ ?_
  · obtain ⟨τ, a1, a2, a3, a4⟩ := O_undo_X (n := n) (by omega) hx.2.2.2.2.1 q l2.2.2.1
    have fr := fr_agr a4 (fun j hj => by simp at hj; omega)
    exact ⟨τ, a1, IX_act hx g2 l1 a2 a3 fr.1 fr.2.1, fr.2.2⟩
  · intro τ hm1
    obtain ⟨υ, b1, b2, b3, b4⟩ := M_undo (n := n) hn hm1.2.2.2.1 hm1.2.2.2.2.2.2.1 q l1
    have := IM_act hm1 b4 b2 b3 (by decide) (by decide)
    exact ⟨υ, b1, this.1, this.2⟩
end K2
