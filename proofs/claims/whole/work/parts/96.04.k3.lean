/-! The calls note, image, back: both sides alike. -/
section K3
variable {B : Nat → Int32} {sz z h p : Nat} {cs : Nat → List CL} {S S' : Nat → Nat} {H : Nat → Nat → Nat} {fo x : Int32} {im : Nat → Option IMG} {σ τ : PS} {n : Nat}
/-- the kept acts with other notes -/
def laH (S' : Nat → Nat) (H : Nat → Nat → Nat) : Nat → Nat → Nat := fun j => lay S' (fun k => H j (10 + k))
theorem laH_mid {j i : Nat} (h1 : 10 ≤ i) (h2 : i < 109) : laH S' H j i = H j i := by
  unfold laH lay
  rw [if_pos ⟨h1, h2⟩]
  show H j (10 + (i - 10)) = H j i
  rw [show 10 + (i - 10) = i by omega]
theorem laH_out {j i : Nat} (h1 : i < 10 ∨ 109 ≤ i) : laH S' H j i = S' i := by
  unfold laH lay
  rw [if_neg (by omega)]
theorem laH_lk (S' : Nat → Nat) (H : Nat → Nat → Nat) (j : Nat) : lk S' (laH S' H j) := fun i hi => laH_out hi
theorem laH_same {j : Nat} (hl : lk S (H j)) (e : ∀ i, i < 109 → S' i = S i) : ∀ i, i < 109 → laH S' H j i = H j i := by
  intro i hi
  by_cases q : 10 ≤ i
  · exact laH_mid q hi
  · rw [laH_out (by omega), e i hi, hl i (by omega)]
theorem okW_ext {S T : Nat → Nat} {b : Nat} (hw : okW S b) (e : ∀ i, i < 109 → T i = S i) : okW T b := by
  obtain ⟨w1, w2, w3, w4, w5, w6, w7, w8⟩ := hw
  refine ⟨by rw [e 1 (by decide)]; exact w1, by rw [e 1 (by decide)]; exact w2, by rw [e 2 (by decide)]; exact w3, by rw [e 11 (by decide), e 1 (by decide)]; exact w4, fun u hu => ?_, by rw [e 12 (by decide), e 2 (by decide)]; exact w6, fun y hy => by rw [e _ (by omega), e _ (by omega)]; exact w7 y hy, by rw [e 10 (by decide)]; exact w8⟩
  rw [e 2 (by decide)] at hu
  rw [e 1 (by decide), e 2 (by decide), e _ (by omega), e _ (by omega), e _ (by omega), e _ (by omega)]
  exact w5 u hu
theorem hX_note (hh : hX σ h p H) (g7 : ∀ j, j < h → lk S (H j) ∧ okW (H j) (H j 10 + 2) ∧ H j 10 ≤ 999) (e : ∀ i, i < 109 → S' i = S i) : hX σ h p (laH S' H) := by
  obtain ⟨a, b, c, d, f⟩ := hh
  refine ⟨a, b, c, d, fun k hk => ?_⟩
  obtain ⟨l1, l2, l3⟩ := g7 (h - 1 - k) (by omega)
  exact RX_ext (f k hk) (okW_36 l2) l2.2.2.1 (laH_same l1 e)
theorem hM_note (hh : hM σ h H) : hM σ h (laH S' H) := by
  obtain ⟨a, b, c⟩ := hh
  refine ⟨a, b, fun j hj k hk => ?_⟩
  rw [laH_mid (by omega) (by omega)]
  exact c j hj k hk
theorem okG_note (hg : okG B z S h H fo x im) (hc' : okS S') (e : ∀ i, i < 158 → S' i = S i) : okG B z S' h (laH S' H) fo x im := by
  obtain ⟨g1, g2, g3, g4, g5, g6, g7, g8⟩ := hg
  refine ⟨g1, g2, hc', g4, g5, fun q => by rw [e 0 (by decide)]; exact g6 q, fun j hj => ?_, g8⟩
  obtain ⟨l1, l2, l3⟩ := g7 j hj
  have e2 := laH_same (S' := S') l1 (fun i hi => e i (by omega))
  exact ⟨laH_lk S' H j, by rw [e2 10 (by decide)]; exact okW_ext l2 e2, by rw [e2 10 (by decide)]; exact l3⟩
theorem begS_158 (e : ∀ i, i < 158 → S' i = S i) : ∀ j, j < 109 → begS S' j = begS S j := by
  intro j hj
  unfold begS
  by_cases h1 : j < 10
  · rw [if_pos h1, if_pos h1]; exact e j (by omega)
  rw [if_neg h1, if_neg h1, e 109 (by decide)]
  by_cases h5 : j < 37
  · rw [if_pos h5, if_pos h5, e (110 + (j - 13) / 4) (by omega), e (116 + (j - 13) / 4) (by omega)]
  rw [if_neg h5, if_neg h5]
  by_cases h6 : j < 73
  · rw [if_pos h6, if_pos h6, e (122 + (j - 37)) (by omega)]
  rw [if_neg h6, if_neg h6, if_pos hj, if_pos hj]
theorem K_note (hn : 3000 ≤ n) (a b : Int32) (hi : Inv σ) : Kok (F_X11_note n a b) (F_X12_note n a b) σ := by
  obtain ⟨B, sz, z, cs, S, h, p, H, fo, x, im, hg, hx, hm⟩ := hi
  obtain ⟨g1, g2, g3, g4, g5, g6, g7, g8⟩ := id hg
  have hR := hx.2.2.2.1.1
  have o2 := okS_2 g3
  -- the state with other notes
  have build : ∀ (S' : Nat → Nat) (v : Int32) (τ : PS), okS S' → (∀ i, i < 158 → S' i = S i) → F_X11_note n a b σ = some (v, τ) → agr [18, 31, 32] σ τ → τ.1 18 4 = nI (S' 178) → (∀ k, k ≠ 4 → τ.1 18 k = σ.1 18 k) → (∀ j, j < S' 178 → τ.1 31 j = nI (S' (158 + 2 * j)) ∧ τ.1 32 j = nI (S' (158 + 2 * j + 1))) → (∀ τ1, rowN τ1 259 S → ∃ υ, F_X12_note n a b τ1 = some (v, υ) ∧ rowN υ 259 S' ∧ agr [259] τ1 υ) → Kok (F_X11_note n a b) (F_X12_note n a b) σ := by
    intro S' v τ hc' e a1 ag f4 fk nt m1
    refine K_do (B' := B) (sz' := sz) (z' := z) (cs' := cs) (S' := S') (h' := h) (p' := p) (H' := laH S' H) (fo' := fo) (x' := x) (im' := im) (okG_note hg hc' e) hm v ?_ ?_
    · obtain ⟨i1, i2, i3, i4, i5, i6⟩ := hx
      have o2' := okS_2 g3
      have ob : begS S 1 * begS S 1 ≤ 36 ∧ begS S 2 ≤ 6 := by rw [begS_lo _ (by decide), begS_lo _ (by decide)]; exact ⟨o2'.2, o2'.1⟩
      refine ⟨τ, a1, ⟨⟨by rw [(ag 2 (by decide)).1]; exact i1.1, by rw [(ag 1 (by decide)).1]; exact i1.2.1, i1.2.2⟩, by rw [(ag 7 (by decide)).1]; exact i2, st_agr i3 g2 (fun j h1 h2 => (ag j (by simp; omega)).1), ⟨RX_ext (RX_agr i4.1 ag (by decide)) o2'.2 o2'.1 (fun i hi => e i (by omega)), RX_ext (RX_agr i4.2.1 ag (by decide)) ob.1 ob.2 (begS_158 e), f4, by rw [fk 5 (by decide)]; exact i4.2.2.2.1, by rw [fk 6 (by decide)]; exact i4.2.2.2.2.1, nt⟩, hX_note (hX_rows i5 (fun j h1 h2 => ag j (by simp; omega))) g7 (fun i hi => e i (by omega)), imX_rows i6 (fun j h1 h2 => ag j (by simp; omega))⟩, hiA_agr ag (by decide)⟩
    · intro τ1 hm1
      obtain ⟨υ, b1, b2, b3⟩ := m1 τ1 hm1.2.2.2.1
      have b4 : agm [259] [] τ1 υ := agm_of b3 (by decide)
      have := IM_act hm1 b4 b2 (hM_note (S' := S') (hM_agm hm1.2.2.2.2.2.2.1 b4 (by simp) (by decide))) (by decide) (by simp)
      exact ⟨υ, b1, this.1, this.2⟩
  by_cases q1 : a = -1
  · -- all notes go
    have hc' : okS (un S 178 0) := by
      rcases g3 with w | w
      · exact Or.inl (fun i => by
          by_cases e : i = 178
          · rw [e, un_eq]
          · rw [un_ne _ _ e]; exact w i)
      · obtain ⟨c0, cw, cb, c10, c178, cnt, chi⟩ := w
        refine Or.inr ⟨by rw [un_ne _ _ (by decide)]; exact c0, ?_, ?_, by rw [un_ne _ _ (by decide)]; exact c10, by rw [un_eq]; omega, fun j hj => by rw [un_eq] at hj; omega, fun y hy => by rw [un_ne _ _ (by omega)]; exact chi y hy⟩
        · rw [un_ne _ _ (by decide)]; exact okW_ext cw (fun i hi => un_ne _ _ (by omega))
        · exact okW_ext cb (begS_158 (fun i hi => un_ne _ _ (by omega)))
    refine build (un S 178 0) 0 (psI σ 18 4 0) hc' (fun i hi => un_ne _ _ (by omega)) ?_ (agr_psI (by simp)) (by rw [psI_eq, if_pos rfl, un_eq]; rfl) (fun k hk => by rw [psI_eq, if_neg hk]) (fun j hj => by rw [un_eq] at hj; omega) (fun τ1 hS => ⟨psI τ1 259 178 0, ?_, rowN_set hS, agr_psI (by simp)⟩)
    · unfold F_X11_note; rw [if_pos q1]
    · unfold F_X12_note; rw [if_pos q1]
  have refuse : (∀ τ, RX τ 25 S → τ.1 18 4 = nI (S 178) → F_X11_note n a b τ = some (-2, τ)) → (∀ τ, rowN τ 259 S → F_X12_note n a b τ = some (-2, τ)) → Kok (F_X11_note n a b) (F_X12_note n a b) σ := fun r1 r2 => K_ask hg hx hm (-2) ⟨σ, r1 σ hR hx.2.2.2.1.2.2.1, sX_refl⟩ (fun τ hm1 => ⟨τ, r2 τ hm1.2.2.2.1, sM_refl⟩)
  by_cases q0 : a < 0
  · refine refuse (fun τ hr _ => ?_) (fun τ hr => ?_)
    · unfold F_X11_note; rw [if_neg q1, if_pos q0]
    · unfold F_X12_note; rw [if_neg q1, show (0 : Int64) = lN 0 from rfl, show (60 : Int64) = lN 60 from rfl, M_in_neg q0 (by decide), Option.bind_some, if_pos rfl]
  obtain ⟨k, hk31, ek⟩ := nI_of q0
  subst ek
  by_cases q6 : 60 < k
  · refine refuse (fun τ hr _ => ?_) (fun τ hr => ?_)
    · unfold F_X11_note; rw [if_neg q1, if_neg q0, if_pos (show (60 : Int32) < nI k from nI_lt (show 60 < k from q6) hk31)]
    · unfold F_X12_note; rw [if_neg q1, show (0 : Int64) = lN 0 from rfl, show (60 : Int64) = lN 60 from rfl, M_in hk31 (by decide) (by decide), Option.bind_some, if_neg (show ¬ (0 ≤ k ∧ k ≤ 60) by omega), if_pos rfl]
  by_cases q2 : isI (S 1 * S 1) b = 0
  · refine refuse (fun τ hr _ => ?_) (fun τ hr => ?_)
    · unfold F_X11_note; rw [if_neg q1, if_neg q0, if_neg (show ¬ (60 : Int32) < nI k from nI_nlt (show k ≤ 60 by omega) (by decide)), X_hasCell hr, Option.bind_some, if_pos q2]
    · unfold F_X12_note; rw [if_neg q1, show (0 : Int64) = lN 0 from rfl, show (60 : Int64) = lN 60 from rfl, M_in hk31 (by decide) (by decide), Option.bind_some, if_pos (show 0 ≤ k ∧ k ≤ 60 by omega), if_neg ne10, M_isCell hr, Option.bind_some, if_pos q2]
  obtain ⟨c, hcc, ec⟩ := isI_of (by omega) q2
  subst ec
  have hc : okC S := okC_of g3 (fun w => by rw [w] at hcc; omega)
  obtain ⟨c0, cw, cb, c10, c178, cnt, chi⟩ := id hc
  by_cases q10 : S 178 = 10
  · refine refuse (fun τ hr h4 => ?_) (fun τ hr => ?_)
    · unfold F_X11_note
      rw [if_neg q1, if_neg q0, if_neg (show ¬ (60 : Int32) < nI k from nI_nlt (show k ≤ 60 by omega) (by decide)), X_hasCell hr, Option.bind_some, if_neg q2]
      unfold F_X6_writeDown
      show (if τ.1 18 4 < (10 : Int32) then _ else some ((0 : Int32), τ)).bind _ = _
      rw [h4, q10, if_neg (by decide), Option.bind_some, if_pos rfl]
    · unfold F_X12_note
      rw [if_neg q1, show (0 : Int64) = lN 0 from rfl, show (60 : Int64) = lN 60 from rfl, M_in hk31 (by decide) (by decide), Option.bind_some, if_pos (show 0 ≤ k ∧ k ≤ 60 by omega), if_neg ne10, M_isCell hr, Option.bind_some, if_neg q2]
      show (if τ.1 259 178 = (10 : Int32) then some ((-2 : Int32), τ) else _) = _
      rw [rowN_get hr, q10, if_pos (show nI 10 = (10 : Int32) from rfl)]
  generalize hmm : S 178 = m at *
  have hm9 : m ≤ 9 := by omega
  generalize hS' : un (un (un S (158 + 2 * m) k) (158 + 2 * m + 1) c) 178 (m + 1) = S'
  have e158 : ∀ i, i < 158 → S' i = S i := fun i hi => by rw [← hS', un_ne _ _ (by omega), un_ne _ _ (by omega), un_ne _ _ (by omega)]
  have s178 : S' 178 = m + 1 := by rw [← hS', un_eq]
  have nt : ∀ j, j < m + 1 → S' (158 + 2 * j) = (if j = m then k else S (158 + 2 * j)) ∧ S' (158 + 2 * j + 1) = (if j = m then c else S (158 + 2 * j + 1)) := by
    intro j hj
    rw [← hS']
    by_cases ej : j = m
    · subst ej
      rw [if_pos rfl, if_pos rfl, un_ne _ _ (by omega), un_ne _ _ (by omega), un_eq, un_ne _ _ (by omega), un_eq]
      exact ⟨rfl, rfl⟩
    · rw [if_neg ej, if_neg ej, un_ne _ _ (by omega), un_ne _ _ (by omega), un_ne _ _ (by omega), un_ne _ _ (by omega), un_ne _ _ (by omega), un_ne _ _ (by omega)]
      exact ⟨rfl, rfl⟩
  have hc' : okS S' := by
    refine Or.inr ⟨by rw [e158 0 (by decide)]; exact c0, by rw [e158 10 (by decide)]; exact okW_ext cw (fun i hi => e158 i (by omega)), okW_ext cb (begS_158 e158), by rw [e158 10 (by decide)]; exact c10, by rw [s178]; omega, fun j hj => ?_, fun y hy => ?_⟩
    · rw [s178] at hj
      rw [(nt j hj).1, (nt j hj).2, e158 1 (by decide)]
      by_cases ej : j = m
      · rw [if_pos ej, if_pos ej]; exact ⟨by omega, hcc⟩
      · rw [if_neg ej, if_neg ej]; exact cnt j (by omega)
    · rw [← hS', un_ne _ _ (by omega), un_ne _ _ (by omega), un_ne _ _ (by omega)]; exact chi y hy
  have h184 : σ.1 18 4 = nI m := by rw [hx.2.2.2.1.2.2.1, hmm]
  have e1 : (psI σ 31 m (nI k)).1 18 4 = nI m := by rw [psI_other (by decide)]; exact h184
  have e2 : (psI (psI σ 31 m (nI k)) 32 m (nI c)).1 18 4 = nI m := by rw [psI_other (by decide)]; exact e1
  have hwd : F_X6_writeDown n 18 (nI k) (nI c) σ = some (1, psI (psI (psI σ 31 m (nI k)) 32 m (nI c)) 18 4 (nI (m + 1))) := by
    unfold F_X6_writeDown
    show (if σ.1 18 4 < (10 : Int32) then (if 0 ≤ (σ.1 18 4) ∧ (σ.1 18 4).toNatClampNeg < 10 then (if 0 ≤ ((psI σ 31 ((σ.1 18 4).toNatClampNeg) (nI k)).1 18 4) ∧ ((psI σ 31 ((σ.1 18 4).toNatClampNeg) (nI k)).1 18 4).toNatClampNeg < 10 then some ((1 : Int32), psI (psI (psI σ 31 ((σ.1 18 4).toNatClampNeg) (nI k)) 32 (((psI σ 31 ((σ.1 18 4).toNatClampNeg) (nI k)).1 18 4).toNatClampNeg) (nI c)) 18 4 (((psI (psI σ 31 ((σ.1 18 4).toNatClampNeg) (nI k)) 32 (((psI σ 31 ((σ.1 18 4).toNatClampNeg) (nI k)).1 18 4).toNatClampNeg) (nI c)).1 18 4) + (1 : Int32))) else none) else none) else _) = _
    rw [h184, nI_clamp (by omega), e1, nI_clamp (by omega), e2, nI_p1, if_pos (show nI m < (10 : Int32) from nI_lt (show m < 10 by omega) (by decide)), if_pos ⟨nI_pos' (by omega), by omega⟩, if_pos ⟨nI_pos' (by omega), by omega⟩]
  refine build S' (nI (m + 1)) (psI (psI (psI σ 31 m (nI k)) 32 m (nI c)) 18 4 (nI (m + 1))) hc' e158 ?_ (agr_trans (agr_psI (by simp)) (agr_trans (agr_psI (by simp)) (agr_psI (by simp)))) (by rw [psI_eq, if_pos rfl, s178]) (fun i hi => by rw [psI_eq, if_neg hi, psI_other (by decide), psI_other (by decide)]) (fun j hj => ?_) (fun τ1 hS => ?_)
  · unfold F_X11_note
    rw [if_neg q1, if_neg q0, if_neg (show ¬ (60 : Int32) < nI k from nI_nlt (show k ≤ 60 by omega) (by decide)), X_hasCell hR, Option.bind_some, if_neg q2]
    show (F_X6_writeDown n 18 (nI k) (nI c) σ).bind _ = _
    rw [hwd, Option.bind_some, if_neg ne10]
    show some ((psI (psI (psI σ 31 m (nI k)) 32 m (nI c)) 18 4 (nI (m + 1))).1 18 4, _) = _
    rw [psI_eq, if_pos rfl]
  · rw [s178] at hj
    have e31 : (psI (psI (psI σ 31 m (nI k)) 32 m (nI c)) 18 4 (nI (m + 1))).1 31 j = if j = m then nI k else σ.1 31 j := by rw [psI_other (by decide), psI_other (by decide), psI_eq]
    have e32 : (psI (psI (psI σ 31 m (nI k)) 32 m (nI c)) 18 4 (nI (m + 1))).1 32 j = if j = m then nI c else σ.1 32 j := by rw [psI_other (by decide), psI_eq, psI_other (by decide)]
    rw [(nt j hj).1, (nt j hj).2, e31, e32]
    by_cases ej : j = m
    · rw [if_pos ej, if_pos ej, if_pos ej, if_pos ej]; exact ⟨rfl, rfl⟩
    · rw [if_neg ej, if_neg ej, if_neg ej, if_neg ej]
      exact hx.2.2.2.1.2.2.2.2.2 j (by omega)
  · have r178 : τ1.1 259 178 = nI m := by rw [rowN_get hS, hmm]
    have ea : (158 : Int32) + (2 : Int32) * nI m = nI (158 + 2 * m) := by
      show nI 158 + nI 2 * nI m = _
      rw [nI_mul, nI_add]
    have eb : nI (158 + 2 * m) + (1 : Int32) = nI (158 + 2 * m + 1) := nI_add _ 1
    have r2 : (psI (psI τ1 259 (158 + 2 * m) (nI k)) 259 (158 + 2 * m + 1) (nI c)).1 259 178 = nI m := by rw [psI_eq, if_neg (by omega), psI_eq, if_neg (by omega)]; exact r178
    refine ⟨psI (psI (psI τ1 259 (158 + 2 * m) (nI k)) 259 (158 + 2 * m + 1) (nI c)) 259 178 (nI (m + 1)), ?_, ?_, agr_trans (agr_psI (by simp)) (agr_trans (agr_psI (by simp)) (agr_psI (by simp)))⟩
    · unfold F_X12_note
      rw [if_neg q1, show (0 : Int64) = lN 0 from rfl, show (60 : Int64) = lN 60 from rfl, M_in hk31 (by decide) (by decide), Option.bind_some, if_pos (show 0 ≤ k ∧ k ≤ 60 by omega), if_neg ne10, M_isCell hS, Option.bind_some, if_neg q2]
      simp only [r178, ea, eb, nI_clamp (show 158 + 2 * m < 2 ^ 31 by omega), nI_clamp (show 158 + 2 * m + 1 < 2 ^ 31 by omega), r2, nI_p1]
      rw [if_neg (show ¬ nI m = (10 : Int32) from fun w => by have := nI_inj (b := 10) (by omega) (by decide) w; omega), if_pos ⟨nI_pos' (by omega), by omega⟩, if_pos ⟨nI_pos' (by omega), by omega⟩, psI_eq, if_pos rfl]
    · rw [← hS']
      exact rowN_set (rowN_set (rowN_set hS))
end K3
