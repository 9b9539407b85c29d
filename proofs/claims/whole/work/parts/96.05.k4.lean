/-! The calls image and back; both sides alike. -/
section K4
variable {B : Nat → Int32} {sz z h p : Nat} {cs : Nat → List CL} {S S' : Nat → Nat} {H : Nat → Nat → Nat} {fo x : Int32} {im : Nat → Option IMG} {σ τ : PS} {n : Nat}
/-- an argument in its bounds, or not -/
theorem rng (a : Int32) (lo hi : Nat) (hlo : lo < 2 ^ 31) : (∃ k, lo ≤ k ∧ k ≤ hi ∧ k < 2 ^ 31 ∧ a = nI k) ∨ (a < nI lo ∨ (¬ a < 0 ∧ nI hi < a ∧ ∃ k, k < 2 ^ 31 ∧ hi < k ∧ a = nI k)) ∨ 2 ^ 31 ≤ hi := by
  by_cases hh : hi < 2 ^ 31
  · by_cases q0 : a < 0
    · refine Or.inr (Or.inl (Or.inl ?_))
      have h1 : a.toInt < (0 : Int32).toInt := Int32.lt_iff_toInt_lt.mp q0
      have h2 : (0 : Int32).toInt = 0 := by decide
      rw [Int32.lt_iff_toInt_lt, nI_toInt hlo]; omega
    · obtain ⟨k, hk, e⟩ := nI_of q0
      subst e
      by_cases q1 : k < lo
      · exact Or.inr (Or.inl (Or.inl (nI_lt q1 hlo)))
      · by_cases q2 : hi < k
        · exact Or.inr (Or.inl (Or.inr ⟨q0, nI_lt q2 hk, k, hk, q2, rfl⟩))
        · exact Or.inl ⟨k, by omega, by omega, hk, rfl⟩
  · exact Or.inr (Or.inr (by omega))
theorem M_in_out {a : Int32} {lo hi : Nat} (hlo : lo < 2 ^ 31) (hhi : hi < 2 ^ 31) (h : a < nI lo ∨ (¬ a < 0 ∧ nI hi < a ∧ ∃ k, k < 2 ^ 31 ∧ hi < k ∧ a = nI k)) : F_X12_in n a.toInt64 (lN lo) (lN hi) σ = some (0, σ) := by
  by_cases q0 : a < 0
  · exact M_in_neg q0 hlo
  · obtain ⟨k, hk, e⟩ := nI_of q0
    subst e
    rw [M_in hk hlo hhi, if_neg ?_]
    rcases h with q | ⟨_, _, k', _, q, e⟩
    · have := (nI_ltI hk hlo).mp q; omega
    · have := nI_inj hk (by omega) e; omega
theorem M_in_in {k lo hi : Nat} (hlo : lo < 2 ^ 31) (hhi : hi < 2 ^ 31) (hk : k < 2 ^ 31) (h1 : lo ≤ k) (h2 : k ≤ hi) : F_X12_in n (nI k).toInt64 (lN lo) (lN hi) σ = some (1, σ) := by
  rw [M_in hk hlo hhi, if_pos ⟨h1, h2⟩]
theorem X_cp24 {i a : Nat} (hd : i + 14 < a ∨ a + 14 < i) : ∀ (k j : Nat) (σ : PS), j ≤ 10 → 11 ≤ k + j → (∀ t, t < j → σ.1 (i + 13) t = σ.1 (a + 13) t ∧ σ.1 (i + 14) t = σ.1 (a + 14) t) → ∃ τ, L_X6_copyFrom_24 n i a k (nI j) σ = some τ ∧ (∀ t, t < 10 → τ.1 (i + 13) t = τ.1 (a + 13) t ∧ τ.1 (i + 14) t = τ.1 (a + 14) t) ∧ agr [i + 13, i + 14] σ τ
  | 0, j, σ, hj, hk, h => by omega
  | k + 1, j, σ, hj, hk, h => by
    rw [L_X6_copyFrom_24]
    by_cases e : 10 ≤ j
    · rw [if_pos (show (10 : Int32) ≤ nI j from nI_le (show 10 ≤ j from e) (by omega))]
      exact ⟨σ, rfl, fun t ht => h t (by omega), agr_refl⟩
    · rw [if_neg (show ¬ (10 : Int32) ≤ nI j from nI_ge (show j < 10 by omega) (by decide)), nI_clamp (by omega), if_pos ⟨nI_pos' (by omega), by omega⟩, nI_1]
      obtain ⟨τ, t1, t2, t3⟩ := X_cp24 hd k (j + 1) (psI (psI σ (i + 13) j (σ.1 (a + 13) j)) (i + 14) j ((psI σ (i + 13) j (σ.1 (a + 13) j)).1 (a + 14) j)) (by omega) (by omega) (fun t ht => by
        rw [psI_other (show i + 13 ≠ i + 14 by omega), psI_other (show a + 13 ≠ i + 14 by omega), psI_other (show a + 13 ≠ i + 13 by omega), psI_other (show a + 14 ≠ i + 14 by omega), psI_other (show a + 14 ≠ i + 13 by omega), psI_eq, psI_eq, psI_other (show i + 14 ≠ i + 13 by omega)]
        by_cases q : t = j
        · rw [if_pos q, if_pos q, q]; exact ⟨rfl, rfl⟩
        · rw [if_neg q, if_neg q]; exact h t (by omega))
      exact ⟨τ, t1, t2, agr_trans (agr_psI (by simp)) (agr_trans (agr_psI (by simp)) t3)⟩
/-- a scene is copied -/
theorem X_scene (hn : 3000 ≤ n) {i a : Nat} (hd : i + 14 < a ∨ a + 14 < i) (h : scX σ a S fo x) (hS : okS S) : ∃ τ, F_X6_copyFrom n i a σ = some τ ∧ scX τ i S fo x ∧ τ.1 i 7 = σ.1 i 7 ∧ ∀ j, j < i ∨ i + 14 < j → τ.1 j = σ.1 j ∧ τ.2 j = σ.2 j := by
  have o2 := okS_2 hS
  have ob : begS S 2 ≤ 6 := by rw [begS_lo _ (by decide)]; exact o2.1
  obtain ⟨h1, h2, h3, h4, h5, h6⟩ := h
  unfold F_X6_copyFrom
  obtain ⟨τ1, a1, a2⟩ := X_copyFrom (n := n) (i := i + 1) (a := a + 1) (by omega) (by omega) (σ := σ)
  have r1 := CP_RX a2 h2 ob
  rw [a1, Option.bind_some]
  obtain ⟨τ2, b1, b2⟩ := X_copyFrom (n := n) (i := i + 7) (a := a + 7) (by omega) (by omega) (σ := τ1)
  have f1 := a2.2.2.2.2
  have f2 := b2.2.2.2.2
  have h1' : RX τ1 (a + 7) S := RX_agr h1 f1 (fun j hj => by simp at hj; omega)
  have r2 := CP_RX b2 h1' o2.1
  rw [b1, Option.bind_some]
  obtain ⟨τ3, c1, c2, c3⟩ := X_cp24 (n := n) hd n 0 τ2 (by omega) (by omega) (fun t ht => by omega)
  rw [show (0 : Int32) = nI 0 from rfl, c1, Option.bind_some]
  have fr3 : ∀ j, j < i ∨ i + 14 < j ∨ j = i → τ3.1 j = σ.1 j ∧ τ3.2 j = σ.2 j := by
    intro j hj
    have e3 := c3 j (by simp; omega)
    have e2 := f2 j (by simp; omega)
    have e1 := f1 j (by simp; omega)
    exact ⟨e3.1.trans (e2.1.trans e1.1), e3.2.trans (e2.2.trans e1.2)⟩
  have g4 : τ3.1 a 4 = nI (S 178) := by rw [(fr3 a (by omega)).1]; exact h3
  have g5 : (psI τ3 i 4 (nI (S 178))).1 a 5 = fo := by rw [psI_other (by omega), (fr3 a (by omega)).1]; exact h4
  have g6 : (psI (psI τ3 i 4 (nI (S 178))) i 5 fo).1 a 6 = x := by rw [psI_other (by omega), psI_other (by omega), (fr3 a (by omega)).1]; exact h5
  rw [g4, g5, g6]
  have a6 : agr [i] τ3 (psI (psI (psI τ3 i 4 (nI (S 178))) i 5 fo) i 6 x) := agr_trans (agr_psI (by simp)) (agr_trans (agr_psI (by simp)) (agr_psI (by simp)))
  refine ⟨_, rfl, ⟨?_, ?_, ?_, ?_, ?_, fun j hj => ?_⟩, ?_, fun j hj => ?_⟩
  · exact RX_agr (RX_agr r2 c3 (fun j hj => by simp at hj; omega)) a6 (fun j hj => by simp at hj; omega)
  · exact RX_agr (RX_agr (RX_agr r1 f2 (fun j hj => by simp at hj; omega)) c3 (fun j hj => by simp at hj; omega)) a6 (fun j hj => by simp at hj; omega)
  · rw [psI_eq, if_neg (by decide), psI_eq, if_neg (by decide), psI_eq, if_pos rfl]
  · rw [psI_eq, if_neg (by decide), psI_eq, if_pos rfl]
  · rw [psI_eq, if_pos rfl]
  · have h10 : S 178 ≤ 10 := by
      rcases hS with q | q
      · rw [q]; omega
      · exact q.2.2.2.2.1
    rw [(a6 (i + 13) (by simp)).1, (a6 (i + 14) (by simp)).1, (c2 j (by omega)).1, (c2 j (by omega)).2, (fr3 (a + 13) (by omega)).1, (fr3 (a + 14) (by omega)).1]
    exact h6 j hj
  · rw [psI_eq, if_neg (by decide), psI_eq, if_neg (by decide), psI_eq, if_neg (by decide), (fr3 i (by omega)).1]
  · have := a6 j (by simp; omega)
    have e := fr3 j (by omega)
    exact ⟨this.1.trans e.1, this.2.trans e.2⟩
theorem M_im43 {k : Nat} (hk : k < 4) : ∀ (m i : Nat) (σ : PS), rowN σ 259 S → i ≤ 179 → 180 ≤ m + i → (∀ t, t < i → σ.1 273 (179 * k + t) = nI (S t)) → ∃ τ, L_X12_image_43 n m (nI k) (nI i) σ = some τ ∧ (∀ t, t < 179 → τ.1 273 (179 * k + t) = nI (S t)) ∧ (∀ y, y < 179 * k ∨ 179 * k + 179 ≤ y → τ.1 273 y = σ.1 273 y) ∧ agr [273] σ τ
  | 0, i, σ, hS, hi, hm, h => by omega
  | m + 1, i, σ, hS, hi, hm, h => by
    rw [L_X12_image_43]
    by_cases e : 179 ≤ i
    · rw [if_pos (show (179 : Int32) ≤ nI i from nI_le (show 179 ≤ i from e) (by omega))]
      exact ⟨σ, rfl, fun t ht => h t (by omega), fun _ _ => rfl, agr_refl⟩
    · have ek : (179 : Int32) * nI k + nI i = nI (179 * k + i) := by
        show nI 179 * nI k + nI i = _
        rw [nI_mul, nI_add]
      rw [if_neg (show ¬ (179 : Int32) ≤ nI i from nI_ge (show i < 179 by omega) (by decide)), ek, nI_clamp (by omega), nI_clamp (by omega), if_pos ⟨nI_pos' (by omega), by omega⟩, if_pos ⟨nI_pos' (by omega), by omega⟩, nI_1, rowN_get hS]
      obtain ⟨τ, t1, t2, t3, t4⟩ := M_im43 hk m (i + 1) (psI σ 273 (179 * k + i) (nI (S i))) (rowN_other hS (by decide)) (by omega) (by omega) (fun t ht => by
        rw [psI_eq]
        by_cases q : t = i
        · rw [if_pos (by omega), q]
        · rw [if_neg (by omega)]; exact h t (by omega))
      exact ⟨τ, t1, t2, fun y hy => by rw [t3 y hy, psI_eq, if_neg (by omega)], agr_trans (agr_psI (by simp)) t4⟩
theorem K_image (hn : 3000 ≤ n) (a : Int32) (hi : Inv σ) : Kok (F_X11_image n a) (F_X12_image n a) σ := by
  obtain ⟨B, sz, z, cs, S, h, p, H, fo, x, im, hg, hx, hm⟩ := hi
  obtain ⟨g1, g2, g3, g4, g5, g6, g7, g8⟩ := id hg
  rcases rng a 0 3 (by decide) with ⟨k, _, hk, hk31, e⟩ | hout | q
  · subst e
    refine K_do (B' := B) (sz' := sz) (z' := z) (cs' := cs) (S' := S) (h' := h) (p' := p) (H' := H) (fo' := fo) (x' := x) (im' := fun i => if i = k then some (S, fo, x) else im i) ⟨g1, g2, g3, g4, g5, g6, g7, fun i hi s hs => ?_⟩ hm (nI (S 10)) ?_ ?_
    · dsimp only at hs
      by_cases e : i = k
      · rw [if_pos e] at hs; cases hs; exact ⟨g3, g4, g5⟩
      · rw [if_neg e] at hs; exact g8 i hi s hs
    · obtain ⟨i1, i2, i3, i4, i5, i6⟩ := hx
      obtain ⟨τ, a1, a2, a3, a4⟩ := X_scene (n := n) hn (i := 34 + 15 * k) (a := 18) (by omega) i4 g3
      have a5 : ∀ j, j < 34 + 15 * k ∨ 34 + 15 * k + 14 < j → (psI τ (34 + 15 * k) 7 (1 : Int32)).1 j = σ.1 j ∧ (psI τ (34 + 15 * k) 7 (1 : Int32)).2 j = σ.2 j := fun j hj => by
        have := a4 j hj
        rw [psI_other (by omega)]
        exact this
      have st2 : scX (psI τ (34 + 15 * k) 7 (1 : Int32)) (34 + 15 * k) S fo x := by
        obtain ⟨s1, s2, s3, s4, s5, s6⟩ := a2
        have ag : agr [34 + 15 * k] τ (psI τ (34 + 15 * k) 7 (1 : Int32)) := agr_psI (by simp)
        exact ⟨RX_agr s1 ag (fun j hj => by simp at hj; omega), RX_agr s2 ag (fun j hj => by simp at hj; omega), by rw [psI_eq, if_neg (by decide)]; exact s3, by rw [psI_eq, if_neg (by decide)]; exact s4, by rw [psI_eq, if_neg (by decide)]; exact s5, fun j hj => by rw [psI_other (by omega), psI_other (by omega)]; exact s6 j hj⟩
      refine ⟨psI τ (34 + 15 * k) 7 (1 : Int32), ?_, ⟨⟨by rw [(a5 2 (by omega)).1]; exact i1.1, by rw [(a5 1 (by omega)).1]; exact i1.2.1, i1.2.2⟩, by rw [(a5 7 (by omega)).1]; exact i2, st_agr i3 g2 (fun j h1 h2 => (a5 j (by omega)).1), scX_rows i4 (fun j h1 h2 => a5 j (by omega)), hX_rows i5 (fun j h1 h2 => a5 j (by omega)), fun i hi => ?_⟩, fun j hj => a5 j (by omega)⟩
      · unfold F_X11_image
        rw [if_neg (show ¬ nI k < (0 : Int32) from nI_n0 (by omega)), if_pos (show nI k < (4 : Int32) from nI_lt (show k < 4 by omega) (by decide)), nI_clamp (by omega), if_pos ⟨nI_pos' (by omega), by omega⟩, a1, Option.bind_some, (a5 25 (by omega)).1]
        rw [show σ.1 25 3 = nI (S 10) from i4.1.2.2.2.1]
      · by_cases e : i = k
        · subst e
          refine ⟨fun q => by simp at q, fun s hs => ?_⟩
          simp only [if_true, Option.some.injEq] at hs
          subst hs
          exact ⟨by rw [psI_eq, if_pos rfl], st2⟩
        · simp only [e, if_false]
          obtain ⟨b1, b2⟩ := i6 i hi
          refine ⟨fun q => by rw [(a5 (34 + 15 * i) (by omega)).1]; exact b1 q, fun s hs => ?_⟩
          obtain ⟨c1, c2⟩ := b2 s hs
          exact ⟨by rw [(a5 (34 + 15 * i) (by omega)).1]; exact c1, scX_rows c2 (fun j h1 h2 => a5 j (by omega))⟩
    · intro τ1 hm1
      obtain ⟨m1, m2, m3, m4, m5, m6, m7, m8⟩ := hm1
      unfold F_X12_image
      rw [show (0 : Int64) = lN 0 from rfl, show (3 : Int64) = lN 3 from rfl, M_in_in (by decide) (by decide) hk31 (by omega) hk, Option.bind_some, if_neg ne10, nI_clamp (by omega), if_pos ⟨nI_pos' (by omega), by omega⟩]
      have e21 : (psI τ1 276 k (vp_nar .boolean (1 : Int32))).1 249 21 = fo := by rw [psI_other (by decide)]; exact m5
      have e22 : (psI (psI τ1 276 k (vp_nar .boolean (1 : Int32))) 274 k fo).1 249 22 = x := by rw [psI_other (by decide), psI_other (by decide)]; exact m6
      show ∃ υ, (L_X12_image_43 n n (nI k) (nI 0) (psI (psI (psI τ1 276 k (vp_nar .boolean (1 : Int32))) 274 k ((psI τ1 276 k (vp_nar .boolean (1 : Int32))).1 249 21)) 275 k ((psI (psI τ1 276 k (vp_nar .boolean (1 : Int32))) 274 k ((psI τ1 276 k (vp_nar .boolean (1 : Int32))).1 249 21)).1 249 22))).bind _ = some _ ∧ _
      rw [e21, e22]
      generalize hT : psI (psI (psI τ1 276 k (vp_nar .boolean (1 : Int32))) 274 k fo) 275 k x = τ2
      have a2 : agr [274, 275, 276] τ1 τ2 := by rw [← hT]; exact agr_trans (agr_psI (by simp)) (agr_trans (agr_psI (by simp)) (agr_psI (by simp)))
      obtain ⟨υ, b1, b2, b3, b4⟩ := M_im43 (n := n) (S := S) (k := k) (by omega) n 0 τ2 (rowN_agr m4 a2 (by decide)) (by omega) (by omega) (fun t ht => by omega)
      rw [b1, Option.bind_some]
      have ag : agm [273, 274, 275, 276] [] τ1 υ := agm_trans (agm_mono (agm_of a2 (by decide) (Fs := [])) (by simp) (by simp)) (agm_mono (agm_of b4 (by decide) (Fs := [])) (by simp) (by simp))
      have r259 : rowN υ 259 S := rowN_agm m4 ag (by decide) (by decide)
      rw [rowN_get r259]
      refine ⟨υ, rfl, ⟨⟨by rw [(ag.1 250 (by decide) (by decide)).1]; exact m1.1, by rw [(ag.2 1 (by simp)).1]; exact m1.2.1, m1.2.2⟩, by rw [(ag.2 2 (by simp)).1]; exact m2, fun r hr => stM_agm (m3 r hr) ag (by decide) (by decide) (by decide), r259, by rw [(ag.2 21 (by simp)).1]; exact m5, by rw [(ag.2 22 (by simp)).1]; exact m6, hM_agm m7 ag (by simp) (by decide), fun i hi => ?_⟩, loA_agm ag (by decide)⟩
      have q4 : ∀ j, υ.1 274 j = if j = k then fo else τ1.1 274 j := fun j => by rw [(b4 274 (by decide)).1, ← hT, psI_other (by decide), psI_eq, psI_other (by decide)]
      have q5 : ∀ j, υ.1 275 j = if j = k then x else τ1.1 275 j := fun j => by rw [(b4 275 (by decide)).1, ← hT, psI_eq, psI_other (by decide), psI_other (by decide)]
      have q6 : ∀ j, υ.1 276 j = if j = k then 1 else τ1.1 276 j := fun j => by rw [(b4 276 (by decide)).1, ← hT, psI_other (by decide), psI_other (by decide), psI_eq, nar_b.1]
      rw [q4, q5, q6]
      by_cases e : i = k
      · subst e
        refine ⟨fun q => by simp at q, fun s hs => ?_⟩
        simp only [if_true, Option.some.injEq] at hs
        subst hs
        rw [if_pos rfl, if_pos rfl, if_pos rfl]
        exact ⟨rfl, rfl, rfl, b2⟩
      · simp only [e, if_false]
        obtain ⟨c1, c2⟩ := m8 i hi
        refine ⟨c1, fun s hs => ?_⟩
        obtain ⟨d1, d2, d3, d4⟩ := c2 s hs
        refine ⟨d1, d2, d3, fun t ht => ?_⟩
        rw [b3 _ (by omega), (a2 273 (by decide)).1]
        exact d4 t ht
  · refine K_ask hg hx hm (-1) ⟨σ, ?_, sX_refl⟩ (fun τ hm1 => ⟨τ, ?_, sM_refl⟩)
    · unfold F_X11_image
      rcases hout with w | ⟨w0, w, _⟩
      · rw [if_pos (show a < 0 from w)]
      · rw [if_neg w0, if_neg (show ¬ a < (4 : Int32) from fun q => by
          obtain ⟨k, hk, e⟩ := nI_of w0
          subst e
          have h1 := (nI_ltI (b := 4) hk (by decide)).mp q
          have h2 := (nI_ltI (by decide) hk).mp w
          omega)]
    · unfold F_X12_image
      rw [show (0 : Int64) = lN 0 from rfl, show (3 : Int64) = lN 3 from rfl, M_in_out (by decide) (by decide) hout, Option.bind_some, if_pos rfl]
  · exact absurd q (by decide)
theorem M_bk50 {k : Nat} (hk : k < 4) {S' : Nat → Nat} : ∀ (m i : Nat) (σ : PS) (T : Nat → Nat), rowN σ 259 T → (∀ t, t < 179 → σ.1 273 (179 * k + t) = nI (S' t)) → (∀ t, t < i → T t = S' t) → (∀ t, 179 ≤ t → T t = S' t) → i ≤ 179 → 180 ≤ m + i → ∃ τ, L_X12_back_50 n m (nI k) (nI i) σ = some τ ∧ rowN τ 259 S' ∧ agr [259] σ τ
  | 0, i, σ, T, hT, h3, h1, h2, hi, hm => by omega
  | m + 1, i, σ, T, hT, h3, h1, h2, hi, hm => by
    rw [L_X12_back_50]
    by_cases e : 179 ≤ i
    · rw [if_pos (show (179 : Int32) ≤ nI i from nI_le (show 179 ≤ i from e) (by omega))]
      have eT : T = S' := by
        funext t
        by_cases q : t < i
        · exact h1 t q
        · exact h2 t (by omega)
      rw [eT] at hT
      exact ⟨σ, rfl, hT, agr_refl⟩
    · have ek : (179 : Int32) * nI k + nI i = nI (179 * k + i) := by
        show nI 179 * nI k + nI i = _
        rw [nI_mul, nI_add]
      rw [if_neg (show ¬ (179 : Int32) ≤ nI i from nI_ge (show i < 179 by omega) (by decide)), ek, nI_clamp (by omega), nI_clamp (by omega), if_pos ⟨nI_pos' (by omega), by omega⟩, if_pos ⟨nI_pos' (by omega), by omega⟩, nI_1, h3 i (by omega)]
      obtain ⟨τ, t1, t2, t3⟩ := M_bk50 hk m (i + 1) (psI σ 259 i (nI (S' i))) (un T i (S' i)) (rowN_set hT) (fun t ht => by rw [psI_other (by decide)]; exact h3 t ht) (fun t ht => by
        by_cases q : t = i
        · rw [q, un_eq]
        · rw [un_ne _ _ q]; exact h1 t (by omega)) (fun t ht => by rw [un_ne _ _ (by omega)]; exact h2 t ht) (by omega) (by omega)
      exact ⟨τ, t1, t2, agr_trans (agr_psI (by simp)) t3⟩
theorem K_back (hn : 3000 ≤ n) (a : Int32) (hi : Inv σ) : Kok (F_X11_back n a) (F_X12_back n a) σ := by
  obtain ⟨B, sz, z, cs, S, h, p, H, fo, x, im, hg, hx, hm⟩ := hi
  obtain ⟨g1, g2, g3, g4, g5, g6, g7, g8⟩ := id hg
  rcases rng a 0 3 (by decide) with ⟨k, _, hk, hk31, e⟩ | hout | q
  · subst e
    cases him : im k with
    | none =>
      refine K_ask hg hx hm (-1) ⟨σ, ?_, sX_refl⟩ (fun τ hm1 => ⟨τ, ?_, sM_refl⟩)
      · unfold F_X11_back
        rw [if_neg (show ¬ nI k < (0 : Int32) from nI_n0 (by omega)), if_neg (show ¬ (4 : Int32) ≤ nI k from nI_ge (show k < 4 by omega) (by decide)), nI_clamp (by omega), if_pos ⟨nI_pos' (by omega), by omega⟩, (hx.2.2.2.2.2 k (by omega)).1 him, if_pos rfl]
      · unfold F_X12_back
        rw [show (0 : Int64) = lN 0 from rfl, show (3 : Int64) = lN 3 from rfl, M_in_in (by decide) (by decide) hk31 (by omega) hk, Option.bind_some, if_neg ne10, nI_clamp (by omega), if_pos ⟨nI_pos' (by omega), by omega⟩]
        show (if τ.1 276 k = 0 then _ else _) = _
        rw [(hm1.2.2.2.2.2.2.2 k (by omega)).1 him, if_pos rfl]
    | some s =>
      obtain ⟨S', fo', x'⟩ := s
      obtain ⟨o1, o2, o3⟩ := g8 k (by omega) _ him
      refine K_do (B' := B) (sz' := sz) (z' := z) (cs' := cs) (S' := S') (h' := 0) (p' := p) (H' := H) (fo' := fo') (x' := x') (im' := im) ⟨g1, g2, o1, o2, o3, fun q => absurd rfl q, fun j hj => by omega, g8⟩ hm (nI (S' 10)) ?_ ?_
      · obtain ⟨i1, i2, i3, i4, i5, i6⟩ := hx
        obtain ⟨d1, d2⟩ := (i6 k (by omega)).2 _ him
        obtain ⟨τ, a1, a2, a3, a4⟩ := X_scene (n := n) hn (i := 18) (a := 34 + 15 * k) (by omega) d2 o1
        have ag : agr [94] τ (psI τ 94 0 (0 : Int32)) := agr_psI (by simp)
        have a5 : ∀ j, j < 18 ∨ (32 < j ∧ j ≠ 94) → (psI τ 94 0 (0 : Int32)).1 j = σ.1 j ∧ (psI τ 94 0 (0 : Int32)).2 j = σ.2 j := fun j hj => by
          have := a4 j (by omega)
          rw [psI_other (by omega)]
          exact this
        refine ⟨psI τ 94 0 (0 : Int32), ?_, ⟨⟨by rw [(a5 2 (by omega)).1]; exact i1.1, by rw [(a5 1 (by omega)).1]; exact i1.2.1, i1.2.2⟩, by rw [(a5 7 (by omega)).1]; exact i2, st_agr i3 g2 (fun j h1 h2 => (a5 j (by omega)).1), scX_rows a2 (fun j h1 h2 => ag j (by simp; omega)), ⟨by omega, i5.2.1, by rw [psI_eq, if_pos rfl]; rfl, ?_, fun d hd => by omega⟩, imX_rows i6 (fun j h1 h2 => a5 j (by omega))⟩, fun j hj => a5 j (by omega)⟩
        · unfold F_X11_back
          rw [if_neg (show ¬ nI k < (0 : Int32) from nI_n0 (by omega)), if_neg (show ¬ (4 : Int32) ≤ nI k from nI_ge (show k < 4 by omega) (by decide)), nI_clamp (by omega), if_pos ⟨nI_pos' (by omega), by omega⟩, d1, if_neg ne10, a1, Option.bind_some]
          unfold F_X0_forget
          rw [Option.bind_some, psI_other (by decide), show τ.1 25 3 = nI (S' 10) from a2.1.2.2.2.1]
        · rw [psI_eq, if_neg (by decide), (a4 94 (by omega)).1]; exact i5.2.2.2.1
      · intro τ1 hm1
        obtain ⟨m1, m2, m3, m4, m5, m6, m7, m8⟩ := hm1
        obtain ⟨d1, d2, d3, d4⟩ := (m8 k (by omega)).2 _ him
        unfold F_X12_back
        rw [show (0 : Int64) = lN 0 from rfl, show (3 : Int64) = lN 3 from rfl, M_in_in (by decide) (by decide) hk31 (by omega) hk, Option.bind_some, if_neg ne10, nI_clamp (by omega), if_pos ⟨nI_pos' (by omega), by omega⟩]
        show ∃ υ, (if τ1.1 276 k = 0 then _ else (L_X12_back_50 n n (nI k) (nI 0) (psI (psI (psI τ1 249 21 (τ1.1 274 k)) 249 22 ((psI τ1 249 21 (τ1.1 274 k)).1 275 k)) 249 26 (0 : Int32))).bind _) = some _ ∧ _
        have e22 : (psI τ1 249 21 fo').1 275 k = x' := by rw [psI_other (by decide)]; exact d3
        rw [d1, if_neg ne10, d2, e22]
        generalize hT : psI (psI (psI τ1 249 21 fo') 249 22 x') 249 26 (0 : Int32) = τ2
        have a2 : agm [] [21, 22, 26] τ1 τ2 := by rw [← hT]; exact agm_trans (agm_fld (by simp)) (agm_trans (agm_fld (by simp)) (agm_fld (by simp)))
        obtain ⟨υ, b1, b2, b3⟩ := M_bk50 (n := n) (S' := S') (k := k) (by omega) n 0 τ2 S (rowN_agm m4 a2 (by simp) (by decide)) (fun t ht => by rw [(a2.1 273 (by simp) (by decide)).1]; exact d4 t ht) (fun t ht => by omega) (fun t ht => by rw [okS_z g3 t ht]; exact (okS_z o1 t ht).symm) (by omega) (by omega)
        rw [b1, Option.bind_some, rowN_get b2]
        have b4 : agm [259] [] τ2 υ := agm_of b3 (by decide)
        have ag : agm [259] [21, 22, 26] τ1 υ := agm_trans (agm_mono a2 (by simp) (by simp)) (agm_mono b4 (by simp) (by simp))
        have h249 : υ.1 249 = τ2.1 249 := (b3 249 (by decide)).1
        refine ⟨υ, rfl, ⟨⟨by rw [(ag.1 250 (by decide) (by decide)).1]; exact m1.1, by rw [(ag.2 1 (by decide)).1]; exact m1.2.1, m1.2.2⟩, by rw [(ag.2 2 (by decide)).1]; exact m2, fun r hr => stM_agm (m3 r hr) ag (by decide) (by decide) (by decide), b2, ?_, ?_, ⟨by omega, ?_, fun j hj => by omega⟩, imM_agm m8 ag (by decide) (by decide) (by decide) (by decide)⟩, loA_agm ag (by decide)⟩
        · rw [h249, ← hT, psI_eq, if_neg (by decide), psI_eq, if_neg (by decide), psI_eq, if_pos rfl]
        · rw [h249, ← hT, psI_eq, if_neg (by decide), psI_eq, if_pos rfl]
        · rw [h249, ← hT, psI_eq, if_pos rfl]; rfl
  · refine K_ask hg hx hm (-1) ⟨σ, ?_, sX_refl⟩ (fun τ hm1 => ⟨τ, ?_, sM_refl⟩)
    · unfold F_X11_back
      rcases hout with w | ⟨w0, w, _⟩
      · rw [if_pos (show a < 0 from w)]
      · rw [if_neg w0, if_pos (show (4 : Int32) ≤ a from by
          obtain ⟨k, hk, e⟩ := nI_of w0
          subst e
          have h2 := (nI_ltI (by decide) hk).mp w
          exact nI_le (show 4 ≤ k by omega) hk)]
    · unfold F_X12_back
      rw [show (0 : Int64) = lN 0 from rfl, show (3 : Int64) = lN 3 from rfl, M_in_out (by decide) (by decide) hout, Option.bind_some, if_pos rfl]
  · exact absurd q (by decide)
end K4
