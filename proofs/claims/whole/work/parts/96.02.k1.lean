/-! The calls feed, end, camp, rule, force, seed, tent, cell: both sides alike. -/
section K1
variable {B : Nat → Int32} {sz z h p : Nat} {cs : Nat → List CL} {S : Nat → Nat} {H : Nat → Nat → Nat} {fo x : Int32} {im : Nat → Option IMG} {σ τ : PS} {n : Nat}
/-- the class's rows from 18 on are as they were -/
theorem IX_up (hi : IX σ B sz z cs S h p H fo x im) {B' : Nat → Int32} {sz' z' : Nat} {cs' : Nat → List CL} (h1 : TpX τ B' sz') (h2 : τ.1 7 0 = nI z') (h3 : ∀ r, r < z' → stX τ r (cs' r)) (hh : ∀ j, 18 ≤ j → j < 216 → τ.1 j = σ.1 j ∧ τ.2 j = σ.2 j) : IX τ B' sz' z' cs' S h p H fo x im := by
  obtain ⟨a, b, c, d, e, f⟩ := hi
  exact ⟨h1, h2, h3, scX_rows d (fun j h1 h2 => hh j (by omega) (by omega)), hX_rows e (fun j h1 h2 => hh j (by omega) (by omega)), imX_rows f (fun j h1 h2 => hh j (by omega) (by omega))⟩
theorem st_agr (hi : ∀ r, r < z → stX σ r (cs r)) (hz : z ≤ 6) (hh : ∀ j, 8 ≤ j → j < 17 → τ.1 j = σ.1 j) : ∀ r, r < z → stX τ r (cs r) := fun r hr => stX_rows (hi r hr) (by omega) hh
theorem stM_agm {T Fs : List Nat} {r : Nat} {c : List CL} (hc : stM σ r c) (ha : agm T Fs σ τ) (h1 : 251 ∉ T) (h3 : 253 ∉ T) (h4 : 254 ∉ T) : stM τ r c := by
  unfold stM at hc ⊢
  rw [(ha.1 253 h3 (by decide)).1, (ha.1 251 h1 (by decide)).1, (ha.1 254 h4 (by decide)).1]
  exact hc
theorem imM_agm {T Fs : List Nat} (hc : imM σ im) (ha : agm T Fs σ τ) (h1 : 273 ∉ T) (h2 : 274 ∉ T) (h3 : 275 ∉ T) (h4 : 276 ∉ T) : imM τ im := by
  unfold imM at hc ⊢
  rw [(ha.1 276 h4 (by decide)).1, (ha.1 274 h2 (by decide)).1, (ha.1 275 h3 (by decide)).1, (ha.1 273 h1 (by decide)).1]
  exact hc
theorem hM_agm {T Fs : List Nat} {h : Nat} {H : Nat → Nat → Nat} (hh : hM σ h H) (ha : agm T Fs σ τ) (h1 : 26 ∉ Fs) (h2 : 262 ∉ T) : hM τ h H := by
  obtain ⟨a, b, c⟩ := hh
  exact ⟨a, by rw [(ha.2 26 h1).1]; exact b, fun j hj k hk => by rw [(ha.1 262 h2 (by decide)).1]; exact c j hj k hk⟩
theorem K_feed (hn : 3000 ≤ n) (a b c d e : Int32) (hi : Inv σ) : Kok (F_X11_feed n a b c d e) (F_X12_feed n a b c d e) σ := by
  obtain ⟨B, sz, z, cs, S, h, p, H, fo, x, im, hg, hx, hm⟩ := hi
  refine K_do (B' := if sz + 20 ≤ 400 then fd5 B sz a b c d e else B) (sz' := if sz + 20 ≤ 400 then sz + 20 else sz) (z' := z) (cs' := cs) (S' := S) (h' := h) (p' := p) (H' := H) (fo' := fo) (x' := x) (im' := im) ?_ hm (if sz + 20 ≤ 400 then nI (sz + 20) else -1) ?_ ?_
  · refine ⟨?_, hg.2⟩
    split
    · exact fd5_byt hg.1 _ _ _ _ _ _
    · exact hg.1
  · obtain ⟨τ, a1, a2, a3⟩ := O_feed_X (n := n) (by omega) hx.1 a b c d e
    refine ⟨τ, a1, IX_up hx a2 (by rw [(a3 7 (by decide)).1]; exact hx.2.1) (st_agr hx.2.2.1 hg.2.1 (fun j h1 h2 => (a3 j (by simp; omega)).1)) (fun j h1 h2 => a3 j (by simp; omega)), hiA_agr a3 (by simp)⟩
  · intro τ hm1
    obtain ⟨υ, a1, a2, a3⟩ := O_feed_M (n := n) (by omega) hm1.1 a b c d e
    obtain ⟨m1, m2, m3, m4, m5, m6, m7, m8⟩ := hm1
    exact ⟨υ, a1, ⟨a2, by rw [(a3.2 2 (by decide)).1]; exact m2, fun r hr => stM_agm (m3 r hr) a3 (by decide) (by decide) (by decide), rowN_agm m4 a3 (by decide) (by decide), by rw [(a3.2 21 (by decide)).1]; exact m5, by rw [(a3.2 22 (by decide)).1]; exact m6, hM_agm m7 a3 (by decide) (by decide), imM_agm m8 a3 (by decide) (by decide) (by decide) (by decide)⟩, loA_agm a3 (by simp)⟩
theorem K_end (hn : 3000 ≤ n) (a : Int32) (hi : Inv σ) : Kok (F_X11_end n a) (F_X12_end n a) σ := by
  obtain ⟨B, sz, z, cs, S, h, p, H, fo, x, im, hg, hx, hm⟩ := hi
  rcases O_end_X (n := n) hx.1 a with ⟨k, hk, e, a1⟩ | ⟨w, a1⟩
  · have h400 := hx.1.2.2
    refine K_do (B' := B) (sz' := k) (z' := z) (cs' := cs) (S' := S) (h' := h) (p' := p) (H' := H) (fo' := fo) (x' := x) (im' := im) hg hm a ?_ ?_
    · have a3 : agr [1] σ (psI σ 1 1 a) := agr_psI (by simp)
      refine ⟨_, a1, IX_up hx ⟨by rw [psI_other (by decide)]; exact hx.1.1, by rw [psI_eq, if_pos rfl]; exact e, by omega⟩ (by rw [(a3 7 (by decide)).1]; exact hx.2.1) (st_agr hx.2.2.1 hg.2.1 (fun j h1 h2 => (a3 j (by simp; omega)).1)) (fun j h1 h2 => a3 j (by simp; omega)), hiA_agr a3 (by simp)⟩
    · intro τ hm1
      have b1 := (O_end_M (n := n) hm1.1 a).1 k hk e
      have a3 : agm [] [1] τ (psI τ 249 1 a) := agm_fld (by simp)
      obtain ⟨m1, m2, m3, m4, m5, m6, m7, m8⟩ := hm1
      exact ⟨_, b1, ⟨⟨by rw [psI_other (by decide)]; exact m1.1, by rw [psI_eq, if_pos rfl]; exact e, by omega⟩, by rw [(a3.2 2 (by decide)).1]; exact m2, fun r hr => stM_agm (m3 r hr) a3 (by simp) (by simp) (by simp), rowN_agm m4 a3 (by simp) (by decide), by rw [(a3.2 21 (by decide)).1]; exact m5, by rw [(a3.2 22 (by decide)).1]; exact m6, hM_agm m7 a3 (by decide) (by simp), imM_agm m8 a3 (by simp) (by simp) (by simp) (by simp)⟩, loA_agm a3 (by simp)⟩
  · exact K_ask hg hx hm (-1) ⟨σ, a1, sX_refl⟩ (fun τ hm1 => ⟨τ, (O_end_M (n := n) hm1.1 a).2 w, sM_refl⟩)
theorem K_rule (hn : 3000 ≤ n) (hi : Inv σ) : Kok (F_X11_rule n) (F_X12_rule n) σ := by
  obtain ⟨B, sz, z, cs, S, h, p, H, fo, x, im, hg, hx, hm⟩ := hi
  obtain ⟨g1, g2, g3, g4, g5, g6, g7, g8⟩ := id hg
  by_cases e6 : z = 6
  · subst e6
    exact K_ask hg hx hm (-1) ⟨σ, O_rule_X6 hx.2.1, sX_refl⟩ (fun τ hm1 => ⟨τ, O_rule_M6 hm1.2.1, sM_refl⟩)
  have hz : z < 6 := by omega
  obtain ⟨τ, a1, a2, a3, a4⟩ := O_rule_X (n := n) (by omega) hx.1 hz hx.2.1 hx.2.2.1
  by_cases zr : (ruleP B sz 13 0 0 0).1 = 0
  · have a3' : τ.1 7 0 = nI (z + 1) ∧ stX τ z (ruleP B sz 13 0 0 0).2 ∧ ∀ r, r < z → stX τ r (cs r) := by
      rcases a3 with q | q
      · exact absurd zr q.1
      · exact q.2
    have key : ∀ {P : Nat → List CL → Prop}, P z (ruleP B sz 13 0 0 0).2 → (∀ r, r < z → P r (cs r)) → ∀ r, r < z + 1 → P r (if r = z then (ruleP B sz 13 0 0 0).2 else cs r) := by
      intro P h1 h2 r hr
      by_cases q : r = z
      · subst q; rw [if_pos rfl]; exact h1
      · rw [if_neg q]; exact h2 r (by omega)
    have vup : ∀ f, vF2 z f → vF2 (z + 1) f := fun f hf => by
      rcases hf with q | ⟨r, hr, q⟩
      · exact Or.inl q
      · exact Or.inr ⟨r, by omega, q⟩
    refine K_do (B' := B) (sz' := 0) (z' := z + 1) (cs' := fun r => if r = z then (ruleP B sz 13 0 0 0).2 else cs r) (S' := S) (h' := h) (p' := p) (H' := H) (fo' := fo) (x' := x) (im' := im) ⟨g1, by omega, g3, vup _ g4, g5, g6, g7, fun k hk s hs => ⟨(g8 k hk s hs).1, vup _ (g8 k hk s hs).2.1, (g8 k hk s hs).2.2⟩⟩ hm (rlA B sz z) ?_ ?_
    · exact ⟨τ, a1, IX_up hx a2 a3'.1 (key (P := fun r c => stX τ r c) a3'.2.1 a3'.2.2) (fun j h1 h2 => a4 j (by simp; omega)), hiA_agr a4 (fun j hj => by simp at hj; omega)⟩
    · intro τ2 hm1
      obtain ⟨υ, b1, b2, b3, b4⟩ := O_rule_M (n := n) (by omega) g1 hm1.1 hz hm1.2.1 hm1.2.2.1
      have b3' : υ.1 249 2 = nI (z + 1) ∧ stM υ z (ruleP B sz 13 0 0 0).2 ∧ ∀ r, r < z → stM υ r (cs r) := by
        rcases b3 with q | q
        · exact absurd zr q.1
        · exact q.2
      obtain ⟨m1, m2, m3, m4, m5, m6, m7, m8⟩ := hm1
      exact ⟨υ, b1, ⟨b2, b3'.1, key (P := fun r c => stM υ r c) b3'.2.1 b3'.2.2, rowN_agm m4 b4 (by decide) (by decide), by rw [(b4.2 21 (by decide)).1]; exact m5, by rw [(b4.2 22 (by decide)).1]; exact m6, hM_agm m7 b4 (by decide) (by decide), imM_agm m8 b4 (by decide) (by decide) (by decide) (by decide)⟩, loA_agm b4 (by simp)⟩
  · have a3' : τ.1 7 0 = nI z ∧ ∀ r, r < z → stX τ r (cs r) := by
      rcases a3 with q | q
      · exact q.2
      · exact absurd q.1 zr
    refine K_do (B' := B) (sz' := 0) (z' := z) (cs' := cs) (S' := S) (h' := h) (p' := p) (H' := H) (fo' := fo) (x' := x) (im' := im) hg hm (rlA B sz z) ?_ ?_
    · exact ⟨τ, a1, IX_up hx a2 a3'.1 a3'.2 (fun j h1 h2 => a4 j (by simp; omega)), hiA_agr a4 (fun j hj => by simp at hj; omega)⟩
    · intro τ2 hm1
      obtain ⟨υ, b1, b2, b3, b4⟩ := O_rule_M (n := n) (by omega) g1 hm1.1 hz hm1.2.1 hm1.2.2.1
      have b3' : υ.1 249 2 = nI z ∧ ∀ r, r < z → stM υ r (cs r) := by
        rcases b3 with q | q
        · exact q.2
        · exact absurd q.1 zr
      obtain ⟨m1, m2, m3, m4, m5, m6, m7, m8⟩ := hm1
      exact ⟨υ, b1, ⟨b2, b3'.1, b3'.2, rowN_agm m4 b4 (by decide) (by decide), by rw [(b4.2 21 (by decide)).1]; exact m5, by rw [(b4.2 22 (by decide)).1]; exact m6, hM_agm m7 b4 (by decide) (by decide), imM_agm m8 b4 (by decide) (by decide) (by decide) (by decide)⟩, loA_agm b4 (by simp)⟩
theorem isI_of {m : Nat} (hm : m < 2 ^ 31) {y : Int32} (hy : ¬ isI m y = 0) : ∃ r, r < m ∧ y = nI r := by
  unfold isI at hy
  by_cases q : y < 0
  · rw [if_pos q] at hy; exact absurd rfl hy
  · obtain ⟨r, hr, e⟩ := nI_of q
    subst e
    rw [if_neg q] at hy
    by_cases q2 : nI m ≤ nI r
    · rw [if_pos q2] at hy; exact absurd rfl hy
    · exact ⟨r, Nat.lt_of_not_le (fun w => q2 (nI_le w hr)), rfl⟩
theorem K_force (a : Int32) (hi : Inv σ) : Kok (F_X11_force n a) (F_X12_force n a) σ := by
  obtain ⟨B, sz, z, cs, S, h, p, H, fo, x, im, hg, hx, hm⟩ := hi
  obtain ⟨g1, g2, g3, g4, g5, g6, g7, g8⟩ := id hg
  have hv : vF2 z (frF z fo a) := by
    unfold frF
    by_cases q : a = -1
    · rw [if_pos q]; exact Or.inl q
    · rw [if_neg q]
      by_cases q2 : isI z a = 0
      · rw [if_pos q2]; exact g4
      · rw [if_neg q2]
        obtain ⟨r, hr, e⟩ := isI_of (by omega) q2
        exact Or.inr ⟨r, hr, e⟩
  refine K_do (B' := B) (sz' := sz) (z' := z) (cs' := cs) (S' := S) (h' := h) (p' := p) (H' := H) (fo' := frF z fo a) (x' := x) (im' := im) ⟨g1, g2, g3, hv, g5, g6, g7, g8⟩ hm (frA z fo a) ?_ ?_
  · obtain ⟨i1, i2, i3, i4, i5, i6⟩ := hx
    obtain ⟨τ, a1, a2, a3⟩ := O_force_X (n := n) i2 i4.2.2.2.1 a
    have ag : agr [18] σ τ := by
      rcases a3 with q | q
      · rw [q]; exact agr_refl
      · rw [q]; exact agr_psI (by simp)
    have fld : ∀ k, k ≠ 5 → τ.1 18 k = σ.1 18 k := fun k hk => by
      rcases a3 with q | q
      · rw [q]
      · rw [q, psI_eq, if_neg hk]
    refine ⟨τ, a1, ⟨⟨by rw [(ag 2 (by decide)).1]; exact i1.1, by rw [(ag 1 (by decide)).1]; exact i1.2.1, i1.2.2⟩, by rw [(ag 7 (by decide)).1]; exact i2, st_agr i3 g2 (fun j h1 h2 => (ag j (by simp; omega)).1), ⟨RX_agr i4.1 ag (by simp), RX_agr i4.2.1 ag (by simp), by rw [fld 4 (by decide)]; exact i4.2.2.1, a2, by rw [fld 6 (by decide)]; exact i4.2.2.2.2.1, fun j hj => by rw [(ag 31 (by decide)).1, (ag 32 (by decide)).1]; exact i4.2.2.2.2.2 j hj⟩, hX_rows i5 (fun j h1 h2 => ag j (by simp; omega)), imX_rows i6 (fun j h1 h2 => ag j (by simp; omega))⟩, hiA_agr ag (by simp)⟩
  · intro τ1 hm1
    obtain ⟨m1, m2, m3, m4, m5, m6, m7, m8⟩ := hm1
    obtain ⟨υ, b1, b2, b3⟩ := O_force_M (n := n) m2 m5 a
    have ag : agm [] [21] τ1 υ := by
      rcases b3 with q | q
      · rw [q]; exact agm_refl
      · rw [q]; exact agm_fld (by simp)
    exact ⟨υ, b1, ⟨⟨by rw [(ag.1 250 (by simp) (by decide)).1]; exact m1.1, by rw [(ag.2 1 (by decide)).1]; exact m1.2.1, m1.2.2⟩, by rw [(ag.2 2 (by decide)).1]; exact m2, fun r hr => stM_agm (m3 r hr) ag (by simp) (by simp) (by simp), rowN_agm m4 ag (by simp) (by decide), b2, by rw [(ag.2 22 (by decide)).1]; exact m6, hM_agm m7 ag (by decide) (by simp), imM_agm m8 ag (by simp) (by simp) (by simp) (by simp)⟩, loA_agm ag (by simp)⟩
theorem K_seed (a : Int32) (hi : Inv σ) : Kok (F_X11_seed n a) (F_X12_seed n a) σ := by
  obtain ⟨B, sz, z, cs, S, h, p, H, fo, x, im, hg, hx, hm⟩ := hi
  obtain ⟨g1, g2, g3, g4, g5, g6, g7, g8⟩ := id hg
  by_cases q : 0 ≤ a
  · refine K_do (B' := B) (sz' := sz) (z' := z) (cs' := cs) (S' := S) (h' := h) (p' := p) (H' := H) (fo' := fo) (x' := a) (im' := im) ⟨g1, g2, g3, g4, q, g6, g7, g8⟩ hm x ?_ ?_
    · obtain ⟨i1, i2, i3, i4, i5, i6⟩ := hx
      have a1 := O_seed_X (n := n) i4.2.2.2.2.1 a
      rw [if_pos q] at a1
      have ag : agr [18] σ (psI σ 18 6 a) := agr_psI (by simp)
      have fld : ∀ k, k ≠ 6 → (psI σ 18 6 a).1 18 k = σ.1 18 k := fun k hk => by rw [psI_eq, if_neg hk]
      exact ⟨_, a1, ⟨⟨by rw [(ag 2 (by decide)).1]; exact i1.1, by rw [(ag 1 (by decide)).1]; exact i1.2.1, i1.2.2⟩, by rw [(ag 7 (by decide)).1]; exact i2, st_agr i3 g2 (fun j h1 h2 => (ag j (by simp; omega)).1), ⟨RX_agr i4.1 ag (by simp), RX_agr i4.2.1 ag (by simp), by rw [fld 4 (by decide)]; exact i4.2.2.1, by rw [fld 5 (by decide)]; exact i4.2.2.2.1, by rw [psI_eq, if_pos rfl], fun j hj => by rw [(ag 31 (by decide)).1, (ag 32 (by decide)).1]; exact i4.2.2.2.2.2 j hj⟩, hX_rows i5 (fun j h1 h2 => ag j (by simp; omega)), imX_rows i6 (fun j h1 h2 => ag j (by simp; omega))⟩, hiA_agr ag (by simp)⟩
    · intro τ1 hm1
      obtain ⟨m1, m2, m3, m4, m5, m6, m7, m8⟩ := hm1
      have b1 := O_seed_M (n := n) m6 a
      rw [if_pos q] at b1
      have ag : agm [] [22] τ1 (psI τ1 249 22 a) := agm_fld (by simp)
      exact ⟨_, b1, ⟨⟨by rw [(ag.1 250 (by simp) (by decide)).1]; exact m1.1, by rw [(ag.2 1 (by decide)).1]; exact m1.2.1, m1.2.2⟩, by rw [(ag.2 2 (by decide)).1]; exact m2, fun r hr => stM_agm (m3 r hr) ag (by simp) (by simp) (by simp), rowN_agm m4 ag (by simp) (by decide), by rw [(ag.2 21 (by decide)).1]; exact m5, by rw [psI_eq, if_pos rfl], hM_agm m7 ag (by decide) (by simp), imM_agm m8 ag (by simp) (by simp) (by simp) (by simp)⟩, loA_agm ag (by simp)⟩
  · have a1 := O_seed_X (n := n) hx.2.2.2.1.2.2.2.2.1 a
    rw [if_neg q] at a1
    refine K_ask hg hx hm (-1) ⟨σ, a1, sX_refl⟩ (fun τ hm1 => ⟨τ, ?_, sM_refl⟩)
    have b1 := O_seed_M (n := n) hm1.2.2.2.2.2.1 a
    rw [if_neg q] at b1
    exact b1
theorem okS_2 (hg : okS S) : S 2 ≤ 6 ∧ S 1 * S 1 ≤ 36 := by
  rcases hg with q | q
  · rw [q 2, q 1]; decide
  · exact ⟨q.2.1.2.2.1, okW_36 q.2.1⟩
theorem K_tent (a b : Int32) (hi : Inv σ) : Kok (F_X11_tent n a b) (F_X12_tent n a b) σ := by
  obtain ⟨B, sz, z, cs, S, h, p, H, fo, x, im, hg, hx, hm⟩ := hi
  obtain ⟨v, h1, h2⟩ := O_tent (n := n) (okS_2 hg.2.2.1).1 a b
  exact K_ask hg hx hm v ⟨σ, h1 σ hx.2.2.2.1.1, sX_refl⟩ (fun τ hm1 => ⟨τ, h2 τ hm1.2.2.2.1, sM_refl⟩)
theorem K_cell (hn : 3000 ≤ n) (a b : Int32) (hi : Inv σ) : Kok (F_X11_cell n a b) (F_X12_cell n a b) σ := by
  obtain ⟨B, sz, z, cs, S, h, p, H, fo, x, im, hg, hx, hm⟩ := hi
  have o2 := okS_2 hg.2.2.1
  have e1 : ∀ c, c < S 1 * S 1 → S (37 + c) ≤ 1 := by
    rcases hg.2.2.1 with q | q
    · intro c hc; rw [q]; omega
    · intro c hc; exact (q.2.1.2.2.2.2.2.2.1 c (by omega)).1
  have e2 : ∀ t, t < S 2 → S (13 + 4 * t) < 2 ^ 31 := by
    rcases hg.2.2.1 with q | q
    · intro t ht; rw [q]; decide
    · intro t ht; have := (q.2.1.2.2.2.2.1 t ht).1; omega
  obtain ⟨v, h1, h2⟩ := O_cell (n := n) (by omega) o2.2 o2.1 e1 e2 a b
  exact K_ask hg hx hm v ⟨σ, h1 σ hx.2.2.2.1.1, sX_refl⟩ (fun τ hm1 => ⟨τ, h2 τ hm1.2.2.2.1, sM_refl⟩)
theorem begS_beg (S : Nat → Nat) : begS (begS S) = begS S := begS_of_lk (begS_lk S)
theorem okC_cp {V : Nat → Nat} (hV : okV 1 V) : okC (begS (saidV V)) := by
  obtain ⟨v0, v1, v1', v2, v3, v4, v5⟩ := hV.2 (by decide)
  have e : ∀ k, k < 158 → saidV V k = V k := fun k hk => if_pos hk
  have hw : okW (begS (saidV V)) 2 := by
    have s1 : begS (saidV V) 1 = V 1 := by rw [begS_lo _ (by decide), e 1 (by decide)]
    have s2 : begS (saidV V) 2 = V 2 := by rw [begS_lo _ (by decide), e 2 (by decide)]
    refine ⟨by rw [s1]; exact v1, by rw [s1]; exact v1', by rw [s2]; exact v2, by rw [begS_11, e 109 (by decide), s1]; exact v3, fun t ht => ?_, by rw [begS_12]; exact Nat.pow_pos (by decide), fun c hc => ?_, by rw [begS_10]; omega⟩
    · rw [s2] at ht
      have t6 : t < 6 := by omega
      rw [begS_t0 _ t6, begS_t1 _ t6, begS_t2 _ t6, begS_t3 _ t6, e _ (by omega), e _ (by omega), s1, s2]
      have := v4 t ht
      exact ⟨this.1, by omega, by omega, Nat.pow_lt_pow_right (by decide) ht⟩
    · rw [begS_b _ hc, begS_n _ hc, e _ (by omega)]
      exact ⟨v5 c hc, by omega⟩
  have z178 : begS (saidV V) 178 = 0 := by rw [begS_hi _ (by decide)]; rfl
  refine ⟨by rw [begS_lo _ (by decide), e 0 (by decide)]; exact v0, by rw [begS_10]; exact hw, by rw [begS_beg]; exact hw, by rw [begS_10]; omega, by rw [z178]; omega, fun j hj => by rw [z178] at hj; omega, fun y hy => ?_⟩
  rw [begS_hi _ (by omega)]
  exact if_neg (by omega)
theorem okS_z (hg : okS S) : ∀ y, 179 ≤ y → S y = 0 := by
  rcases hg with q | q
  · exact fun y _ => q y
  · exact q.2.2.2.2.2.2
theorem K_camp (hn : 3000 ≤ n) (hi : Inv σ) : Kok (F_X11_camp n) (F_X12_camp n) σ := by
  obtain ⟨B, sz, z, cs, S, h, p, H, fo, x, im, hg, hx, hm⟩ := hi
  obtain ⟨g1, g2, g3, g4, g5, g6, g7, g8⟩ := id hg
  obtain ⟨τ, a1, a2, a3⟩ := O_camp_X (n := n) (by omega) hx.1
  by_cases zr : (fcP B sz 41 0 0 (fun _ => 0)).1 = 0
  · have hok := fc_ok (B := B) (sz := sz) 41 0 0 (fun _ => 0) (Nat.zero_le _) (by decide) okV0 zr
    have hC : okC (cpS B sz) := okC_cp hok
    have b3 : RX τ 25 (cpS B sz) ∧ RX τ 19 (cpS B sz) ∧ τ.1 18 4 = nI 0 ∧ τ.1 94 0 = nI 0 ∧ (∀ k, k ≠ 4 → τ.1 18 k = σ.1 18 k) ∧ (∀ k, k ≠ 0 → τ.1 94 k = σ.1 94 k) ∧ agr cpT σ τ := by
      rcases a3 with q | q
      · exact absurd zr q.1
      · exact q.2
    obtain ⟨c1, c2, c3, c4, c5, c6, c7⟩ := b3
    have z178 : cpS B sz 178 = 0 := by unfold cpS; rw [begS_hi _ (by decide)]; rfl
    refine K_do (B' := B) (sz' := 0) (z' := z) (cs' := cs) (S' := cpS B sz) (h' := 0) (p' := p) (H' := H) (fo' := fo) (x' := x) (im' := im) ⟨g1, g2, Or.inr hC, g4, g5, fun q => absurd rfl q, fun j hj => by omega, g8⟩ hm (cpA B sz) ?_ ?_
    · obtain ⟨i1, i2, i3, i4, i5, i6⟩ := hx
      refine ⟨τ, a1, ⟨a2, by rw [(c7 7 (by decide)).1]; exact i2, st_agr i3 g2 (fun j h1 h2 => (c7 j (by simp; omega)).1), ⟨c1, by rw [show begS (cpS B sz) = cpS B sz from begS_beg _]; exact c2, by rw [z178]; exact c3, by rw [c5 5 (by decide)]; exact i4.2.2.2.1, by rw [c5 6 (by decide)]; exact i4.2.2.2.2.1, fun j hj => by rw [z178] at hj; omega⟩, ⟨by omega, i5.2.1, c4, by rw [c6 2 (by decide)]; exact i5.2.2.2.1, fun d hd => by omega⟩, imX_rows i6 (fun j h1 h2 => c7 j (by simp; omega))⟩, hiA_agr c7 (by decide)⟩
    · intro τ1 hm1
      obtain ⟨m1, m2, m3, m4, m5, m6, m7, m8⟩ := hm1
      obtain ⟨υ, b1, b2, b3, b4⟩ := O_camp_M (n := n) (by omega) m1 m4 (okS_z g3)
      have b3' : rowN υ 259 (cpS B sz) ∧ υ.1 249 26 = nI 0 := by
        rcases b3 with q | q
        · exact absurd zr q.1
        · exact q.2
      exact ⟨υ, b1, ⟨b2, by rw [(b4.2 2 (by decide)).1]; exact m2, fun r hr => stM_agm (m3 r hr) b4 (by decide) (by decide) (by decide), b3'.1, by rw [(b4.2 21 (by decide)).1]; exact m5, by rw [(b4.2 22 (by decide)).1]; exact m6, ⟨by omega, b3'.2, fun j hj => by omega⟩, imM_agm m8 b4 (by decide) (by decide) (by decide) (by decide)⟩, loA_agm b4 (by simp)⟩
  · have c7 : agr [1, 217, 218, 219, 220, 221, 222] σ τ := by
      rcases a3 with q | q
      · exact q.2
      · exact absurd q.1 zr
    refine K_do (B' := B) (sz' := 0) (z' := z) (cs' := cs) (S' := S) (h' := h) (p' := p) (H' := H) (fo' := fo) (x' := x) (im' := im) hg hm (cpA B sz) ?_ ?_
    · exact ⟨τ, a1, IX_up hx a2 (by rw [(c7 7 (by decide)).1]; exact hx.2.1) (st_agr hx.2.2.1 g2 (fun j h1 h2 => (c7 j (by simp; omega)).1)) (fun j h1 h2 => c7 j (by simp; omega)), hiA_agr c7 (by decide)⟩
    · intro τ1 hm1
      obtain ⟨m1, m2, m3, m4, m5, m6, m7, m8⟩ := hm1
      obtain ⟨υ, b1, b2, b3, b4⟩ := O_camp_M (n := n) (by omega) m1 m4 (okS_z g3)
      have b3' : rowN υ 259 S ∧ υ.1 249 26 = τ1.1 249 26 := by
        rcases b3 with q | q
        · exact q.2
        · exact absurd q.1 zr
      refine ⟨υ, b1, ⟨b2, by rw [(b4.2 2 (by decide)).1]; exact m2, fun r hr => stM_agm (m3 r hr) b4 (by decide) (by decide) (by decide), b3'.1, by rw [(b4.2 21 (by decide)).1]; exact m5, by rw [(b4.2 22 (by decide)).1]; exact m6, ?_, imM_agm m8 b4 (by decide) (by decide) (by decide) (by decide)⟩, loA_agm b4 (by simp)⟩
      exact ⟨m7.1, by rw [b3'.2]; exact m7.2.1, fun j hj k hk => by rw [(b4.1 262 (by decide) (by decide)).1]; exact m7.2.2 j hj k hk⟩
end K1
