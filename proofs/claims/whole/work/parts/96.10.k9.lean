/-! whistle: both sides alike. -/
section K9
variable {B : Nat → Int32} {sz z h p : Nat} {cs : Nat → List CL} {S S' : Nat → Nat} {H : Nat → Nat → Nat} {fo x : Int32} {im : Nat → Option IMG} {σ τ : PS} {n : Nat}
/-- the first of those that are m away -/
def tI (N : Nat → Nat) (m : Nat) (acc : Nat × Nat) (L : List Nat) : Prop := (m < acc.2 ∧ ∀ c ∈ L, c ≠ 99 → N c ≠ m) ∨ (acc.2 = m ∧ acc.1 ≠ 99 ∧ N acc.1 = m ∧ acc.1 ∈ L ∧ ∀ c ∈ L, c ≠ 99 → N c = m → acc.1 ≤ c)
theorem tI_step {N : Nat → Nat} {m : Nat} {acc : Nat × Nat} {L : List Nat} {c : Nat} (hlo : c ≠ 99 → m ≤ N c) (hord : ∀ b ∈ L, b ≠ 99 → c ≠ 99 → b ≤ c) (ht : tI N m acc L) : tI N m (tst N acc c) (c :: L) := by
  unfold tst
  rcases ht with ⟨h1, h2⟩ | ⟨h1, h2, h3, h4, h5⟩
  · by_cases q : c ≠ 99 ∧ N c < acc.2
    · rw [if_pos q]
      by_cases e : N c = m
      · exact Or.inr ⟨e, q.1, e, List.mem_cons_self, fun b hb hb9 hbm => by
          rcases List.mem_cons.mp hb with w | w
          · rw [w]; exact Nat.le_refl _
          · exact absurd hbm (h2 b w hb9)⟩
      · have := hlo q.1
        exact Or.inl ⟨show m < N c by omega, fun b hb hb9 => by
          rcases List.mem_cons.mp hb with w | w
          · rw [w]; exact e
          · exact h2 b w hb9⟩
    · rw [if_neg q]
      refine Or.inl ⟨h1, fun b hb hb9 => ?_⟩
      rcases List.mem_cons.mp hb with w | w
      · rw [w] at hb9 ⊢
        intro e
        exact q ⟨hb9, by omega⟩
      · exact h2 b w hb9
  · have q : ¬ (c ≠ 99 ∧ N c < acc.2) := fun w => by have := hlo w.1; omega
    rw [if_neg q]
    refine Or.inr ⟨h1, h2, h3, List.mem_cons_of_mem _ h4, fun b hb hb9 hbm => ?_⟩
    rcases List.mem_cons.mp hb with w | w
    · rw [w] at hb9 ⊢
      exact hord _ h4 h2 hb9
    · exact h5 b w hb9 hbm
theorem tst_far {N : Nat → Nat} {a c : Nat} (h : c ≠ 99 → 36 ≤ N c) : tst N (a, 36) c = (a, 36) := by
  unfold tst
  rw [if_neg (fun w => by have := h w.1; have := w.2; omega)]
theorem ps_bes {S : Nat → Nat} {a v : Nat} (h9 : v ≠ 99) : (bes (S 1) a v ∧ S (37 + v) = 0) ↔ (v = ps S a 2 ∨ v = ps S a 0 ∨ v = ps S a 1 ∨ v = ps S a 3) := by
  have one : ∀ d, v = ps S a d ↔ nb (S 1) a d = v ∧ S (37 + v) = 0 := by
    intro d
    constructor
    · intro e
      rcases ps_cases S a d with w | ⟨w1, w2, w3⟩
      · rw [w] at e; exact absurd e h9
      · rw [e, w1]; exact ⟨rfl, w3⟩
    · rintro ⟨e1, e2⟩
      unfold ps
      rw [e1, if_neg h9, if_pos e2]
  rw [one, one, one, one]
  unfold bes
  constructor
  · rintro ⟨e | e | e | e, w⟩
    · exact Or.inr (Or.inl ⟨e, w⟩)
    · exact Or.inr (Or.inr (Or.inl ⟨e, w⟩))
    · exact Or.inl ⟨e, w⟩
    · exact Or.inr (Or.inr (Or.inr ⟨e, w⟩))
  · rintro (⟨e, w⟩ | ⟨e, w⟩ | ⟨e, w⟩ | ⟨e, w⟩)
    · exact ⟨Or.inr (Or.inr (Or.inl e)), w⟩
    · exact ⟨Or.inl e, w⟩
    · exact ⟨Or.inr (Or.inl e), w⟩
    · exact ⟨Or.inr (Or.inr (Or.inr e)), w⟩
theorem wy_low {b : Nat} (cw : okW S b) {a c : Nat} (ha : a < S 1 * S 1) (hc : c < S 1 * S 1) {d : Nat} (hd : d < 4) (h9 : ps S a d ≠ 99) : wy S (ps S a d) c = 99 ∨ (wy S a c ≠ 99 ∧ wy S a c ≤ wy S (ps S a d) c + 1) := by
  have h36 := okW_36 cw
  rcases ps_cases S a d with w | ⟨w1, w2, w3⟩
  · exact absurd w h9
  · rw [w1]
    have hv := nb_lt ha w2
    by_cases e : wy S (nb (S 1) a d) c = 99
    · exact Or.inl e
    · exact Or.inr (tri1 h36 (wy_is cw ha) (wy_is cw hv) ha hd rfl w2 w3 _ c hc e rfl)
theorem wy_next {b : Nat} (cw : okW S b) {a c : Nat} (ha : a < S 1 * S 1) (hc : c < S 1 * S 1) (hne : a ≠ c) (h9 : wy S a c ≠ 99) : ∃ d, d < 4 ∧ ps S a d ≠ 99 ∧ wy S (ps S a d) c + 1 = wy S a c := by
  have h36 := okW_36 cw
  have hD := wy_is cw ha
  have hlt := hD.2.2.2 c hc h9
  have hpos : wy S a c ≠ 0 := by
    obtain ⟨_, u, d, _, _, _, _, e⟩ := hD.2.1 c hc (fun q => hne q.symm) h9
    omega
  obtain ⟨d, d1, d2, d3, d4, d5⟩ := tri2 h36 ha hD (fun v => wy S v) (fun v hv => wy_is cw hv) (wy S a c - 1) c hc (by omega) (by omega)
  have e : ps S a d = nb (S 1) a d := by unfold ps; rw [if_neg d2, if_pos d3]
  refine ⟨d, d1, by rw [e]; exact d2, ?_⟩
  have := wy_low cw ha hc d1 (by rw [e]; exact d2)
  rw [e] at this ⊢
  omega
/-- the class's next cell, on the way to c -/
theorem tw_first {b : Nat} (cw : okW S b) {c : Nat} (hc : c < S 1 * S 1) (hne : S 11 ≠ c) : (wy S (S 11) c = 99 → (twF S (fun v => wy S v c)).1 = S 11) ∧ (wy S (S 11) c ≠ 99 → ∃ f, (twF S (fun v => wy S v c)).1 = f ∧ f < S 1 * S 1 ∧ (bes (S 1) (S 11) f ∧ S (37 + f) = 0 ∧ wy S f c + 1 = wy S (S 11) c) ∧ ∀ v, v < f → ¬ (bes (S 1) (S 11) v ∧ S (37 + v) = 0 ∧ wy S v c + 1 = wy S (S 11) c)) := by
  have h36 := okW_36 cw
  have ha := cw.2.2.2.1
  constructor
  · intro w
    have far : ∀ d, d < 4 → ps S (S 11) d ≠ 99 → 36 ≤ wy S (ps S (S 11) d) c := by
      intro d hd h9
      rcases wy_low cw ha hc hd h9 with e | ⟨e, _⟩
      · omega
      · exact absurd w e
    unfold twF
    rw [tst_far (far 2 (by decide)), tst_far (far 0 (by decide)), tst_far (far 1 (by decide)), tst_far (far 3 (by decide))]
  · intro w
    have hlt := (wy_is cw ha).2.2.2 c hc w
    obtain ⟨d, d1, d2, d3⟩ := wy_next cw ha hc hne w
    have lo : ∀ d, d < 4 → ps S (S 11) d ≠ 99 → wy S (S 11) c - 1 ≤ wy S (ps S (S 11) d) c := by
      intro d hd h9
      rcases wy_low cw ha hc hd h9 with e | ⟨_, e⟩ <;> omega
    obtain ⟨o2, o0, o1, o3⟩ := nb_ord (c := S 11) cw.1
    have c2 := ps_cases S (S 11) 2
    have c0 := ps_cases S (S 11) 0
    have c1 := ps_cases S (S 11) 1
    have c3 := ps_cases S (S 11) 3
    have s1 := cw.1
    have t0 : tI (fun v => wy S v c) (wy S (S 11) c - 1) (S 11, 36) [] := Or.inl ⟨show _ < 36 by omega, fun _ h => by cases h⟩
    have t1 := tI_step (c := ps S (S 11) 2) (lo 2 (by decide)) (fun b hb => by cases hb) t0
    have t2 := tI_step (c := ps S (S 11) 0) (lo 0 (by decide)) (fun b hb hb9 h9 => by simp only [List.mem_cons, List.not_mem_nil, or_false] at hb; subst hb; omega) t1
    have t3 := tI_step (c := ps S (S 11) 1) (lo 1 (by decide)) (fun b hb hb9 h9 => by simp only [List.mem_cons, List.not_mem_nil, or_false] at hb; rcases hb with e | e <;> subst e <;> omega) t2
    have t4 := tI_step (c := ps S (S 11) 3) (lo 3 (by decide)) (fun b hb hb9 h9 => by simp only [List.mem_cons, List.not_mem_nil, or_false] at hb; rcases hb with e | e | e <;> subst e <;> omega) t3
    have mem : ∀ v, (v = ps S (S 11) 2 ∨ v = ps S (S 11) 0 ∨ v = ps S (S 11) 1 ∨ v = ps S (S 11) 3) ↔ v ∈ [ps S (S 11) 3, ps S (S 11) 1, ps S (S 11) 0, ps S (S 11) 2] := by
      intro v
      simp only [List.mem_cons, List.not_mem_nil, or_false]
      constructor
      · rintro (e | e | e | e) <;> simp [e]
      · rintro (e | e | e | e) <;> simp [e]
    change tI (fun v => wy S v c) (wy S (S 11) c - 1) (twF S (fun v => wy S v c)) _ at t4
    have hd4 : ps S (S 11) d ∈ [ps S (S 11) 3, ps S (S 11) 1, ps S (S 11) 0, ps S (S 11) 2] := by
      have : d = 0 ∨ d = 1 ∨ d = 2 ∨ d = 3 := by omega
      rcases this with e | e | e | e <;> subst e <;> simp
    rcases t4 with ⟨_, q⟩ | ⟨_, q2, q3, q4, q5⟩
    · exact absurd (show wy S (ps S (S 11) d) c = wy S (S 11) c - 1 by omega) (q _ hd4 d2)
    · have q3' : wy S (twF S (fun v => wy S v c)).1 c = wy S (S 11) c - 1 := q3
      have hpos : wy S (S 11) c ≠ 0 := by omega
      have hb := (ps_bes q2).mpr ((mem _).mpr q4)
      have flt : (twF S (fun v => wy S v c)).1 < S 1 * S 1 := by
        rcases (mem _).mpr q4 with e | e | e | e <;> rw [e] <;> exact (ps_lt ha h36).mpr (by rw [← e]; exact q2)
      refine ⟨_, rfl, flt, ⟨hb.1, hb.2, by omega⟩, fun v hv hh => ?_⟩
      have hv9 : v ≠ 99 := by omega
      have := q5 v ((mem v).mp ((ps_bes hv9).mp ⟨hh.1, hh.2.1⟩)) hv9 (show wy S v c = wy S (S 11) c - 1 by have := hh.2.2; omega)
      omega
theorem M_first15 {b : Nat} (hn : 100 ≤ n) (cw : okW S b) {c f : Nat} (hc : c < S 1 * S 1) (hf : f < S 1 * S 1) (h1 : bes (S 1) (S 11) f ∧ S (37 + f) = 0 ∧ wy S f c + 1 = wy S (S 11) c) (h2 : ∀ v, v < f → ¬ (bes (S 1) (S 11) v ∧ S (37 + v) = 0 ∧ wy S v c + 1 = wy S (S 11) c)) : ∀ (m v : Nat) (σ : PS), rowN σ 259 S → v ≤ f → f < m + v → ∃ τ, L_X12_firstOfWay_15 n m (nI c) (nI (wy S (S 11) c)) (nI v) σ = some (nI f, τ) ∧ agr [260, 261] σ τ
  | 0, v, σ, hS, hv, hm => by omega
  | m + 1, v, σ, hS, hv, hm => by
    have h36 := okW_36 cw
    have ha := cw.2.2.2.1
    have hb := (cw.2.2.2.2.2.2.1 v (by omega)).1
    rw [L_X12_firstOfWay_15, rowN_get hS, nI_1]
    have again : ∀ τ, agr [260, 261] σ τ → ¬ v = f → ∃ υ, L_X12_firstOfWay_15 n m (nI c) (nI (wy S (S 11) c)) (nI (v + 1)) τ = some (nI f, υ) ∧ agr [260, 261] σ υ := by
      intro τ hag hne
      obtain ⟨υ, u1, u2⟩ := M_first15 hn cw hc hf h1 h2 m (v + 1) τ (rowN_agr hS hag (by decide)) (by omega) (by omega)
      exact ⟨υ, u1, agr_trans hag u2⟩
    rcases M_areBeside hn hS cw.1 cw.2.1 ha (show v < S 1 * S 1 by omega) with ⟨q, e⟩ | ⟨q, e⟩
    · rw [e, Option.bind_some, if_neg ne10]
      show ∃ τ, (F_X12_isBush n (nI v) σ).bind _ = _ ∧ _
      rw [M_isBush hS (by omega) (by omega), Option.bind_some]
      by_cases w : S (37 + v) = 0
      · rw [if_pos (show (if S (37 + v) = 0 then (0 : Int32) else 1) = 0 from if_pos w)]
        show ∃ τ, (F_X12_wayBetween n (nI v) (nI c) σ).bind _ = _ ∧ _
        obtain ⟨τ, a1, a2⟩ := M_wayB (n := n) (fr := v) hn hS cw (by omega) hc
        have r1 := wy_rng cw (show v < S 1 * S 1 by omega) hc
        have r2 := wy_rng cw ha hc
        rw [a1, Option.bind_some]
        by_cases y : wy S v c + 1 = wy S (S 11) c
        · have : v = f := by
            apply Classical.byContradiction
            intro hne
            exact h2 v (by omega) ⟨q, w, y⟩
          rw [if_pos (show nI (wy S v c) = nI (wy S (S 11) c) - (1 : Int32) by rw [← y]; exact (nI_pred _).symm), this]
          exact ⟨τ, rfl, a2⟩
        · have hne : ¬ v = f := fun z => by subst z; exact y h1.2.2
          rw [if_neg ?_]
          · exact again τ a2 hne
          · show ¬ nI (wy S v c) = nI (wy S (S 11) c) - (1 : Int32)
            have fp := h1.2.2
            rw [show nI (wy S (S 11) c) - (1 : Int32) = nI (wy S f c) by rw [← fp]; exact nI_pred _]
            have r3 := wy_rng cw hf hc
            exact fun z => y (by have := nI_inj (by omega) (by omega) z; omega)
      · have hne : ¬ v = f := fun z => by subst z; exact w h1.2.1
        rw [if_neg (show ¬ (if S (37 + v) = 0 then (0 : Int32) else 1) = 0 by rw [if_neg w]; decide)]
        exact again σ agr_refl hne
    · have hne : ¬ v = f := fun z => by subst z; exact q h1.1
      rw [e, Option.bind_some, if_pos rfl]
      exact again σ agr_refl hne
theorem K_whistle (hn : 3000 ≤ n) (a : Int32) (hi : Inv σ) : Kok (F_X11_whistle n a) (F_X12_whistle n a) σ := by
  obtain ⟨B, sz, z, cs, S, h, p, H, fo, x, im, hg, hx, hm⟩ := hi
  have o2 := okS_2 hg.2.2.1
  by_cases q1 : isI (S 1 * S 1) a = 0
  · exact K_noC hg hx hm (-1) (fun τ hr => by unfold F_X11_whistle; rw [X_hasCell hr, Option.bind_some, if_pos q1]) (fun τ hr => by unfold F_X12_whistle; rw [M_isCell hr, Option.bind_some, if_pos q1])
  obtain ⟨c, hcc, e⟩ := isI_of (by omega) q1
  subst e
  have hc : okC S := okC_of hg.2.2.1 (fun w => by rw [w] at hcc; omega)
  obtain ⟨c0, cw, cb, c10, c178, cnt, chi⟩ := id hc
  have hR := hx.2.2.2.1.1
  have h11 := cw.2.2.2.1
  have hT := X_towards (n := n) (i := 25) (tm := 2 ^ c) (by omega) hR cw.1 cw.2.1 h11 (inQ_one hcc) (N := fun v => wy S v c) (fun v hv => X_dist1 (n := n) (i := 25) (by omega) hR cw hv hcc)
  have pre : F_X11_whistle n (nI c) σ = (if nI (if (2 ^ c).testBit (S 11) = true then S 11 else (twF S (fun v => wy S v c)).1) = nI (S 11) then some ((-1 : Int32), σ) else (F_X0_keep n 25 σ).bind (fun q7 => some (nI (if (2 ^ c).testBit (S 11) = true then S 11 else (twF S (fun v => wy S v c)).1), psI q7 25 2 (nI (if (2 ^ c).testBit (S 11) = true then S 11 else (twF S (fun v => wy S v c)).1))))) := by
    unfold F_X11_whistle
    rw [X_hasCell hR, Option.bind_some, if_neg q1]
    show (F_X10_towards n 25 _ σ).bind _ = _
    rw [show (1 : Int64) = lN 1 from rfl, wb_shl 1 (show c < 64 by omega), Nat.one_mul, hT, Option.bind_some]
    show (if _ = σ.1 25 2 then _ else _) = _
    rw [hR.2.2.1]
  by_cases e11 : S 11 = c
  · refine K_ask hg hx hm (-1) ⟨σ, ?_, sX_refl⟩ (fun τ hm1 => ⟨τ, ?_, sM_refl⟩)
    · have tb : (2 ^ c).testBit (S 11) = true := by rw [Nat.testBit_two_pow, decide_eq_true_iff]; exact e11.symm
      rw [if_pos tb] at pre
      rw [pre, if_pos rfl]
    · unfold F_X12_whistle
      rw [M_isCell hm1.2.2.2.1, Option.bind_some, if_neg q1]
      show (if nI c = τ.1 259 11 then _ else _) = _
      rw [rowN_get hm1.2.2.2.1, e11, if_pos rfl]
  have nb : ¬ (2 ^ c).testBit (S 11) = true := by rw [Nat.testBit_two_pow, decide_eq_true_iff]; exact fun w => e11 w.symm
  rw [if_neg nb] at pre
  obtain ⟨tA, tB⟩ := tw_first cw hcc e11
  by_cases w99 : wy S (S 11) c = 99
  · refine K_ask hg hx hm (-1) ⟨σ, ?_, sX_refl⟩ (fun τ hm1 => ?_)
    · rw [pre, tA w99, if_pos rfl]
    · obtain ⟨υ, b1, b2⟩ := M_wayB (n := n) (by omega) hm1.2.2.2.1 cw h11 hcc
      refine ⟨υ, ?_, sM_agm (agm_of b2 (by decide) (Fs := [])) (by decide) (by simp)⟩
      unfold F_X12_whistle
      rw [M_isCell hm1.2.2.2.1, Option.bind_some, if_neg q1]
      show (if nI c = τ.1 259 11 then _ else (F_X12_wayBetween n (τ.1 259 11) (nI c) τ).bind _) = _
      rw [rowN_get hm1.2.2.2.1, if_neg (fun w => e11 (nI_inj (by omega) (by omega) w).symm), b1, Option.bind_some, w99, if_pos (show nI 99 = (99 : Int32) from rfl)]
  obtain ⟨f, f1, f2, f3, f4⟩ := tB w99
  rw [f1] at pre
  have f11 : ¬ f = S 11 := by
    intro w
    have := f3.2.2
    rw [w] at this
    omega
  have hl : lk S (un S 11 f) := fun j hj => un_ne _ _ (by omega)
  have hw' : okW (un S 11 f) (S 10 + 2) := by
    obtain ⟨w1, w2, w3, w4, w5, w6, w7, w8⟩ := cw
    have e : ∀ j, j ≠ 11 → un S 11 f j = S j := fun j hj => un_ne _ _ hj
    refine ⟨by rw [e 1 (by omega)]; exact w1, by rw [e 1 (by omega)]; exact w2, by rw [e 2 (by omega)]; exact w3, by rw [un_eq, e 1 (by omega)]; exact f2, fun u hu => ?_, by rw [e 12 (by omega), e 2 (by omega)]; exact w6, fun y hy => by rw [e _ (by omega), e _ (by omega)]; exact w7 y hy, by rw [e 10 (by omega)]; exact w8⟩
    rw [e 2 (by omega)] at hu
    rw [e 1 (by omega), e 2 (by omega), e (13 + 4 * u) (by omega), e (13 + 4 * u + 1) (by omega), e (13 + 4 * u + 2) (by omega), e (13 + 4 * u + 3) (by omega)]
    exact w5 u hu
  have s10 : un S 11 f 10 = S 10 := un_ne _ _ (by omega)
  refine K_act hg hx hm hc (okC_lk hc hl (by rw [s10]; exact hw') (by rw [s10]; exact c10)) hl (nI f) ?_ ?_
  · obtain ⟨τ, a1, a2, a3⟩ := X_keep (n := n) (by omega) o2.1 hR hx.2.2.2.2.1
    have hR' := RX_agr hR a3 (keep_m hx.2.2.2.2.1.2.1)
    have ag : agr (94 :: 25 :: wI (96 + 6 * p)) σ (psI τ 25 2 (nI f)) := agr_trans (keep_mono a3) (agr_psI (by simp))
    have fr := fr_agr ag (keep_T hx.2.2.2.2.1.2.1 (by omega))
    refine ⟨_, ?_, RX_question hR' o2.2 o2.1 f, hX_agr a2 (agr_psI (T := [25]) (by simp)) (one_T (by decide)), fr.1, fr.2.1, fr.2.2⟩
    rw [pre, if_neg (fun w => f11 (nI_inj (by omega) (by omega) w)), a1, Option.bind_some]
  · intro τ hm1
    have hS := hm1.2.2.2.1
    obtain ⟨υ1, b1, b2⟩ := M_wayB (n := n) (by omega) hS cw h11 hcc
    have hS1 := rowN_agr hS b2 (by decide)
    obtain ⟨υ2, d1, d2, d3⟩ := M_keepsAct (n := n) hn hS1 (hM_agr hm1.2.2.2.2.2.2.1 b2 (by decide) (by decide))
    have hS2 := rowN_agm hS1 d3 (by decide) (by decide)
    obtain ⟨υ3, e1, e2⟩ := M_wayB (n := n) (by omega) hS2 cw h11 hcc
    have hS3 := rowN_agr hS2 e2 (by decide)
    obtain ⟨υ4, g1, g2⟩ := M_first15 (n := n) (by omega) cw hcc f2 f3 f4 n 0 υ3 hS3 (by omega) (by omega)
    have hS4 := rowN_agr hS3 g2 (by decide)
    have hS5 := rowN_set (k := 11) (v := f) hS4
    have ag : agm [259, 260, 261, 262] [26] τ (psI υ4 259 11 (nI f)) := agm_trans (agm_mono (agm_of b2 (by decide) (Fs := [])) (by simp) (by simp)) (agm_trans (agm_mono d3 (by simp) (by simp)) (agm_trans (agm_mono (agm_of e2 (by decide) (Fs := [])) (by simp) (by simp)) (agm_trans (agm_mono (agm_of g2 (by decide) (Fs := [])) (by simp) (by simp)) (agm_psI (by simp) (by decide)))))
    refine ⟨_, _, _, ?_, hS5, hM_agr (hM_agr (hM_agr d2 e2 (by decide) (by decide)) g2 (by decide) (by decide)) (agr_psI (T := [259]) (by simp)) (by decide) (by decide), ag, by decide, by decide⟩
    have r2 := wy_rng cw h11 hcc
    unfold F_X12_whistle F_X12_firstOfWay
    rw [M_isCell hS, Option.bind_some, if_neg q1]
    show (if nI c = τ.1 259 11 then _ else (F_X12_wayBetween n (τ.1 259 11) (nI c) τ).bind _) = _
    rw [rowN_get hS, if_neg (fun w => e11 (nI_inj (by omega) (by omega) w).symm), b1, Option.bind_some, if_neg (show ¬ nI (wy S (S 11) c) = (99 : Int32) from fun q => w99 (nI_inj (b := 99) (by omega) (by decide) q))]
    show (F_X12_keepsAct n υ1).bind _ = _
    rw [d1, Option.bind_some]
    show ((F_X12_wayBetween n (υ2.1 259 11) (nI c) υ2).bind _).bind _ = _
    rw [rowN_get hS2, e1, Option.bind_some]
    show ((L_X12_firstOfWay_15 n n (nI c) (nI (wy S (S 11) c)) (nI 0) υ3).bind _).bind _ = _
    rw [g1, Option.bind_some, Option.bind_some]
    show some ((psI υ4 259 11 (nI f)).1 259 11, psI υ4 259 11 (nI f)) = _
    rw [rowN_get hS5, un_eq]
end K9
