/-! Steps to come: ahead, first, knowsAll; both sides alike. -/
theorem aK_asked2 (S : Nat → Nat) (c : Nat) {t : Nat} (ht : t < 6) : ∀ k, k ≤ 6 → t < k → aK S c k (13 + 4 * t + 2) = S (13 + 4 * t + 2) + (if S (13 + 4 * t) = c then 1 else 0)
  | 0, _, h => by omega
  | k + 1, hk, h => by
    have hc := aK_cell S c (j := 13 + 4 * k) (by omega) (Or.inr (Or.inr ⟨k, rfl⟩)) k (by omega)
    unfold aK
    by_cases e : t = k
    · subst e
      have h0 := aK_asked S c ht t (Nat.le_refl _)
      by_cases q : S (13 + 4 * t) = c
      · rw [if_pos q, if_pos q]
        unfold askS
        rw [un_ne _ _ (by omega), un_ne _ _ (by omega), un_ne _ _ (by omega), un_eq, h0]
      · rw [if_neg q, if_neg q, h0]; rfl
    · have ih := aK_asked2 S c ht k (by omega) (by omega)
      split
      · rw [askS_ne (by omega) (by omega) (by omega) (by omega)]; exact ih
      · exact ih
theorem pasS_asked {S : Nat → Nat} {b : Nat} (hw : okW S b) (ru : RU) {t : Nat} (ht : t < S 2) : pasS S ru (13 + 4 * t + 2) = S (13 + 4 * t + 2) + (if S (13 + 4 * t) = chS S ru then 1 else 0) := by
  have h2 := hw.2.2.1
  have hc := chS_lt hw ru
  have h36 := okW_36 hw
  unfold pasS
  rw [un_ne _ _ (by omega), aK_asked2 _ _ (by omega) _ h2 ht, un_ne _ _ (by omega), un_ne _ _ (by omega), un_ne _ _ (by omega), un_ne _ _ (by omega)]
section K5
variable {B : Nat → Int32} {sz z h p : Nat} {cs : Nat → List CL} {S S' : Nat → Nat} {H : Nat → Nat → Nat} {fo x : Int32} {im : Nat → Option IMG} {σ τ : PS} {n : Nat}
theorem pasN_2 {b : Nat} (hw : okW S b) (ru : RU) (k : Nat) : pasN S ru k 2 = S 2 ∧ pasN S ru k 1 = S 1 := ⟨pasN_lk hw ru k 2 (by omega), pasN_lk hw ru k 1 (by omega)⟩
theorem pasN_10 (S : Nat → Nat) (ru : RU) : ∀ k, pasN S ru k 10 = S 10 + k
  | 0 => rfl
  | k + 1 => by
    have ih := pasN_10 S ru k
    show pasS (pasN S ru k) ru 10 = _
    unfold pasS
    rw [un_eq, ih]; omega
/-- laid back -/
theorem M_lb (hn : 3000 ≤ n) {T : Nat → Nat} (hK : ∀ i, i < 99 → τ.1 263 i = nI (S (10 + i))) (hT : rowN τ 259 T) (hl : lk S T) : ∃ υ, F_X12_laysBack n τ = some υ ∧ rowN υ 259 S ∧ agr [259] τ υ := by
  obtain ⟨υ, a, b, c⟩ := M_laysBack (n := n) (by omega) (K := fun k => S (10 + k)) hT hK
  exact ⟨υ, a, by rw [lay_lk hl] at b; exact b, c⟩
abbrev scT : List Nat := [257, 258, 259, 260, 261, 263]
/-- a camp, or none: the refusals -/
theorem K_noC {F1 F2 : PS → Option (Int32 × PS)} (hg : okG B z S h H fo x im) (hx : IX σ B sz z cs S h p H fo x im) (hm : IM σ B sz z cs S h H fo x im) (v : Int32) (h1 : ∀ τ, RX τ 25 S → F1 τ = some (v, τ)) (h2 : ∀ τ, rowN τ 259 S → F2 τ = some (v, τ)) : Kok F1 F2 σ :=
  K_ask hg hx hm v ⟨σ, h1 σ hx.2.2.2.1.1, sX_refl⟩ (fun τ hm1 => ⟨τ, h2 τ hm1.2.2.2.1, sM_refl⟩)
theorem lt_of_out {a : Int32} {lo hi : Nat} (hout : a < nI lo ∨ (¬ a < 0 ∧ nI hi < a ∧ ∃ k, k < 2 ^ 31 ∧ hi < k ∧ a = nI k)) (hq : ¬ a < nI lo) : nI hi < a := by
  rcases hout with q | q
  · exact absurd q hq
  · exact q.2.1
theorem fo_X' (hn : 3000 ≤ n) (hx : IX σ B sz z cs S h p H fo x im) (hg : okG B z S h H fo x im) : foX n σ (ruO cs fo) (σ.1 18 5) := by
  rw [hx.2.2.2.1.2.2.2.1]; exact fo_X (by omega) hx hg.2.1 hg.2.2.2.1
theorem K_ahead (hn : 3000 ≤ n) (a b c : Int32) (hi : Inv σ) : Kok (F_X11_ahead n a b c) (F_X12_ahead n a b c) σ := by
  obtain ⟨B, sz, z, cs, S, h, p, H, fo, x, im, hg, hx, hm⟩ := hi
  rcases hg.2.2.1 with q | hc
  · refine K_noC hg hx hm (-1) (fun τ hr => ?_) (fun τ hr => ?_)
    · unfold F_X11_ahead; rw [X_pitched hr (by rw [q]; decide), Option.bind_some, if_pos (q 1), if_pos rfl]
    · unfold F_X12_ahead; rw [M_isCamp hr (by rw [q]; decide), Option.bind_some, if_neg (show ¬ S 0 = 1 by rw [q]; decide), if_pos rfl]
  obtain ⟨c0, cw, cb, c10, c178, cnt, chi⟩ := id hc
  have h1 := cw.1
  have h1' := cw.2.1
  have hs1 : ¬ S 1 = 0 := by omega
  rcases rng b 0 100 (by decide) with ⟨m, _, hm100, hm31, e⟩ | hout | q
  rotate_left
  · refine K_noC hg hx hm (-1) (fun τ hr => ?_) (fun τ hr => ?_)
    · unfold F_X11_ahead
      rw [X_pitched hr (by omega), Option.bind_some, if_neg hs1, if_neg ne10]
      by_cases w : b < 0
      · rw [if_pos w]
      · rw [if_neg w, if_pos (show (100 : Int32) < b from lt_of_out hout w)]
    · unfold F_X12_ahead
      rw [M_isCamp hr (by omega), Option.bind_some, if_pos c0, if_neg ne10, show (0 : Int64) = lN 0 from rfl, show (100 : Int64) = lN 100 from rfl, M_in_out (by decide) (by decide) hout, Option.bind_some, if_pos rfl]
  · exact absurd q (by decide)
  subst e
  have pb1 : ¬ nI m < (0 : Int32) := nI_n0 (by omega)
  have pb2 : ¬ (100 : Int32) < nI m := nI_nlt (show m ≤ 100 from hm100) (by decide)
  rcases rng c 0 2 (by decide) with ⟨w, _, hw2, hw31, e⟩ | hout | q
  rotate_left
  · refine K_noC hg hx hm (-1) (fun τ hr => ?_) (fun τ hr => ?_)
    · unfold F_X11_ahead
      rw [X_pitched hr (by omega), Option.bind_some, if_neg hs1, if_neg ne10, if_neg pb1, if_neg pb2]
      by_cases w : c < 0
      · rw [if_pos w]
      · rw [if_neg w, if_neg (show ¬ c ≤ (2 : Int32) from Int32.not_le.mpr (lt_of_out hout w))]
    · unfold F_X12_ahead
      rw [M_isCamp hr (by omega), Option.bind_some, if_pos c0, if_neg ne10, show (0 : Int64) = lN 0 from rfl, show (100 : Int64) = lN 100 from rfl, M_in_in (by decide) (by decide) hm31 (by omega) hm100, Option.bind_some, if_neg ne10, show (2 : Int64) = lN 2 from rfl, M_in_out (by decide) (by decide) hout, Option.bind_some, if_pos rfl]
  · exact absurd q (by decide)
  subst e
  have pc1 : ¬ nI w < (0 : Int32) := nI_n0 (by omega)
  have pc2 : nI w ≤ (2 : Int32) := nI_le (show w ≤ 2 from hw2) (by decide)
  have hR := hx.2.2.2.1.1
  obtain ⟨τ1, a1, a2, a3⟩ := X_after (n := n) (a := 18) (m := m) (by omega) cw (ru := ruO cs fo) (by omega) (by omega) (by omega) (by omega) hR (fo_X' hn hx hg)
  have sx : sX σ τ1 := sX_agx a3 (by decide)
  generalize hT : pasN S (ruO cs fo) m = T at *
  have hlk : lk S T := by rw [← hT]; exact pasN_lk cw _ _
  have hM : ∀ τ, IM τ B sz z cs S h H fo x im → ∃ τ1 τ2, F_X12_keeps n τ = some τ1 ∧ F_X12_passesAll n (nI m) τ1 = some τ2 ∧ rowN τ2 259 T ∧ (∀ i, i < 99 → τ2.1 263 i = nI (S (10 + i))) ∧ agm scT [18] τ τ2 := by
    intro τ hm1
    obtain ⟨υ1, b1, b2, b3⟩ := M_keeps (n := n) (by omega) hm1.2.2.2.1
    have hf := foM_agm (fo_M (n := n) (by omega) hm1 hg.2.1 hg.2.2.2.1) (agm_of b3 (by decide) (Fs := [])) (by decide) (by decide) (by decide) (by simp)
    obtain ⟨υ2, d1, d2, d3⟩ := M_passesAll (n := n) (m := m) (by omega) (b := S 10 + 2) (by omega) cw (by omega) (rowN_agr hm1.2.2.2.1 b3 (by decide)) hf
    rw [hT] at d2
    exact ⟨υ1, υ2, b1, d1, d2, fun i hi => by rw [(d3.1 263 (by decide) (by decide)).1]; exact b2 i hi, agm_trans (agm_mono (agm_of b3 (by decide) (Fs := [])) (by simp) (by simp)) (agm_mono d3 (by simp) (by simp))⟩
  have fin : ∀ (τ τ2 : PS), rowN τ 259 S → rowN τ2 259 T → (∀ i, i < 99 → τ2.1 263 i = nI (S (10 + i))) → agm scT [18] τ τ2 → ∃ υ, F_X12_laysBack n τ2 = some υ ∧ sM τ υ := by
    intro τ τ2 hr hr2 hK ag
    obtain ⟨υ, e1, e2, e3⟩ := M_lb (n := n) hn hK hr2 hlk
    exact ⟨υ, e1, sM_row (agm_trans ag (agm_mono (agm_of e3 (by decide) (Fs := [])) (by simp) (by simp))) hr e2 (by decide) (by decide)⟩
  by_cases w0 : w = 0
  · subst w0
    refine K_ask hg hx hm (nI (T 11)) ⟨τ1, ?_, sx⟩ (fun τ hm1 => ?_)
    · unfold F_X11_ahead
      rw [X_pitched hR (by omega), Option.bind_some, if_neg hs1, if_neg ne10, if_neg pb1, if_neg pb2, if_neg pc1, if_pos pc2, if_pos (show nI 0 = (0 : Int32) from rfl)]
      show (F_X2_after n 18 (nI m) σ).bind _ = _
      rw [a1, Option.bind_some, if_pos (show nI 0 = (0 : Int32) from rfl)]
      show some (τ1.1 217 2, τ1) = _
      rw [a2.2.2.1]
    · obtain ⟨υ1, υ2, b1, d1, d2, d3, d4⟩ := hM τ hm1
      obtain ⟨υ, e1, e2⟩ := fin τ υ2 hm1.2.2.2.1 d2 d3 d4
      refine ⟨υ, ?_, e2⟩
      unfold F_X12_ahead
      rw [M_isCamp hm1.2.2.2.1 (by omega), Option.bind_some, if_pos c0, if_neg ne10, show (0 : Int64) = lN 0 from rfl, show (100 : Int64) = lN 100 from rfl, M_in_in (by decide) (by decide) hm31 (by omega) hm100, Option.bind_some, if_neg ne10, show (2 : Int64) = lN 2 from rfl, M_in_in (by decide) (by decide) hw31 (by omega) hw2, Option.bind_some, if_neg ne10, if_pos (show nI 0 ≤ (0 : Int32) by decide)]
      show (F_X12_keeps n τ).bind _ = _
      rw [b1, Option.bind_some, d1, Option.bind_some, if_pos (show nI 0 = (0 : Int32) from rfl), e1, Option.bind_some, rowN_get d2]
  · have nw0 : ¬ nI w = (0 : Int32) := nI_ne0 (by omega) (by omega)
    have nle : ¬ nI w ≤ (0 : Int32) := nI_nle (by omega) (by omega)
    by_cases q1 : isI (S 2) a = 0
    · refine K_noC hg hx hm (-1) (fun τ hr => ?_) (fun τ hr => ?_)
      · unfold F_X11_ahead
        rw [X_pitched hr (by omega), Option.bind_some, if_neg hs1, if_neg ne10, if_neg pb1, if_neg pb2, if_neg pc1, if_pos pc2, if_neg nw0, X_hasTent hr, Option.bind_some, if_pos q1]
      · unfold F_X12_ahead
        rw [M_isCamp hr (by omega), Option.bind_some, if_pos c0, if_neg ne10, show (0 : Int64) = lN 0 from rfl, show (100 : Int64) = lN 100 from rfl, M_in_in (by decide) (by decide) hm31 (by omega) hm100, Option.bind_some, if_neg ne10, show (2 : Int64) = lN 2 from rfl, M_in_in (by decide) (by decide) hw31 (by omega) hw2, Option.bind_some, if_neg ne10, if_neg nle, M_isTent hr, Option.bind_some, if_pos q1]
    obtain ⟨t, ht, e⟩ := isI_of (by have := cw.2.2.1; omega) q1
    subst e
    have t6 : t < 6 := by have := cw.2.2.1; omega
    have tT : t < T 2 := by rw [hlk 2 (by omega)]; exact ht
    have hRt := RX_tent a2 tT
    refine K_ask hg hx hm (if nI w = (1 : Int32) then nI (T (13 + 4 * t + 2)) else nI (T (13 + 4 * t + 3))) ⟨τ1, ?_, sx⟩ (fun τ hm1 => ?_)
    · unfold F_X11_ahead
      rw [X_pitched hR (by omega), Option.bind_some, if_neg hs1, if_neg ne10, if_neg pb1, if_neg pb2, if_neg pc1, if_pos pc2, if_neg nw0, X_hasTent hR, Option.bind_some, if_neg q1]
      show (F_X2_after n 18 (nI m) σ).bind _ = _
      rw [a1, Option.bind_some, if_neg nw0, nI_clamp (by omega)]
      by_cases w1 : nI w = (1 : Int32)
      · rw [if_pos w1, if_pos w1, if_pos ⟨nI_pos' (by omega), t6⟩]
        show some (τ1.1 (217 + 3) t, τ1) = _
        rw [hRt.2.2.1]
      · rw [if_neg w1, if_neg w1, if_pos ⟨nI_pos' (by omega), t6⟩]
        show some (τ1.1 (217 + 4) t, τ1) = _
        rw [hRt.2.2.2]
    · obtain ⟨υ1, υ2, b1, d1, d2, d3, d4⟩ := hM τ hm1
      obtain ⟨υ, e1, e2⟩ := fin τ υ2 hm1.2.2.2.1 d2 d3 d4
      refine ⟨υ, ?_, e2⟩
      unfold F_X12_ahead
      rw [M_isCamp hm1.2.2.2.1 (by omega), Option.bind_some, if_pos c0, if_neg ne10, show (0 : Int64) = lN 0 from rfl, show (100 : Int64) = lN 100 from rfl, M_in_in (by decide) (by decide) hm31 (by omega) hm100, Option.bind_some, if_neg ne10, show (2 : Int64) = lN 2 from rfl, M_in_in (by decide) (by decide) hw31 (by omega) hw2, Option.bind_some, if_neg ne10, if_neg nle, M_isTent hm1.2.2.2.1, Option.bind_some, if_neg q1]
      show (F_X12_keeps n τ).bind _ = _
      rw [b1, Option.bind_some, d1, Option.bind_some, if_neg nw0]
      by_cases w1 : nI w = (1 : Int32)
      · rw [if_pos w1, if_pos w1, M_askedOf d2 t6, Option.bind_some]
        show (F_X12_laysBack n υ2).bind _ = _
        rw [e1, Option.bind_some]
      · rw [if_neg w1, if_neg w1, M_knownBy d2 t6, Option.bind_some]
        show (F_X12_laysBack n υ2).bind _ = _
        rw [e1, Option.bind_some]
/-- the first of the steps to come in which a tent is asked -/
noncomputable def fiA (S : Nat → Nat) (ru : RU) (t : Nat) : Nat → Nat → Option Nat
  | 0, _ => none
  | m + 1, k => if pasN S ru k (13 + 4 * t) = chS (pasN S ru k) ru then some k else fiA S ru t m (k + 1)
theorem pasN_cell {b : Nat} (hw : okW S b) (ru : RU) {t : Nat} (ht : t < 6) : ∀ k, pasN S ru k (13 + 4 * t) = S (13 + 4 * t)
  | 0 => rfl
  | k + 1 => by
    have ih := pasN_cell hw ru ht k
    have hk := okW_pasN hw ru k
    have hc := chS_lt hk ru
    have h36 := okW_36 hk
    show pasS (pasN S ru k) ru (13 + 4 * t) = _
    unfold pasS
    rw [un_ne _ _ (by omega), aK_cell _ _ (by omega) (Or.inr (Or.inr ⟨t, rfl⟩)) _ hk.2.2.1, un_ne _ _ (by omega), un_ne _ _ (by omega)]
    exact ih
theorem X_first13 (hn : 3000 ≤ n) (cw : okW S (S 10 + 2)) (c10 : S 10 ≤ 999) {ru : RU} {fo : Int32} {t : Nat} (ht : t < S 2) : ∀ (m kf k : Nat) (σ : PS), RX σ 217 (pasN S ru k) → RX σ 25 S → foX n σ ru fo → σ.1 18 5 = fo → k + m = 200 → m < kf → pasN S ru k (13 + 4 * t + 2) = S (13 + 4 * t + 2) → ∃ e v τ, L_X2_firstAsked_13 n 18 kf (nI t) (nI k) σ = some (e, v, τ) ∧ agx (wI 217) σ τ ∧ ((fiA S ru t m k = none ∧ e = 1) ∨ (∃ j, fiA S ru t m k = some j ∧ j < 200 ∧ e = 0 ∧ v = nI j))
  | 0, 0, k, σ, hR, hR0, hf, h5, hkm, hkf, ha => by omega
  | 0, kf + 1, k, σ, hR, hR0, hf, h5, hkm, hkf, ha => by
    rw [L_X2_firstAsked_13, if_pos (show (200 : Int32) ≤ nI k from nI_le (show 200 ≤ k by omega) (by omega))]
    exact ⟨_, _, _, rfl, agx_refl, Or.inl ⟨rfl, rfl⟩⟩
  | m + 1, 0, k, σ, hR, hR0, hf, h5, hkm, hkf, ha => by omega
  | m + 1, kf + 1, k, σ, hR, hR0, hf, h5, hkm, hkf, ha => by
    have h2 := cw.2.2.1
    have hk := okW_pasN cw ru k
    have e2 := (pasN_2 cw ru k).1
    obtain ⟨τ, a1, a2, a3⟩ := X_stride (n := n) (i := 217) (b := S 10 + 2 + k) (by omega) (by omega) hk (by decide) hR hf
    rw [L_X2_firstAsked_13, if_neg (show ¬ (200 : Int32) ≤ nI k from nI_ge (show k < 200 by omega) (by decide)), h5, a1, Option.bind_some, nI_clamp (by omega), if_pos ⟨nI_pos' (by omega), by omega⟩]
    have hR0' : RX τ 25 S := RX_agx hR0 a3 (by decide) (by decide)
    have g1 : τ.1 220 t = nI (pasN S ru (k + 1) (13 + 4 * t + 2)) := (RX_tent a2 (by show t < pasN S ru (k + 1) 2; rw [(pasN_2 cw ru (k + 1)).1]; exact ht)).2.2.1
    have g2 : τ.1 (18 + 7 + 3) t = nI (S (13 + 4 * t + 2)) := (RX_tent hR0' ht).2.2.1
    have pa := pasS_asked hk ru (t := t) (by rw [e2]; exact ht)
    have bd := (cw.2.2.2.2.1 t ht).2.2.1
    rw [g1, g2]
    unfold fiA
    by_cases q : pasN S ru k (13 + 4 * t) = chS (pasN S ru k) ru
    · rw [if_pos q] at pa ⊢
      have e3 : pasN S ru (k + 1) (13 + 4 * t + 2) = S (13 + 4 * t + 2) + 1 := by show pasS (pasN S ru k) ru _ = _; rw [pa, ha]
      rw [e3, if_neg (nI_ge (by omega) (by omega))]
      exact ⟨_, _, _, rfl, a3, Or.inr ⟨k, rfl, by omega, rfl, rfl⟩⟩
    · rw [if_neg q] at pa ⊢
      have e3 : pasN S ru (k + 1) (13 + 4 * t + 2) = S (13 + 4 * t + 2) := by show pasS (pasN S ru k) ru _ = _; rw [pa, ha]; rfl
      rw [e3, if_pos (nI_le (Nat.le_refl _) (by omega)), nI_1]
      obtain ⟨e, v, τ2, b1, b2, b3⟩ := X_first13 hn cw c10 ht m kf (k + 1) τ a2 hR0' (foX_agx hf a3 (by decide)) (by rw [(a3.1 18 (by decide) (by decide) (by decide)).1]; exact h5) (by omega) (by omega) e3
      exact ⟨e, v, τ2, b1, agx_trans a3 b2, b3⟩
theorem M_first19 (hn : 3000 ≤ n) (cw : okW S (S 10 + 2)) (c10 : S 10 ≤ 999) {ru : RU} {t : Nat} (ht : t < S 2) : ∀ (m kf k : Nat) (σ : PS), rowN σ 259 (pasN S ru k) → foM n σ ru → k + m = 200 → m + 1 < kf → ∃ v j τ, L_X12_first_19 n kf (nI t) (-2) (nI k) σ = some (v, τ) ∧ rowN τ 259 (pasN S ru j) ∧ agm [257, 258, 259, 260, 261] [18] σ τ ∧ ((fiA S ru t m k = none ∧ v = -2) ∨ (∃ i, fiA S ru t m k = some i ∧ v = nI (S 10 + i)))
  | 0, 0, k, σ, hS, hf, hkm, hkf => by omega
  | 0, kf + 1, k, σ, hS, hf, hkm, hkf => by
    rw [L_X12_first_19, if_pos (show (200 : Int32) ≤ nI k from nI_le (show 200 ≤ k by omega) (by omega))]
    exact ⟨_, k, _, rfl, hS, agm_refl, Or.inl ⟨rfl, rfl⟩⟩
  | m + 1, 0, k, σ, hS, hf, hkm, hkf => by omega
  | m + 1, kf + 1, k, σ, hS, hf, hkm, hkf => by
    have h2 := cw.2.2.1
    have hk := okW_pasN cw ru k
    have e2 := (pasN_2 cw ru k).1
    obtain ⟨τ, a1, a2, a3⟩ := M_passes (n := n) (b := S 10 + 2 + k) (by omega) (by omega) hk hS hf
    have t64 := tOn_lt (pasN S ru k) (chS (pasN S ru k) ru) (pasN S ru k 2)
    have p64 : 2 ^ (pasN S ru k 2) ≤ 2 ^ 6 := Nat.pow_le_pow_right (by decide) (by rw [e2]; exact h2)
    rw [L_X12_first_19, if_neg (show ¬ (200 : Int32) ≤ nI k from nI_ge (show k < 200 by omega) (by decide)), if_neg (by decide), a1, Option.bind_some]
    show ∃ v j τ', (F_X12_isOf n (nI (tOn (pasN S ru k) (chS (pasN S ru k) ru) (pasN S ru k 2))) (nI t) τ).bind _ = some (v, τ') ∧ _
    rw [M_isOf (by omega) (by omega), Option.bind_some, tOn_bit, e2]
    have hs10 : τ.1 259 10 = nI (S 10 + k + 1) := by rw [rowN_get a2, show pasS (pasN S ru k) ru = pasN S ru (k + 1) from rfl, pasN_10]; rfl
    unfold fiA
    by_cases q : pasN S ru k (13 + 4 * t) = chS (pasN S ru k) ru
    · rw [decide_eq_true (show t < S 2 ∧ pasN S ru k (13 + 4 * t) = chS (pasN S ru k) ru from ⟨ht, q⟩), if_pos rfl, if_neg ne10, if_pos q]
      show ∃ v j τ', L_X12_first_19 n kf (nI t) (τ.1 259 10 - 1) (nI k + 1) τ = some (v, τ') ∧ _
      obtain ⟨kg, hkg⟩ : ∃ kg, kf = kg + 1 := ⟨kf - 1, by omega⟩
      rw [hs10, show nI (S 10 + k + 1) - 1 = nI (S 10 + k) from nI_pred _, nI_1, hkg, L_X12_first_19]
      by_cases w : 200 ≤ k + 1
      · rw [if_pos (show (200 : Int32) ≤ nI (k + 1) from nI_le (show 200 ≤ k + 1 from w) (by omega))]
        exact ⟨_, k + 1, _, rfl, a2, a3, Or.inr ⟨k, rfl, rfl⟩⟩
      · rw [if_neg (show ¬ (200 : Int32) ≤ nI (k + 1) from nI_ge (show k + 1 < 200 by omega) (by decide)), if_pos (nI_pos' (by omega))]
        exact ⟨_, k + 1, _, rfl, a2, a3, Or.inr ⟨k, rfl, rfl⟩⟩
    · rw [decide_eq_false (show ¬ (t < S 2 ∧ pasN S ru k (13 + 4 * t) = chS (pasN S ru k) ru) from fun w => q w.2), if_neg (show ¬ (false = true) by decide), if_pos rfl, if_neg q, nI_1]
      obtain ⟨v, j, τ2, b1, b2, b3, b4⟩ := M_first19 hn cw c10 ht m kf (k + 1) τ a2 (foM_agm hf a3 (by decide) (by decide) (by decide) (by decide)) (by omega) (by omega)
      exact ⟨v, j, τ2, b1, b2, agm_trans a3 b3, b4⟩
theorem K_first (hn : 3000 ≤ n) (a : Int32) (hi : Inv σ) : Kok (F_X11_first n a) (F_X12_first n a) σ := by
  obtain ⟨B, sz, z, cs, S, h, p, H, fo, x, im, hg, hx, hm⟩ := hi
  have o2 := okS_2 hg.2.2.1
  by_cases q1 : isI (S 2) a = 0
  · exact K_noC hg hx hm (-1) (fun τ hr => by unfold F_X11_first; rw [X_hasTent hr, Option.bind_some, if_pos q1]) (fun τ hr => by unfold F_X12_first; rw [M_isTent hr, Option.bind_some, if_pos q1])
  obtain ⟨t, ht, e⟩ := isI_of (by omega) q1
  subst e
  have hc : okC S := by
    rcases hg.2.2.1 with w | w
    · rw [w 2] at ht; omega
    · exact w
  obtain ⟨c0, cw, cb, c10, c178, cnt, chi⟩ := id hc
  have hR := hx.2.2.2.1.1
  obtain ⟨τ1, a1, a2⟩ := X_copyFrom (n := n) (i := 217) (a := 25) (by omega) (by omega) (σ := σ)
  have ag1 : agx (wI 217) σ τ1 := agx_of a2.2.2.2.2 (by decide)
  have hR217 := CP_RX a2 hR o2.1
  obtain ⟨e, v, τ2, b1, b2, b3⟩ := X_first13 (n := n) hn cw c10 (ru := ruO cs fo) (fo := fo) ht 200 n 0 τ1 hR217 (RX_agx hR ag1 (by decide) (by decide)) (foX_agx (fo_X (by omega) hx hg.2.1 hg.2.2.2.1) ag1 (by decide)) (by rw [(ag1.1 18 (by decide) (by decide) (by decide)).1]; exact hx.2.2.2.1.2.2.2.1) (by omega) (by omega) rfl
  have sx : sX σ τ2 := sX_agx (agx_trans ag1 b2) (by decide)
  have h253 : τ2.1 25 3 = nI (S 10) := (RX_agx (RX_agx hR ag1 (by decide) (by decide)) b2 (by decide) (by decide)).2.2.2.1
  refine K_ask hg hx hm (match fiA S (ruO cs fo) t 200 0 with | none => -2 | some i => nI (S 10 + i)) ⟨τ2, ?_, sx⟩ (fun τ hm1 => ?_)
  · unfold F_X11_first
    rw [X_hasTent hR, Option.bind_some, if_neg q1]
    unfold F_X2_firstAsked
    show (((F_X10_copyFrom n 217 25 σ).bind _)).bind _ = _
    rw [a1, Option.bind_some]
    show (((L_X2_firstAsked_13 n 18 n (nI t) (nI 0) τ1).bind _)).bind _ = _
    rw [b1, Option.bind_some]
    rcases b3 with ⟨w1, w2⟩ | ⟨j, w1, w2, w3, w4⟩
    · subst w2
      rw [w1]
      rfl
    · subst w3
      subst w4
      rw [w1]
      show (if (0 : Nat) = 0 then some (τ2.1 25 3 + nI j, τ2) else _).bind _ = _
      rw [if_pos rfl, h253, nI_add]
      rfl
  · obtain ⟨υ1, d1, d2, d3⟩ := M_keeps (n := n) (by omega) hm1.2.2.2.1
    have hf := foM_agm (fo_M (n := n) (by omega) hm1 hg.2.1 hg.2.2.2.1) (agm_of d3 (by decide) (Fs := [])) (by decide) (by decide) (by decide) (by simp)
    obtain ⟨v2, j, υ2, e1, e2, e3, e4⟩ := M_first19 (n := n) hn cw c10 (ru := ruO cs fo) ht 200 n 0 υ1 (rowN_agr hm1.2.2.2.1 d3 (by decide)) hf (by omega) (by omega)
    obtain ⟨υ, f1, f2, f3⟩ := M_lb (n := n) hn (τ := υ2) (fun i hi => by rw [(e3.1 263 (by decide) (by decide)).1]; exact d2 i hi) e2 (pasN_lk cw _ j)
    refine ⟨υ, ?_, sM_row (T := scT) (Fs := [18]) (agm_trans (agm_mono (agm_of d3 (by decide) (Fs := [])) (by simp) (by simp)) (agm_trans (agm_mono e3 (by simp) (by simp)) (agm_mono (agm_of f3 (by decide) (Fs := [])) (by simp) (by simp)))) hm1.2.2.2.1 f2 (by decide) (by decide)⟩
    unfold F_X12_first
    rw [M_isTent hm1.2.2.2.1, Option.bind_some, if_neg q1]
    show (F_X12_keeps n τ).bind _ = _
    rw [d1, Option.bind_some]
    show (L_X12_first_19 n n (nI t) (-2) (nI 0) υ1).bind _ = _
    rw [e1, Option.bind_some]
    show (F_X12_laysBack n υ2).bind _ = _
    rw [f1, Option.bind_some]
    rcases e4 with ⟨w1, w2⟩ | ⟨i, w1, w2⟩
    · rw [w1, w2]
    · rw [w1, w2]
end K5
