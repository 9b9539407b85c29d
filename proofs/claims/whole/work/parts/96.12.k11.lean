/-! ring: both sides alike. -/
section K11
variable {B : Nat → Int32} {sz z h p : Nat} {cs : Nat → List CL} {S S' : Nat → Nat} {H : Nat → Nat → Nat} {fo x : Int32} {im : Nat → Option IMG} {σ τ : PS} {n : Nat}
def alK (Q : Nat → Int32) (i j : Nat) : Nat → Nat → Bool
  | 0, _ => true
  | m + 1, d => if Q (i + d) = Q (j + d) then alK Q i j m (d + 1) else false
def rg2 (Q : Nat → Int32) (i : Nat) : Nat → Nat → Option Nat
  | 0, _ => none
  | m + 1, k => if alK Q i k 6 0 = true then some k else rg2 Q i m (k + 1)
def rg1 (Q : Nat → Int32) : Nat → Nat → Option (Nat × Nat)
  | 0, _ => none
  | m + 1, k => match rg2 Q k (60 - k) (k + 1) with
    | some j => some (k, j)
    | none => rg1 Q m (k + 1)
theorem X_alike2 {Q : Nat → Int32} (hQ : ∀ k, k < 66 → σ.1 223 k = Q k) {i j : Nat} (hi : i ≤ 60) (hj : j ≤ 60) : ∀ (m K d : Nat), d + m = 6 → m < K → L_X2_isAlike_2 n K (nI i) (nI j) (nI d) σ = some (if alK Q i j m d = true then 1 else 0, σ)
  | _, 0, d, hd, hK => by omega
  | 0, K + 1, d, hd, hK => by
    rw [L_X2_isAlike_2, if_pos (show (5 : Int32) < nI d from nI_lt (show 5 < d by omega) (by omega))]
    rfl
  | m + 1, K + 1, d, hd, hK => by
    rw [L_X2_isAlike_2, if_neg (show ¬ (5 : Int32) < nI d from nI_nlt (show d ≤ 5 by omega) (by decide)), nI_add, nI_add, if_neg (show ¬ Int32.ofNat 66 ≤ nI (j + d) from nI_ge (show j + d < 66 by omega) (by decide)), nI_clamp (by omega), nI_clamp (by omega), if_pos ⟨nI_pos' (by omega), by omega⟩, if_pos ⟨nI_pos' (by omega), by omega⟩, hQ _ (by omega), hQ _ (by omega), nI_1]
    unfold alK
    by_cases q : Q (i + d) = Q (j + d)
    · rw [if_pos q, if_pos q]
      exact X_alike2 hQ hi hj m K (d + 1) (by omega) (by omega)
    · rw [if_neg q, if_neg q, if_neg (by decide)]
theorem M_alike2 {Q : Nat → Int32} (hQ : ∀ k, k < 66 → σ.1 270 k = Q k) {i j : Nat} (hi : i ≤ 60) (hj : j ≤ 60) : ∀ (m K d : Nat), d + m = 6 → m < K → L_X12_areAlike_2 n K (nI i) (nI j) (nI d) σ = some (if alK Q i j m d = true then 1 else 0, σ)
  | _, 0, d, hd, hK => by omega
  | 0, K + 1, d, hd, hK => by
    rw [L_X12_areAlike_2, if_pos (show (6 : Int32) ≤ nI d from nI_le (show 6 ≤ d by omega) (by omega))]
    rfl
  | m + 1, K + 1, d, hd, hK => by
    rw [L_X12_areAlike_2, if_neg (show ¬ (6 : Int32) ≤ nI d from nI_ge (show d < 6 by omega) (by decide)), nI_add, nI_add, nI_clamp (by omega), nI_clamp (by omega), if_pos ⟨nI_pos' (by omega), by omega⟩, if_pos ⟨nI_pos' (by omega), by omega⟩, hQ _ (by omega), hQ _ (by omega), nI_1]
    unfold alK
    by_cases q : Q (i + d) = Q (j + d)
    · rw [if_pos q, if_pos q]
      exact M_alike2 hQ hi hj m K (d + 1) (by omega) (by omega)
    · rw [if_neg q, if_neg q, if_neg (by decide)]
theorem X_alike (hn : 100 ≤ n) {Q : Nat → Int32} (hQ : ∀ k, k < 66 → σ.1 223 k = Q k) {i j : Nat} (hi : i ≤ 60) (hj : j ≤ 60) : F_X2_isAlike n (nI i) (nI j) σ = some (if alK Q i j 6 0 = true then 1 else 0, σ) := by
  unfold F_X2_isAlike
  rw [show L_X2_isAlike_2 n n (nI i) (nI j) (0 : Int32) σ = _ from X_alike2 hQ hi hj 6 n 0 (by omega) (by omega), Option.bind_some]
  by_cases q : alK Q i j 6 0 = true
  · rw [if_pos q, if_pos q]; rfl
  · rw [if_neg q, if_neg q]; rfl
theorem M_alike (hn : 100 ≤ n) {Q : Nat → Int32} (hQ : ∀ k, k < 66 → σ.1 270 k = Q k) {i j : Nat} (hi : i ≤ 60) (hj : j ≤ 60) : F_X12_areAlike n (nI i) (nI j) σ = some (if alK Q i j 6 0 = true then 1 else 0, σ) := by
  unfold F_X12_areAlike
  rw [show L_X12_areAlike_2 n n (nI i) (nI j) (0 : Int32) σ = _ from M_alike2 hQ hi hj 6 n 0 (by omega) (by omega), Option.bind_some]
  by_cases q : alK Q i j 6 0 = true
  · rw [if_pos q, if_pos q]; rfl
  · rw [if_neg q, if_neg q]; rfl
theorem X_ring80 (hn : 100 ≤ n) {Q : Nat → Int32} (hQ : ∀ k, k < 66 → σ.1 223 k = Q k) {i : Nat} (hi : i ≤ 60) : ∀ (m K k : Nat), k + m = 61 → m < K → L_X2_findRing_81 n 18 K (nI i) (nI k) σ = some (match rg2 Q i m k with | none => (1, nI i, 0, σ) | some j => (0, nI i, nI j, σ))
  | _, 0, k, hk, hK => by omega
  | 0, K + 1, k, hk, hK => by
    rw [L_X2_findRing_81, if_pos (show (60 : Int32) < nI k from nI_lt (show 60 < k by omega) (by omega))]
    rfl
  | m + 1, K + 1, k, hk, hK => by
    rw [L_X2_findRing_81, if_neg (show ¬ (60 : Int32) < nI k from nI_nlt (show k ≤ 60 by omega) (by decide)), X_alike hn hQ hi (by omega), Option.bind_some, nI_1]
    unfold rg2
    by_cases q : alK Q i k 6 0 = true
    · rw [if_pos q, if_pos q, if_neg ne10]
    · rw [if_neg q, if_neg q, if_pos rfl]
      exact X_ring80 hn hQ hi m K (k + 1) (by omega) (by omega)
theorem M_ring71 (hn : 100 ≤ n) {Q : Nat → Int32} (hQ : ∀ k, k < 66 → σ.1 270 k = Q k) {i : Nat} {w : Int32} (hi : i ≤ 60) : ∀ (m K k : Nat), k + m = 61 → m < K → L_X12_ring_71 n K w (nI i) (nI k) σ = some (match rg2 Q i m k with | none => (1, w, nI i, 0, σ) | some j => (0, w, nI i, nI j, σ))
  | _, 0, k, hk, hK => by omega
  | 0, K + 1, k, hk, hK => by
    rw [L_X12_ring_71, if_pos (show (60 : Int32) < nI k from nI_lt (show 60 < k by omega) (by omega))]
    rfl
  | m + 1, K + 1, k, hk, hK => by
    rw [L_X12_ring_71, if_neg (show ¬ (60 : Int32) < nI k from nI_nlt (show k ≤ 60 by omega) (by decide)), M_alike hn hQ hi (by omega), Option.bind_some, nI_1]
    unfold rg2
    by_cases q : alK Q i k 6 0 = true
    · rw [if_pos q, if_pos q, if_neg ne10]
    · rw [if_neg q, if_neg q, if_pos rfl]
      exact M_ring71 hn hQ hi m K (k + 1) (by omega) (by omega)
theorem X_ring70 (hn : 100 ≤ n) {Q : Nat → Int32} (hQ : ∀ k, k < 66 → σ.1 223 k = Q k) : ∀ (m K k : Nat), k + m = 60 → m < K → L_X2_findRing_71 n 18 K (nI k) σ = some (match rg1 Q m k with | none => (1, 0, 0, σ) | some j => (0, nI j.1, nI j.2, σ))
  | _, 0, k, hk, hK => by omega
  | 0, K + 1, k, hk, hK => by
    rw [L_X2_findRing_71, if_pos (show (60 : Int32) ≤ nI k from nI_le (show 60 ≤ k by omega) (by omega))]
    rfl
  | m + 1, K + 1, k, hk, hK => by
    rw [L_X2_findRing_71, if_neg (show ¬ (60 : Int32) ≤ nI k from nI_ge (show k < 60 by omega) (by decide)), show nI k + (1 : Int32) = nI (k + 1) from nI_1 _, X_ring80 hn hQ (by omega) (60 - k) n (k + 1) (by omega) (by omega), Option.bind_some]
    unfold rg1
    cases rg2 Q k (60 - k) (k + 1) with
    | none =>
      show L_X2_findRing_71 n 18 K (nI k + 1) σ = _
      rw [nI_1]
      exact X_ring70 hn hQ m K (k + 1) (by omega) (by omega)
    | some j => rfl
theorem M_ring61 (hn : 100 ≤ n) {Q : Nat → Int32} (hQ : ∀ k, k < 66 → σ.1 270 k = Q k) {w : Int32} : ∀ (m K k : Nat), k + m = 60 → m < K → L_X12_ring_61 n K w (nI k) σ = some (match rg1 Q m k with | none => (1, 0, 0, 0, σ) | some j => (0, w, nI j.1, nI j.2, σ))
  | _, 0, k, hk, hK => by omega
  | 0, K + 1, k, hk, hK => by
    rw [L_X12_ring_61, if_pos (show (60 : Int32) ≤ nI k from nI_le (show 60 ≤ k by omega) (by omega))]
    rfl
  | m + 1, K + 1, k, hk, hK => by
    rw [L_X12_ring_61, if_neg (show ¬ (60 : Int32) ≤ nI k from nI_ge (show k < 60 by omega) (by decide)), show nI k + (1 : Int32) = nI (k + 1) from nI_1 _, M_ring71 hn hQ (by omega) (60 - k) n (k + 1) (by omega) (by omega), Option.bind_some]
    unfold rg1
    cases rg2 Q k (60 - k) (k + 1) with
    | none =>
      show L_X12_ring_61 n K w (nI k + 1) σ = _
      rw [nI_1]
      exact M_ring61 hn hQ m K (k + 1) (by omega) (by omega)
    | some j => rfl
theorem X_ring13 {b : Nat} (hn : 3000 ≤ n) (cw : okW S b) (hb : b + 100 < 2 ^ 20) {ru : RU} {fo : Int32} : ∀ (m K k : Nat) (σ : PS), RX σ 217 (pasN S ru k) → foX n σ ru fo → σ.1 18 5 = fo → (∀ j, j < k → σ.1 223 j = nI (pasN S ru j 11)) → k + m = 66 → m < K → ∃ τ, L_X2_findRing_13 n 18 K (nI k) σ = some τ ∧ (∀ j, j < 66 → τ.1 223 j = nI (pasN S ru j 11)) ∧ agx (223 :: wI 217) σ τ
  | _, 0, k, σ, hR, hf, h5, hQ, hk, hK => by omega
  | 0, K + 1, k, σ, hR, hf, h5, hQ, hk, hK => by
    rw [L_X2_findRing_13, if_pos (show Int32.ofNat 66 ≤ nI k from nI_le (show 66 ≤ k by omega) (by omega))]
    exact ⟨σ, rfl, fun j hj => hQ j (by omega), agx_refl⟩
  | m + 1, K + 1, k, σ, hR, hf, h5, hQ, hk, hK => by
    have ag1 : agx (223 :: wI 217) σ (psI σ 223 k (σ.1 217 2)) := agx_psI (by decide) (by decide)
    have hR1 : RX (psI σ 223 k (σ.1 217 2)) 217 (pasN S ru k) := RX_agr hR (agr_psI (T := [223]) (by simp)) (by decide)
    have h51 : (psI σ 223 k (σ.1 217 2)).1 18 5 = fo := by rw [psI_other (by decide)]; exact h5
    obtain ⟨τ, a1, a2, a3⟩ := X_stride (n := n) (i := 217) (b := b + k) (by omega) (by omega) (okW_pasN cw ru k) (by decide) hR1 (foX_agx hf ag1 (by decide))
    have ag2 : agx (223 :: wI 217) σ τ := agx_trans ag1 (agx_mono a3 (by decide))
    rw [L_X2_findRing_13, if_neg (show ¬ Int32.ofNat 66 ≤ nI k from nI_ge (show k < 66 by omega) (by decide)), nI_clamp (by omega), if_pos ⟨nI_pos' (by omega), by omega⟩, h51, a1, Option.bind_some, nI_1]
    obtain ⟨τ2, b1, b2, b3⟩ := X_ring13 hn cw hb (ru := ru) (fo := fo) m K (k + 1) τ a2 (foX_agx hf ag2 (by decide)) (by rw [(ag2.1 18 (by decide) (by decide) (by decide)).1]; exact h5) (fun j hj => by
      rw [(a3.1 223 (by decide) (by decide) (by decide)).1, psI_eq]
      by_cases e : j = k
      · rw [if_pos e, e, hR.2.2.1]
      · rw [if_neg e]; exact hQ j (by omega)) (by omega) (by omega)
    exact ⟨τ2, b1, b2, agx_trans ag2 b3⟩
theorem M_ring25 {b : Nat} (hn : 3000 ≤ n) (cw : okW S b) (hb : b + 100 < 2 ^ 20) {ru : RU} {w : Int32} : ∀ (m K k : Nat) (σ : PS), rowN σ 259 (pasN S ru k) → foM n σ ru → (∀ j, j < k → σ.1 270 j = nI (pasN S ru j 11)) → k + m = 66 → m < K → ∃ τ, L_X12_ring_25 n K w (nI k) σ = some (w, τ) ∧ rowN τ 259 (pasN S ru 66) ∧ (∀ j, j < 66 → τ.1 270 j = nI (pasN S ru j 11)) ∧ agm [257, 258, 259, 260, 261, 270] [18] σ τ
  | _, 0, k, σ, hS, hf, hQ, hk, hK => by omega
  | 0, K + 1, k, σ, hS, hf, hQ, hk, hK => by
    rw [L_X12_ring_25, if_pos (show (66 : Int32) ≤ nI k from nI_le (show 66 ≤ k by omega) (by omega))]
    exact ⟨σ, rfl, by rw [show 66 = k by omega]; exact hS, fun j hj => hQ j (by omega), agm_refl⟩
  | m + 1, K + 1, k, σ, hS, hf, hQ, hk, hK => by
    have ag1 : agm [257, 258, 259, 260, 261, 270] [18] σ (psI σ 270 k (σ.1 259 11)) := agm_psI (by simp) (by decide)
    obtain ⟨τ, a1, a2, a3⟩ := M_passes (n := n) (b := b + k) (by omega) (by omega) (okW_pasN cw ru k) (rowN_other hS (by decide)) (foM_agm hf ag1 (by decide) (by decide) (by decide) (by decide))
    have ag2 : agm [257, 258, 259, 260, 261, 270] [18] σ τ := agm_trans ag1 (agm_mono a3 (by decide) (by decide))
    rw [L_X12_ring_25, if_neg (show ¬ (66 : Int32) ≤ nI k from nI_ge (show k < 66 by omega) (by decide)), nI_clamp (by omega), if_pos ⟨nI_pos' (by omega), by omega⟩, a1, Option.bind_some, nI_1]
    obtain ⟨τ2, b1, b2, b3, b4⟩ := M_ring25 hn cw hb (ru := ru) (w := w) m K (k + 1) τ a2 (foM_agm hf ag2 (by decide) (by decide) (by decide) (by decide)) (fun j hj => by
      rw [(a3.1 270 (by decide) (by decide)).1, psI_eq]
      by_cases e : j = k
      · rw [if_pos e, e, rowN_get hS]
      · rw [if_neg e]; exact hQ j (by omega)) (by omega) (by omega)
    exact ⟨τ2, b1, b2, b3, agm_trans ag2 b4⟩
theorem K_ring (hn : 3000 ≤ n) (a : Int32) (hi : Inv σ) : Kok (F_X11_ring n a) (F_X12_ring n a) σ := by
  obtain ⟨B, sz, z, cs, S, h, p, H, fo, x, im, hg, hx, hm⟩ := hi
  rcases hg.2.2.1 with q | hc
  · refine K_noC hg hx hm (-1) (fun τ hr => ?_) (fun τ hr => ?_)
    · unfold F_X11_ring; rw [X_pitched hr (by rw [q]; decide), Option.bind_some, if_pos (q 1), if_pos rfl]
    · unfold F_X12_ring; rw [M_isCamp hr (by rw [q]; decide), Option.bind_some, if_neg (show ¬ S 0 = 1 by rw [q]; decide), if_pos rfl]
  obtain ⟨c0, cw, cb, c10, c178, cnt, chi⟩ := id hc
  have h1 := cw.1
  have h1' := cw.2.1
  have h2 := cw.2.2.1
  have hs1 : ¬ S 1 = 0 := by omega
  rcases rng a 0 1 (by decide) with ⟨w, _, hw2, hw31, e⟩ | hout | q
  rotate_left
  · refine K_noC hg hx hm (-1) (fun τ hr => ?_) (fun τ hr => ?_)
    · unfold F_X11_ring
      rw [X_pitched hr (by omega), Option.bind_some, if_neg hs1, if_neg ne10]
      by_cases w : a < 0
      · rw [if_pos w]
      · rw [if_neg w, if_neg (show ¬ a ≤ (1 : Int32) from Int32.not_le.mpr (lt_of_out hout w))]
    · unfold F_X12_ring
      rw [M_isCamp hr (by omega), Option.bind_some, if_pos c0, if_neg ne10, show (0 : Int64) = lN 0 from rfl, show (1 : Int64) = lN 1 from rfl, M_in_out (by decide) (by decide) hout, Option.bind_some, if_pos rfl]
  · exact absurd q (by decide)
  subst e
  have pc1 : ¬ nI w < (0 : Int32) := nI_n0 (by omega)
  have pc2 : nI w ≤ (1 : Int32) := nI_le (show w ≤ 1 from hw2) (by decide)
  have hR := hx.2.2.2.1.1
  obtain ⟨τ1, a1, a2⟩ := X_copyFrom (n := n) (i := 217) (a := 25) (by omega) (by omega) (σ := σ)
  have ag1 : agx (wI 217) σ τ1 := agx_of a2.2.2.2.2 (by decide)
  have hR217 := CP_RX a2 hR h2
  obtain ⟨τ2, b1, b2, b3⟩ := X_ring13 (n := n) hn cw (by omega) (ru := ruO cs fo) (fo := fo) 66 n 0 τ1 hR217 (foX_agx (fo_X (by omega) hx hg.2.1 hg.2.2.2.1) ag1 (by decide)) (by rw [(ag1.1 18 (by decide) (by decide) (by decide)).1]; exact hx.2.2.2.1.2.2.2.1) (fun j hj => by omega) (by omega) (by omega)
  have ag3 : agr [216] τ2 (psI (psI τ2 216 3 (-2 : Int32)) 216 4 (-2 : Int32)) := agr_trans (agr_psI (by simp)) (agr_psI (by simp))
  have hRG := X_ring70 (n := n) (σ := psI (psI τ2 216 3 (-2 : Int32)) 216 4 (-2 : Int32)) (Q := fun j => nI (pasN S (ruO cs fo) j 11)) (by omega) (fun j hj => by rw [(ag3 223 (by decide)).1]; exact b2 j hj) 60 n 0 (by omega) (by omega)
  have sx2 : sX σ (psI (psI τ2 216 3 (-2 : Int32)) 216 4 (-2 : Int32)) := sX_trans (sX_agx ag1 (by decide)) (sX_trans (sX_agx b3 (by decide)) (sX_agr ag3 (by decide)))
  have h25 : (psI (psI τ2 216 3 (-2 : Int32)) 216 4 (-2 : Int32)).1 25 3 = nI (S 10) := by
    rw [(ag3 25 (by decide)).1, (b3.1 25 (by decide) (by decide) (by decide)).1, (ag1.1 25 (by decide) (by decide) (by decide)).1]
    exact hR.2.2.2.1
  have hMM : ∀ τ, IM τ B sz z cs S h H fo x im → ∃ υ1 υ2 υ, F_X12_keeps n τ = some υ1 ∧ L_X12_ring_25 n n (nI w) (nI 0) υ1 = some (nI w, υ2) ∧ F_X12_laysBack n υ2 = some υ ∧ rowN υ 259 S ∧ L_X12_ring_61 n n (nI w) (nI 0) υ = some (match rg1 (fun j => nI (pasN S (ruO cs fo) j 11)) 60 0 with | none => (1, 0, 0, 0, υ) | some j => (0, nI w, nI j.1, nI j.2, υ)) ∧ sM τ υ := by
    intro τ hm1
    obtain ⟨υ1, d1, d2, d3⟩ := M_keeps (n := n) (by omega) hm1.2.2.2.1
    have hf := foM_agm (fo_M (n := n) (by omega) hm1 hg.2.1 hg.2.2.2.1) (agm_of d3 (by decide) (Fs := [])) (by decide) (by decide) (by decide) (by simp)
    obtain ⟨υ2, e1, e2, e3, e4⟩ := M_ring25 (n := n) hn cw (by omega) (ru := ruO cs fo) (w := nI w) 66 n 0 υ1 (rowN_agr hm1.2.2.2.1 d3 (by decide)) hf (fun j hj => by omega) (by omega) (by omega)
    obtain ⟨υ, f1, f2, f3⟩ := M_lb (n := n) hn (τ := υ2) (fun i hi => by rw [(e4.1 263 (by decide) (by decide)).1]; exact d2 i hi) e2 (pasN_lk cw _ 66)
    refine ⟨υ1, υ2, υ, d1, e1, f1, f2, M_ring61 (by omega) (fun j hj => by rw [(f3 270 (by decide)).1]; exact e3 j hj) 60 n 0 (by omega) (by omega), ?_⟩
    exact sM_row (T := [257, 258, 259, 260, 261, 263, 270]) (Fs := [18]) (agm_trans (agm_mono (agm_of d3 (by decide) (Fs := [])) (by simp) (by simp)) (agm_trans (agm_mono e4 (by decide) (by simp)) (agm_mono (agm_of f3 (by decide) (Fs := [])) (by simp) (by simp)))) hm1.2.2.2.1 f2 (by decide) (by decide)
  have preX : F_X11_ring n (nI w) σ = (F_X2_findRing n 18 σ).bind (fun q6 => (if nI w = 0 then some ((q6.1 216 3), q6) else some ((q6.1 216 4), q6))) := by
    unfold F_X11_ring
    rw [X_pitched hR (by omega), Option.bind_some, if_neg hs1, if_neg ne10, if_neg pc1, if_pos pc2]
  have preM : ∀ τ υ1 υ2 υ, IM τ B sz z cs S h H fo x im → F_X12_keeps n τ = some υ1 → L_X12_ring_25 n n (nI w) (nI 0) υ1 = some (nI w, υ2) → F_X12_laysBack n υ2 = some υ → F_X12_ring n (nI w) τ = (L_X12_ring_61 n n (nI w) (nI 0) υ).bind (fun o20 => (if o20.1 = 0 then (if o20.2.1 = 0 then some (((o20.2.2.2.2.1 259 10) + o20.2.2.1), o20.2.2.2.2) else some ((o20.2.2.2.1 - o20.2.2.1), o20.2.2.2.2)) else some ((-2 : Int32), o20.2.2.2.2))) := by
    intro τ υ1 υ2 υ hm1 d1 e1 f1
    unfold F_X12_ring
    rw [M_isCamp hm1.2.2.2.1 (by omega), Option.bind_some, if_pos c0, if_neg ne10, show (0 : Int64) = lN 0 from rfl, show (1 : Int64) = lN 1 from rfl, M_in_in (by decide) (by decide) hw31 (by omega) hw2, Option.bind_some, if_neg ne10]
    show (F_X12_keeps n τ).bind _ = _
    rw [d1, Option.bind_some]
    show (L_X12_ring_25 n n (nI w) (nI 0) υ1).bind _ = _
    rw [e1, Option.bind_some]
    show (F_X12_laysBack n υ2).bind _ = _
    rw [f1, Option.bind_some]
    rfl
  have preR : F_X2_findRing n 18 σ = (L_X2_findRing_71 n 18 n (nI 0) (psI (psI τ2 216 3 (-2 : Int32)) 216 4 (-2 : Int32))).bind (fun o12 => (if o12.1 = 0 then some (psI (psI o12.2.2.2 216 3 ((o12.2.2.2.1 25 3) + o12.2.1)) 216 4 (o12.2.2.1 - o12.2.1)) else some o12.2.2.2)) := by
    unfold F_X2_findRing
    show (F_X10_copyFrom n 217 25 σ).bind _ = _
    rw [a1, Option.bind_some]
    show (L_X2_findRing_13 n 18 n (nI 0) τ1).bind _ = _
    rw [b1, Option.bind_some]
    rfl
  generalize hV : psI (psI τ2 216 3 (-2 : Int32)) 216 4 (-2 : Int32) = V at *
  have v3 : V.1 216 3 = -2 := by rw [← hV, psI_eq, if_neg (by decide), psI_eq, if_pos rfl]
  have v4 : V.1 216 4 = -2 := by rw [← hV, psI_eq, if_pos rfl]
  rw [preR, hRG, Option.bind_some] at preX
  cases hr : rg1 (fun j => nI (pasN S (ruO cs fo) j 11)) 60 0 with
  | none =>
    rw [hr] at preX hMM
    refine K_ask hg hx hm (-2) ⟨V, ?_, sx2⟩ (fun τ hm1 => ?_)
    · rw [preX]
      show (if nI w = 0 then some (V.1 216 3, V) else some (V.1 216 4, V)) = _
      rw [v3, v4]
      split <;> rfl
    · obtain ⟨υ1, υ2, υ, d1, e1, f1, f2, g1, g2⟩ := hMM τ hm1
      refine ⟨υ, ?_, g2⟩
      rw [preM τ υ1 υ2 υ hm1 d1 e1 f1, g1, Option.bind_some]
      rfl
  | some j =>
    rw [hr] at preX hMM
    have ag4 : agr [216] V (psI (psI V 216 3 (V.1 25 3 + nI j.1)) 216 4 (nI j.2 - nI j.1)) := agr_trans (agr_psI (by simp)) (agr_psI (by simp))
    have x3 : (psI (psI V 216 3 (V.1 25 3 + nI j.1)) 216 4 (nI j.2 - nI j.1)).1 216 3 = nI (S 10) + nI j.1 := by rw [psI_eq, if_neg (by decide), psI_eq, if_pos rfl, h25]
    have x4 : (psI (psI V 216 3 (V.1 25 3 + nI j.1)) 216 4 (nI j.2 - nI j.1)).1 216 4 = nI j.2 - nI j.1 := by rw [psI_eq, if_pos rfl]
    refine K_ask hg hx hm (if nI w = 0 then nI (S 10) + nI j.1 else nI j.2 - nI j.1) ⟨_, ?_, sX_trans sx2 (sX_agr ag4 (by decide))⟩ (fun τ hm1 => ?_)
    · rw [preX]
      show (if nI w = 0 then some ((psI (psI V 216 3 (V.1 25 3 + nI j.1)) 216 4 (nI j.2 - nI j.1)).1 216 3, psI (psI V 216 3 (V.1 25 3 + nI j.1)) 216 4 (nI j.2 - nI j.1)) else some ((psI (psI V 216 3 (V.1 25 3 + nI j.1)) 216 4 (nI j.2 - nI j.1)).1 216 4, psI (psI V 216 3 (V.1 25 3 + nI j.1)) 216 4 (nI j.2 - nI j.1))) = _
      rw [x3, x4]
      by_cases w0 : nI w = 0
      · rw [if_pos w0, if_pos w0]
      · rw [if_neg w0, if_neg w0]
    · obtain ⟨υ1, υ2, υ, d1, e1, f1, f2, g1, g2⟩ := hMM τ hm1
      refine ⟨υ, ?_, g2⟩
      rw [preM τ υ1 υ2 υ hm1 d1 e1 f1, g1, Option.bind_some]
      show (if nI w = 0 then some (υ.1 259 10 + nI j.1, υ) else some (nI j.2 - nI j.1, υ)) = _
      rw [rowN_get f2]
      by_cases w0 : nI w = 0
      · rw [if_pos w0, if_pos w0]
      · rw [if_neg w0, if_neg w0]
end K11
