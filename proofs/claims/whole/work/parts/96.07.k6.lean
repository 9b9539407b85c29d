/-! knowsAll, most, count: both sides alike. -/
section K6
variable {B : Nat → Int32} {sz z h p : Nat} {cs : Nat → List CL} {S S' : Nat → Nat} {H : Nat → Nat → Nat} {fo x : Int32} {im : Nat → Option IMG} {σ τ : PS} {n : Nat}
/-- the first of the steps to come ahead of which a tent knows all -/
noncomputable def fiK (S : Nat → Nat) (ru : RU) (t : Nat) : Nat → Nat → Option Nat
  | 0, _ => none
  | m + 1, k => if pasN S ru k (13 + 4 * t + 3) = 2 ^ S 2 - 1 then some k else fiK S ru t m (k + 1)
theorem shl_all : ∀ t, t < 7 → (1 : Int32) <<< (nI t &&& 31) - 1 = nI (2 ^ t - 1) := by decide +kernel
theorem known_lt {b : Nat} (cw : okW S b) (ru : RU) {t : Nat} (ht : t < S 2) (k : Nat) : pasN S ru k (13 + 4 * t + 3) < 64 := by
  have hk := okW_pasN cw ru k
  have e2 := (pasN_2 cw ru k).1
  have := (hk.2.2.2.2.1 t (by rw [e2]; exact ht)).2.2.2
  have h6 := cw.2.2.1
  have p64 : 2 ^ (pasN S ru k 2) ≤ 2 ^ 6 := Nat.pow_le_pow_right (by decide) (by rw [e2]; exact h6)
  omega
theorem all_lt (h2 : S 2 ≤ 6) : 2 ^ S 2 - 1 < 64 := by
  have p64 : 2 ^ (S 2) ≤ 2 ^ 6 := Nat.pow_le_pow_right (by decide) h2
  omega
theorem X_know26 (hn : 3000 ≤ n) (cw : okW S (S 10 + 2)) (c10 : S 10 ≤ 999) {ru : RU} {fo : Int32} {t : Nat} (ht : t < S 2) : ∀ (m kf k : Nat) (σ : PS), RX σ 217 (pasN S ru k) → foX n σ ru fo → σ.1 18 5 = fo → k + m = 201 → m < kf → ∃ e v τ, L_X2_firstKnowing_26 n 18 kf (nI t) (nI (2 ^ S 2 - 1)) (nI k) σ = some (e, v, τ) ∧ agx (wI 217) σ τ ∧ ((fiK S ru t m k = none ∧ e = 1) ∨ (∃ j, fiK S ru t m k = some j ∧ e = 0 ∧ v = nI j))
  | 0, 0, k, σ, hR, hf, h5, hkm, hkf => by omega
  | 0, kf + 1, k, σ, hR, hf, h5, hkm, hkf => by
    rw [L_X2_firstKnowing_26, if_pos (show (200 : Int32) < nI k from nI_lt (show 200 < k by omega) (by omega))]
    exact ⟨_, _, _, rfl, agx_refl, Or.inl ⟨rfl, rfl⟩⟩
  | m + 1, 0, k, σ, hR, hf, h5, hkm, hkf => by omega
  | m + 1, kf + 1, k, σ, hR, hf, h5, hkm, hkf => by
    have h2 := cw.2.2.1
    have hk := okW_pasN cw ru k
    have e2 := (pasN_2 cw ru k).1
    have g1 : σ.1 221 t = nI (pasN S ru k (13 + 4 * t + 3)) := (RX_tent hR (by rw [e2]; exact ht)).2.2.2
    have k64 := known_lt cw ru ht k
    have a64 := all_lt h2
    rw [L_X2_firstKnowing_26, if_neg (show ¬ (200 : Int32) < nI k from nI_nlt (show k ≤ 200 by omega) (by decide)), nI_clamp (by omega), if_pos ⟨nI_pos' (by omega), by omega⟩, g1]
    unfold fiK
    by_cases q : pasN S ru k (13 + 4 * t + 3) = 2 ^ S 2 - 1
    · rw [if_pos (by rw [q]), if_pos q]
      exact ⟨_, _, _, rfl, agx_refl, Or.inr ⟨k, rfl, rfl, rfl⟩⟩
    · rw [if_neg (fun w => q (nI_inj (by omega) (by omega) w)), if_neg q]
      obtain ⟨τ, a1, a2, a3⟩ := X_stride (n := n) (i := 217) (b := S 10 + 2 + k) (by omega) (by omega) hk (by decide) hR hf
      rw [h5, a1, Option.bind_some, nI_1]
      obtain ⟨e, v, τ2, b1, b2, b3⟩ := X_know26 hn cw c10 ht m kf (k + 1) τ a2 (foX_agx hf a3 (by decide)) (by rw [(a3.1 18 (by decide) (by decide) (by decide)).1]; exact h5) (by omega) (by omega)
      exact ⟨e, v, τ2, b1, agx_trans a3 b2, b3⟩
theorem M_know51 (hn : 3000 ≤ n) (cw : okW S (S 10 + 2)) (c10 : S 10 ≤ 999) {ru : RU} {t : Nat} (ht : t < S 2) : ∀ (m kf k : Nat) (σ : PS), rowN σ 259 (pasN S ru k) → foM n σ ru → k + m = 200 → m + 1 < kf → ∃ v j τ, L_X12_knowsAll_51 n kf (nI t) (nI (2 ^ S 2 - 1)) (-2) (nI k) σ = some (v, τ) ∧ rowN τ 259 (pasN S ru j) ∧ agm [257, 258, 259, 260, 261] [18] σ τ ∧ ((fiK S ru t m (k + 1) = none ∧ v = -2) ∨ (∃ i, fiK S ru t m (k + 1) = some (i + 1) ∧ v = nI (S 10 + i)))
  | 0, 0, k, σ, hS, hf, hkm, hkf => by omega
  | 0, kf + 1, k, σ, hS, hf, hkm, hkf => by
    rw [L_X12_knowsAll_51, if_pos (show (200 : Int32) ≤ nI k from nI_le (show 200 ≤ k by omega) (by omega))]
    exact ⟨_, k, _, rfl, hS, agm_refl, Or.inl ⟨rfl, rfl⟩⟩
  | m + 1, 0, k, σ, hS, hf, hkm, hkf => by omega
  | m + 1, kf + 1, k, σ, hS, hf, hkm, hkf => by
    have h2 := cw.2.2.1
    have hk := okW_pasN cw ru k
    obtain ⟨τ, a1, a2, a3⟩ := M_passes (n := n) (b := S 10 + 2 + k) (by omega) (by omega) hk hS hf
    have a2' : rowN τ 259 (pasN S ru (k + 1)) := a2
    have k64 := known_lt cw ru ht (k + 1)
    have a64 := all_lt h2
    rw [L_X12_knowsAll_51, if_neg (show ¬ (200 : Int32) ≤ nI k from nI_ge (show k < 200 by omega) (by decide)), if_neg (by decide), a1, Option.bind_some]
    show ∃ v j τ', (F_X12_knownBy n (nI t) τ).bind _ = some (v, τ') ∧ _
    rw [M_knownBy a2' (by omega), Option.bind_some]
    have hs10 : τ.1 259 10 = nI (S 10 + k + 1) := by rw [rowN_get a2', pasN_10]; rfl
    unfold fiK
    by_cases q : pasN S ru (k + 1) (13 + 4 * t + 3) = 2 ^ S 2 - 1
    · rw [if_pos (show nI (pasN S ru (k + 1) (13 + 4 * t + 3)) = nI (2 ^ S 2 - 1) by rw [q]), if_pos q]
      show ∃ v j τ', L_X12_knowsAll_51 n kf (nI t) (nI (2 ^ S 2 - 1)) (τ.1 259 10 - 1) (nI k + 1) τ = some (v, τ') ∧ _
      obtain ⟨kg, hkg⟩ : ∃ kg, kf = kg + 1 := ⟨kf - 1, by omega⟩
      rw [hs10, show nI (S 10 + k + 1) - 1 = nI (S 10 + k) from nI_pred _, nI_1, hkg, L_X12_knowsAll_51]
      by_cases w : 200 ≤ k + 1
      · rw [if_pos (show (200 : Int32) ≤ nI (k + 1) from nI_le (show 200 ≤ k + 1 from w) (by omega))]
        exact ⟨_, k + 1, _, rfl, a2', a3, Or.inr ⟨k, rfl, rfl⟩⟩
      · rw [if_neg (show ¬ (200 : Int32) ≤ nI (k + 1) from nI_ge (show k + 1 < 200 by omega) (by decide)), if_pos (nI_pos' (by omega))]
        exact ⟨_, k + 1, _, rfl, a2', a3, Or.inr ⟨k, rfl, rfl⟩⟩
    · rw [if_neg (show ¬ nI (pasN S ru (k + 1) (13 + 4 * t + 3)) = nI (2 ^ S 2 - 1) from fun w => q (nI_inj (by omega) (by omega) w)), if_neg q, nI_1]
      obtain ⟨v, j, τ2, b1, b2, b3, b4⟩ := M_know51 hn cw c10 ht m kf (k + 1) τ a2' (foM_agm hf a3 (by decide) (by decide) (by decide) (by decide)) (by omega) (by omega)
      exact ⟨v, j, τ2, b1, b2, agm_trans a3 b3, b4⟩
theorem K_knowsAll (hn : 3000 ≤ n) (a : Int32) (hi : Inv σ) : Kok (F_X11_knowsAll n a) (F_X12_knowsAll n a) σ := by
  obtain ⟨B, sz, z, cs, S, h, p, H, fo, x, im, hg, hx, hm⟩ := hi
  have o2 := okS_2 hg.2.2.1
  by_cases q1 : isI (S 2) a = 0
  · exact K_noC hg hx hm (-3) (fun τ hr => by unfold F_X11_knowsAll; rw [X_hasTent hr, Option.bind_some, if_pos q1]) (fun τ hr => by unfold F_X12_knowsAll; rw [M_isTent hr, Option.bind_some, if_pos q1])
  obtain ⟨t, ht, e⟩ := isI_of (by omega) q1
  subst e
  have hc : okC S := by
    rcases hg.2.2.1 with w | w
    · rw [w 2] at ht; omega
    · exact w
  obtain ⟨c0, cw, cb, c10, c178, cnt, chi⟩ := id hc
  have hR := hx.2.2.2.1.1
  have hall := shl_all (S 2) (by omega)
  have a64 := all_lt o2.1
  have k64 := known_lt cw (ruO cs fo) ht 0
  obtain ⟨τ1, a1, a2⟩ := X_copyFrom (n := n) (i := 217) (a := 25) (by omega) (by omega) (σ := σ)
  have ag1 : agx (wI 217) σ τ1 := agx_of a2.2.2.2.2 (by decide)
  have hR217 := CP_RX a2 hR o2.1
  obtain ⟨e, v, τ2, b1, b2, b3⟩ := X_know26 (n := n) hn cw c10 (ru := ruO cs fo) (fo := fo) ht 201 n 0 τ1 hR217 (foX_agx (fo_X (by omega) hx hg.2.1 hg.2.2.2.1) ag1 (by decide)) (by rw [(ag1.1 18 (by decide) (by decide) (by decide)).1]; exact hx.2.2.2.1.2.2.2.1) (by omega) (by omega)
  have sx : sX σ τ2 := sX_agx (agx_trans ag1 b2) (by decide)
  have h253 : τ2.1 25 3 = nI (S 10) := (RX_agx (RX_agx hR ag1 (by decide) (by decide)) b2 (by decide) (by decide)).2.2.2.1
  refine K_ask hg hx hm (match fiK S (ruO cs fo) t 201 0 with | none => -2 | some i => nI (S 10 + i) - 1) ⟨τ2, ?_, sx⟩ (fun τ hm1 => ?_)
  · unfold F_X11_knowsAll
    rw [X_hasTent hR, Option.bind_some, if_neg q1]
    unfold F_X2_firstKnowing
    show (((F_X10_copyFrom n 217 25 σ).bind _)).bind _ = _
    rw [a1, Option.bind_some]
    show (((L_X2_firstKnowing_26 n 18 n (nI t) ((1 : Int32) <<< (σ.1 25 5 &&& 31) - 1) (nI 0) τ1).bind _)).bind _ = _
    rw [show σ.1 25 5 = nI (S 2) from hR.2.2.2.2.2.1, hall, b1, Option.bind_some]
    rcases b3 with ⟨w1, w2⟩ | ⟨j, w1, w3, w4⟩
    · subst w2
      rw [w1]
      rfl
    · subst w3
      subst w4
      rw [w1]
      show (if (0 : Nat) = 0 then some (τ2.1 25 3 + nI j - 1, τ2) else _).bind _ = _
      rw [if_pos rfl, h253, nI_add]
      rfl
  · unfold F_X12_knowsAll
    rw [M_isTent hm1.2.2.2.1, Option.bind_some, if_neg q1]
    show ∃ υ, (F_X12_knownBy n (nI t) τ).bind (fun q4 => if q4.1 = (1 : Int32) <<< (τ.1 259 2 &&& 31) - 1 then some (q4.2.1 259 10 - 1, q4.2) else (F_X12_keeps n q4.2).bind (fun q7 => (L_X12_knowsAll_51 n n (nI t) ((1 : Int32) <<< (τ.1 259 2 &&& 31) - 1) (-2 : Int32) (nI 0) q7).bind (fun o16 => (F_X12_laysBack n o16.2).bind (fun q18 => some (o16.1, q18))))) = some _ ∧ _
    rw [rowN_get hm1.2.2.2.1, hall, M_knownBy hm1.2.2.2.1 (by omega), Option.bind_some]
    have f201 : fiK S (ruO cs fo) t 201 0 = if S (13 + 4 * t + 3) = 2 ^ S 2 - 1 then some 0 else fiK S (ruO cs fo) t 200 1 := rfl
    have k64' : S (13 + 4 * t + 3) < 64 := k64
    by_cases q : S (13 + 4 * t + 3) = 2 ^ S 2 - 1
    · rw [if_pos (show nI (S (13 + 4 * t + 3)) = nI (2 ^ S 2 - 1) by rw [q]), f201, if_pos q]
      refine ⟨τ, ?_, sM_refl⟩
      show some (τ.1 259 10 - 1, τ) = _
      rw [rowN_get hm1.2.2.2.1]; rfl
    · rw [if_neg (show ¬ nI (S (13 + 4 * t + 3)) = nI (2 ^ S 2 - 1) from fun w => q (nI_inj (by omega) (by omega) w)), f201, if_neg q]
      obtain ⟨υ1, d1, d2, d3⟩ := M_keeps (n := n) (by omega) hm1.2.2.2.1
      have hf := foM_agm (fo_M (n := n) (by omega) hm1 hg.2.1 hg.2.2.2.1) (agm_of d3 (by decide) (Fs := [])) (by decide) (by decide) (by decide) (by simp)
      obtain ⟨v2, j, υ2, e1, e2, e3, e4⟩ := M_know51 (n := n) hn cw c10 (ru := ruO cs fo) ht 200 n 0 υ1 (rowN_agr hm1.2.2.2.1 d3 (by decide)) hf (by omega) (by omega)
      obtain ⟨υ, f1, f2, f3⟩ := M_lb (n := n) hn (τ := υ2) (fun i hi => by rw [(e3.1 263 (by decide) (by decide)).1]; exact d2 i hi) e2 (pasN_lk cw _ j)
      refine ⟨υ, ?_, sM_row (T := scT) (Fs := [18]) (agm_trans (agm_mono (agm_of d3 (by decide) (Fs := [])) (by simp) (by simp)) (agm_trans (agm_mono e3 (by simp) (by simp)) (agm_mono (agm_of f3 (by decide) (Fs := [])) (by simp) (by simp)))) hm1.2.2.2.1 f2 (by decide) (by decide)⟩
      show (F_X12_keeps n τ).bind _ = _
      rw [d1, Option.bind_some, e1, Option.bind_some]
      show (F_X12_laysBack n υ2).bind _ = _
      rw [f1, Option.bind_some]
      rcases e4 with ⟨w1, w2⟩ | ⟨i, w1, w2⟩
      · rw [w1, w2]
      · rw [w1, w2]
        show some (nI (S 10 + i), υ) = some (nI (S 10 + i + 1) - 1, υ)
        rw [show nI (S 10 + i + 1) - 1 = nI (S 10 + i) from nI_pred _]
theorem pasN_mono {b : Nat} (cw : okW S b) (ru : RU) {t : Nat} (ht : t < S 2) : ∀ k, S (13 + 4 * t + 2) ≤ pasN S ru k (13 + 4 * t + 2)
  | 0 => Nat.le_refl _
  | k + 1 => by
    have ih := pasN_mono cw ru ht k
    have pa := pasS_asked (okW_pasN cw ru k) ru (t := t) (by rw [(pasN_2 cw ru k).1]; exact ht)
    show _ ≤ pasS (pasN S ru k) ru _
    omega
/-- who is asked most often, of the first k -/
def moP (S T : Nat → Nat) : Nat → Int32 × Int32
  | 0 => (-2, -1)
  | k + 1 => if (moP S T k).2 < nI (T (13 + 4 * k + 2) - S (13 + 4 * k + 2)) then (nI k, nI (T (13 + 4 * k + 2) - S (13 + 4 * k + 2))) else moP S T k
theorem moP_pos {T : Nat → Nat} (hb : ∀ t, t < S 2 → T (13 + 4 * t + 2) < 2 ^ 31) : ∀ k, k + 1 ≤ S 2 → (∃ w, (moP S T (k + 1)).1 = nI w ∧ w < k + 1) ∧ ∃ o, (moP S T (k + 1)).2 = nI o ∧ o < 2 ^ 31
  | 0, h => by
    have h31 : T 15 < 2 ^ 31 := hb 0 (by omega)
    have e : moP S T 1 = (nI 0, nI (T 15 - S 15)) := by
      show (if (-1 : Int32) < nI (T 15 - S 15) then _ else _) = _
      rw [if_pos ?_]
      have : (nI (T 15 - S 15)).toInt = ((T 15 - S 15 : Nat) : Int) := nI_toInt (by omega)
      rw [Int32.lt_iff_toInt_lt, this, show (-1 : Int32).toInt = -1 by decide]
      omega
    rw [e]
    exact ⟨⟨0, rfl, by omega⟩, _, rfl, by omega⟩
  | k + 1, h => by
    have ih := moP_pos hb k (by omega)
    have h31 := hb (k + 1) (by omega)
    have em : moP S T (k + 1 + 1) = if (moP S T (k + 1)).2 < nI (T (13 + 4 * (k + 1) + 2) - S (13 + 4 * (k + 1) + 2)) then (nI (k + 1), nI (T (13 + 4 * (k + 1) + 2) - S (13 + 4 * (k + 1) + 2))) else moP S T (k + 1) := rfl
    rw [em]
    split
    · exact ⟨⟨k + 1, rfl, by omega⟩, _, rfl, by omega⟩
    · obtain ⟨⟨w, w1, w2⟩, o⟩ := ih
      exact ⟨⟨w, w1, by omega⟩, o⟩
theorem X_most33 {T : Nat → Nat} (h2 : S 2 ≤ 6) (hT2 : T 2 = S 2) (hmo : ∀ t, t < S 2 → S (13 + 4 * t + 2) ≤ T (13 + 4 * t + 2) ∧ T (13 + 4 * t + 2) < 2 ^ 31) : ∀ (m k : Nat) (σ : PS), RX σ 217 T → RX σ 25 S → k ≤ S 2 → 7 ≤ m + k → σ.1 216 3 = (moP S T k).1 → (k = 0 → σ.1 216 4 = 0) → (k ≠ 0 → σ.1 216 4 = (moP S T k).2) → ∃ τ, L_X2_findMostAsked_40 n 18 m (nI k) σ = some τ ∧ τ.1 216 3 = (moP S T (S 2)).1 ∧ (S 2 = 0 → τ.1 216 4 = 0) ∧ (S 2 ≠ 0 → τ.1 216 4 = (moP S T (S 2)).2) ∧ agr [216] σ τ
  | 0, k, σ, hR, hR0, hk, hm, h3, h4, h5 => by omega
  | m + 1, k, σ, hR, hR0, hk, hm, h3, h4, h5 => by
    rw [L_X2_findMostAsked_40, show σ.1 217 5 = nI (S 2) by rw [hR.2.2.2.2.2.1, hT2]]
    by_cases e : S 2 ≤ k
    · have : k = S 2 := by omega
      subst this
      rw [if_pos (nI_le (Nat.le_refl _) (by omega))]
      exact ⟨σ, rfl, h3, h4, h5, agr_refl⟩
    · have g1 : σ.1 220 k = nI (T (13 + 4 * k + 2)) := (RX_tent hR (by rw [hT2]; omega)).2.2.1
      have g2 : σ.1 (18 + 7 + 3) k = nI (S (13 + 4 * k + 2)) := (RX_tent hR0 (by omega)).2.2.1
      have mo := hmo k (by omega)
      rw [if_neg (nI_ge (by omega) (by omega)), nI_clamp (by omega), if_pos ⟨nI_pos' (by omega), by omega⟩, g1, g2, nI_sub mo.1, nI_1]
      have ag : agr [216] σ (psI (psI σ 216 3 (nI k)) 216 4 (nI (T (13 + 4 * k + 2) - S (13 + 4 * k + 2)))) := agr_trans (agr_psI (by simp)) (agr_psI (by simp))
      have take : (moP S T k).2 < nI (T (13 + 4 * k + 2) - S (13 + 4 * k + 2)) → ∃ τ, L_X2_findMostAsked_40 n 18 m (nI (k + 1)) (psI (psI σ 216 3 (nI k)) 216 4 (nI (T (13 + 4 * k + 2) - S (13 + 4 * k + 2)))) = some τ ∧ τ.1 216 3 = (moP S T (S 2)).1 ∧ (S 2 = 0 → τ.1 216 4 = 0) ∧ (S 2 ≠ 0 → τ.1 216 4 = (moP S T (S 2)).2) ∧ agr [216] σ τ := by
        intro hlt
        have em : moP S T (k + 1) = (nI k, nI (T (13 + 4 * k + 2) - S (13 + 4 * k + 2))) := if_pos hlt
        obtain ⟨τ, t1, t2, t3, t4, t5⟩ := X_most33 h2 hT2 hmo m (k + 1) _ (RX_agr hR ag (by decide)) (RX_agr hR0 ag (by decide)) (by omega) (by omega) (by rw [em, psI_eq, if_neg (by decide), psI_eq, if_pos rfl]) (fun q => by omega) (fun _ => by rw [em, psI_eq, if_pos rfl])
        exact ⟨τ, t1, t2, t3, t4, agr_trans ag t5⟩
      by_cases k0 : k = 0
      · subst k0
        rw [h3, if_pos (show (moP S T 0).1 = -2 from rfl)]
        apply take
        show (-1 : Int32) < _
        rw [Int32.lt_iff_toInt_lt, nI_toInt (by omega), show (-1 : Int32).toInt = -1 by decide]
        omega
      · obtain ⟨⟨w, w1, w2⟩, o, o1, o2⟩ := moP_pos (S := S) (T := T) (fun t ht => (hmo t ht).2) (k - 1) (by omega)
        rw [show k - 1 + 1 = k by omega] at w1 o1
        have nm2 : ¬ σ.1 216 3 = -2 := by
          rw [h3, w1]
          intro q
          have := congrArg Int32.toInt q
          rw [nI_toInt (by omega), show (-2 : Int32).toInt = -2 by decide] at this
          omega
        rw [if_neg nm2, h5 k0]
        by_cases q : (moP S T k).2 < nI (T (13 + 4 * k + 2) - S (13 + 4 * k + 2))
        · rw [if_neg (Int32.not_le.mpr q)]
          exact take q
        · rw [if_pos (Int32.not_lt.mp q)]
          have em : moP S T (k + 1) = moP S T k := if_neg q
          exact X_most33 h2 hT2 hmo m (k + 1) σ hR hR0 (by omega) (by omega) (by rw [em]; exact h3) (fun q => by omega) (fun _ => by rw [em]; exact h5 k0)
theorem M_most49 {T : Nat → Nat} {w : Int32} (h2 : S 2 ≤ 6) (hT2 : T 2 = S 2) (hmo : ∀ t, t < S 2 → S (13 + 4 * t + 2) ≤ T (13 + 4 * t + 2) ∧ T (13 + 4 * t + 2) < 2 ^ 31) : ∀ (m k : Nat) (σ : PS), rowN σ 259 T → (∀ i, i < 99 → σ.1 263 i = nI (S (10 + i))) → k ≤ S 2 → 7 ≤ m + k → L_X12_most_49 n m w (moP S T k).1 (moP S T k).2 (nI k) σ = some (w, (moP S T (S 2)).1, (moP S T (S 2)).2, σ)
  | 0, k, σ, hS, hK, hk, hm => by omega
  | m + 1, k, σ, hS, hK, hk, hm => by
    rw [L_X12_most_49, rowN_get hS, hT2]
    by_cases e : S 2 ≤ k
    · have : k = S 2 := by omega
      subst this
      rw [if_pos (nI_le (Nat.le_refl _) (by omega))]
    · have mo := hmo k (by omega)
      have ee : ((13 : Int32) + (4 : Int32) * nI k) + (2 : Int32) - (10 : Int32) = nI (4 * k + 5) := by
        show nI 13 + nI 4 * nI k + nI 2 - nI 10 = _
        rw [nI_mul, nI_add, nI_add, nI_sub (by omega)]
        congr 1; omega
      rw [if_neg (nI_ge (by omega) (by omega)), M_askedOf hS (by omega), Option.bind_some, ee, nI_clamp (by omega), if_pos ⟨nI_pos' (by omega), by omega⟩]
      show (if (moP S T k).2 < nI (T (13 + 4 * k + 2)) - σ.1 263 (4 * k + 5) then _ else _) = _
      rw [hK _ (by omega), show 10 + (4 * k + 5) = 13 + 4 * k + 2 by omega, nI_sub mo.1, nI_1]
      by_cases q : (moP S T k).2 < nI (T (13 + 4 * k + 2) - S (13 + 4 * k + 2))
      · have em : moP S T (k + 1) = (nI k, nI (T (13 + 4 * k + 2) - S (13 + 4 * k + 2))) := if_pos q
        rw [if_pos q]
        have := M_most49 h2 hT2 hmo m (k + 1) σ hS hK (by omega) (by omega) (w := w)
        rw [em] at this
        rw [← this]
      · have em : moP S T (k + 1) = moP S T k := if_neg q
        rw [if_neg q]
        have := M_most49 h2 hT2 hmo m (k + 1) σ hS hK (by omega) (by omega) (w := w)
        rw [em] at this
        exact this
theorem K_most (hn : 3000 ≤ n) (a b : Int32) (hi : Inv σ) : Kok (F_X11_most n a b) (F_X12_most n a b) σ := by
  obtain ⟨B, sz, z, cs, S, h, p, H, fo, x, im, hg, hx, hm⟩ := hi
  rcases hg.2.2.1 with q | hc
  · refine K_noC hg hx hm (-1) (fun τ hr => ?_) (fun τ hr => ?_)
    · unfold F_X11_most; rw [X_pitched hr (by rw [q]; decide), Option.bind_some, if_pos (q 1), if_pos rfl]
    · unfold F_X12_most; rw [M_isCamp hr (by rw [q]; decide), Option.bind_some, if_neg (show ¬ S 0 = 1 by rw [q]; decide), if_pos rfl]
  obtain ⟨c0, cw, cb, c10, c178, cnt, chi⟩ := id hc
  have h1 := cw.1
  have h1' := cw.2.1
  have h2 := cw.2.2.1
  have hs1 : ¬ S 1 = 0 := by omega
  rcases rng a 1 100 (by decide) with ⟨m, hm1', hm100, hm31, e⟩ | hout | q
  rotate_left
  · refine K_noC hg hx hm (-1) (fun τ hr => ?_) (fun τ hr => ?_)
    · unfold F_X11_most
      rw [X_pitched hr (by omega), Option.bind_some, if_neg hs1, if_neg ne10]
      by_cases w : a < (1 : Int32)
      · rw [if_pos w]
      · rw [if_neg w, if_pos (show (100 : Int32) < a from lt_of_out hout w)]
    · unfold F_X12_most
      rw [M_isCamp hr (by omega), Option.bind_some, if_pos c0, if_neg ne10, show (1 : Int64) = lN 1 from rfl, show (100 : Int64) = lN 100 from rfl, M_in_out (by decide) (by decide) hout, Option.bind_some, if_pos rfl]
  · exact absurd q (by decide)
  subst e
  have pb1 : ¬ nI m < (1 : Int32) := nI_nlt (show 1 ≤ m from hm1') hm31
  have pb2 : ¬ (100 : Int32) < nI m := nI_nlt (show m ≤ 100 from hm100) (by decide)
  rcases rng b 0 1 (by decide) with ⟨w, _, hw2, hw31, e⟩ | hout | q
  rotate_left
  · refine K_noC hg hx hm (-1) (fun τ hr => ?_) (fun τ hr => ?_)
    · unfold F_X11_most
      rw [X_pitched hr (by omega), Option.bind_some, if_neg hs1, if_neg ne10, if_neg pb1, if_neg pb2]
      by_cases w : b < 0
      · rw [if_pos w]
      · rw [if_neg w, if_neg (show ¬ b ≤ (1 : Int32) from Int32.not_le.mpr (lt_of_out hout w))]
    · unfold F_X12_most
      rw [M_isCamp hr (by omega), Option.bind_some, if_pos c0, if_neg ne10, show (1 : Int64) = lN 1 from rfl, show (100 : Int64) = lN 100 from rfl, M_in_in (by decide) (by decide) hm31 (by omega) hm100, Option.bind_some, if_neg ne10, show (0 : Int64) = lN 0 from rfl, M_in_out (by decide) (by decide) hout, Option.bind_some, if_pos rfl]
  · exact absurd q (by decide)
  subst e
  have pc1 : ¬ nI w < (0 : Int32) := nI_n0 (by omega)
  have pc2 : nI w ≤ (1 : Int32) := nI_le (show w ≤ 1 from hw2) (by decide)
  have hR := hx.2.2.2.1.1
  obtain ⟨τ1, a1, a2⟩ := X_copyFrom (n := n) (i := 217) (a := 25) (by omega) (by omega) (σ := σ)
  have ag1 : agx (wI 217) σ τ1 := agx_of a2.2.2.2.2 (by decide)
  have hR217 := CP_RX a2 hR h2
  have h5 : τ1.1 18 5 = fo := by rw [(ag1.1 18 (by decide) (by decide) (by decide)).1]; exact hx.2.2.2.1.2.2.2.1
  obtain ⟨τ2, b1, b2, b3⟩ := X_walkOn (n := n) (m := m) (by omega) cw (ru := ruO cs fo) (x := fo) (by omega) (by omega) hR217 (foX_agx (fo_X (by omega) hx hg.2.1 hg.2.2.2.1) ag1 (by decide))
  have hmo : ∀ t, t < S 2 → S (13 + 4 * t + 2) ≤ pasN S (ruO cs fo) m (13 + 4 * t + 2) ∧ pasN S (ruO cs fo) m (13 + 4 * t + 2) < 2 ^ 31 := fun t ht => ⟨pasN_mono cw _ ht m, by
    have := ((okW_pasN cw (ruO cs fo) m).2.2.2.2.1 t (by rw [(pasN_2 cw _ m).1]; exact ht)).2.2.1
    omega⟩
  have hT2 := (pasN_2 cw (ruO cs fo) m).1
  have hlk := pasN_lk cw (ruO cs fo) m
  have hM0 : ∀ τ, IM τ B sz z cs S h H fo x im → ∃ τ1 τ2, F_X12_keeps n τ = some τ1 ∧ F_X12_passesAll n (nI m) τ1 = some τ2 ∧ rowN τ2 259 (pasN S (ruO cs fo) m) ∧ (∀ i, i < 99 → τ2.1 263 i = nI (S (10 + i))) ∧ agm scT [18] τ τ2 := by
    intro τ hm1
    obtain ⟨υ1, b1, b2, b3⟩ := M_keeps (n := n) (by omega) hm1.2.2.2.1
    have hf := foM_agm (fo_M (n := n) (by omega) hm1 hg.2.1 hg.2.2.2.1) (agm_of b3 (by decide) (Fs := [])) (by decide) (by decide) (by decide) (by simp)
    obtain ⟨υ2, d1, d2, d3⟩ := M_passesAll (n := n) (m := m) (by omega) (b := S 10 + 2) (by omega) cw (by omega) (rowN_agr hm1.2.2.2.1 b3 (by decide)) hf
    exact ⟨υ1, υ2, b1, d1, d2, fun i hi => by rw [(d3.1 263 (by decide) (by decide)).1]; exact b2 i hi, agm_trans (agm_mono (agm_of b3 (by decide) (Fs := [])) (by simp) (by simp)) (agm_mono d3 (by simp) (by simp))⟩
  generalize pasN S (ruO cs fo) m = T at *
  have ag3 : agr [216] τ2 (psI (psI τ2 216 3 (-2 : Int32)) 216 4 (0 : Int32)) := agr_trans (agr_psI (by simp)) (agr_psI (by simp))
  have hR25 : RX τ2 25 S := RX_agx (RX_agx hR ag1 (by decide) (by decide)) b3 (by decide) (by decide)
  obtain ⟨τ3, d1, d2, d3, d4, d5⟩ := X_most33 (n := n) (S := S) (T := T) h2 hT2 hmo n 0 (psI (psI τ2 216 3 (-2 : Int32)) 216 4 (0 : Int32)) (RX_agr b2 ag3 (by decide)) (RX_agr hR25 ag3 (by decide)) (by omega) (by omega) (by rw [psI_eq, if_neg (by decide), psI_eq, if_pos rfl]; rfl) (fun _ => by rw [psI_eq, if_pos rfl]) (fun q => absurd rfl q)
  have sx : sX σ τ3 := sX_trans (sX_agx (agx_trans ag1 b3) (by decide)) (sX_agr (agr_trans ag3 d5) (by decide))
  have hf : F_X2_findMostAsked n 18 (nI m) σ = some τ3 := by
    unfold F_X2_findMostAsked
    show (F_X10_copyFrom n 217 25 σ).bind _ = _
    rw [a1, Option.bind_some, h5, b1, Option.bind_some]
    show (L_X2_findMostAsked_40 n 18 n (nI 0) _).bind _ = _
    rw [d1]
    rfl
  refine K_ask hg hx hm (if nI w = (0 : Int32) then (moP S T (S 2)).1 else if S 2 = 0 then 0 else (moP S T (S 2)).2) ⟨τ3, ?_, sx⟩ (fun τ hm1 => ?_)
  · unfold F_X11_most
    rw [X_pitched hR (by omega), Option.bind_some, if_neg hs1, if_neg ne10, if_neg pb1, if_neg pb2, if_neg pc1, if_pos pc2]
    show (F_X2_findMostAsked n 18 (nI m) σ).bind _ = _
    rw [hf, Option.bind_some, d2]
    by_cases w0 : nI w = (0 : Int32)
    · rw [if_pos w0, if_pos w0]
    · rw [if_neg w0, if_neg w0]
      by_cases s0 : S 2 = 0
      · rw [d3 s0, if_pos s0]
      · rw [d4 s0, if_neg s0]
  · obtain ⟨υ1, υ2, e1, e2, e3, e4, e5⟩ := hM0 τ hm1
    obtain ⟨υ, f1, f2, f3⟩ := M_lb (n := n) hn e4 e3 hlk
    refine ⟨υ, ?_, sM_row (T := scT) (Fs := [18]) (agm_trans e5 (agm_mono (agm_of f3 (by decide) (Fs := [])) (by simp) (by simp))) hm1.2.2.2.1 f2 (by decide) (by decide)⟩
    unfold F_X12_most
    rw [M_isCamp hm1.2.2.2.1 (by omega), Option.bind_some, if_pos c0, if_neg ne10, show (1 : Int64) = lN 1 from rfl, show (100 : Int64) = lN 100 from rfl, M_in_in (by decide) (by decide) hm31 (by omega) hm100, Option.bind_some, if_neg ne10, show (0 : Int64) = lN 0 from rfl, M_in_in (by decide) (by decide) hw31 (by omega) hw2, Option.bind_some, if_neg ne10]
    show (F_X12_keeps n τ).bind _ = _
    rw [e1, Option.bind_some, e2, Option.bind_some]
    have hl := M_most49 (n := n) (S := S) (T := T) (w := nI w) h2 hT2 hmo n 0 υ2 e3 e4 (by omega) (by omega)
    show (L_X12_most_49 n n (nI w) (-2) (-1) (nI 0) υ2).bind _ = _
    rw [show L_X12_most_49 n n (nI w) (-2) (-1) (nI 0) υ2 = _ from hl, Option.bind_some]
    show (F_X12_laysBack n υ2).bind _ = _
    rw [f1, Option.bind_some]
    by_cases w0 : nI w = (0 : Int32)
    · rw [if_pos w0, if_pos w0]
    · rw [if_neg w0, if_neg w0]
      by_cases s0 : S 2 = 0
      · rw [if_pos s0, s0]
        exact if_neg (show ¬ (0 : Int32) ≤ (-1 : Int32) by decide)
      · obtain ⟨_, o, o1, o2⟩ := moP_pos (S := S) (T := T) (fun t ht => (hmo t ht).2) (S 2 - 1) (by omega)
        rw [show S 2 - 1 + 1 = S 2 by omega] at o1
        rw [if_neg s0, if_pos (show (0 : Int32) ≤ (moP S T (S 2)).2 by rw [o1]; exact nI_pos' o2)]
end K6
