/-! ruled, look: both sides alike. -/
section K16
variable {B : Nat → Int32} {sz z h p : Nat} {cs : Nat → List CL} {S S' : Nat → Nat} {H : Nat → Nat → Nat} {fo x : Int32} {im : Nat → Option IMG} {σ τ : PS} {n : Nat}
theorem begS_lk2 {T : Nat → Nat} (hl : lk S T) : begS T = begS S := by
  funext i
  unfold begS
  by_cases h1 : i < 10
  · rw [if_pos h1, if_pos h1]; exact hl i (Or.inl h1)
  · rw [if_neg h1, if_neg h1, hl 109 (by omega), hl (110 + (i - 13) / 4) (by omega), hl (116 + (i - 13) / 4) (by omega), hl (122 + (i - 37)) (by omega)]
    by_cases h2 : i = 10
    · rw [if_pos h2, if_pos h2]
    · rw [if_neg h2, if_neg h2]
      by_cases h3 : i = 11
      · rw [if_pos h3, if_pos h3]
      · rw [if_neg h3, if_neg h3]
        by_cases h4 : i = 12
        · rw [if_pos h4, if_pos h4]
        · rw [if_neg h4, if_neg h4]
          by_cases h5 : i < 37
          · rw [if_pos h5, if_pos h5]
          · rw [if_neg h5, if_neg h5]
            by_cases h6 : i < 73
            · rw [if_pos h6, if_pos h6]
            · rw [if_neg h6, if_neg h6]
              by_cases h7 : i < 109
              · rw [if_pos h7, if_pos h7]
              · rw [if_neg h7, if_neg h7]; exact hl i (by omega)
theorem lk_begS : lk S (begS S) := by
  intro j hj
  unfold begS
  by_cases h1 : j < 10
  · rw [if_pos h1]
  · rw [if_neg h1, if_neg (by omega), if_neg (by omega), if_neg (by omega), if_neg (by omega), if_neg (by omega), if_neg (by omega)]
theorem stM_rows {r : Nat} {l : List CL} (hst : stM σ r l) (h3 : τ.1 253 = σ.1 253) (h1 : τ.1 251 = σ.1 251) (h4 : τ.1 254 = σ.1 254) : stM τ r l := by
  unfold stM at hst ⊢
  rw [h3, h1, h4]
  exact hst
abbrev fmL : List Nat := [257, 258, 259, 260, 261, 271, 272]
theorem spot_is {r i : Nat} : F_X12_spot n (nI r) (nI i) σ = some (nI (61 * r + i), σ) := by
  unfold F_X12_spot
  show some (nI 61 * nI r + nI i, σ) = _
  rw [nI_mul, nI_add]
theorem M_ff32 {b : Nat} (hn : 3000 ≤ n) {T : Nat → Nat} (cb : okW T b) (hb : b + 100 < 2 ^ 20) {ru : RU} {r : Nat} (hr : r < 7) {x1 : Int32} : ∀ (m K k : Nat) (σ : PS), rowN σ 259 (pasN T ru k) → foM n σ ru → (∀ i, i < k → σ.1 272 (61 * r + i) = nI (pasN T ru i 11)) → k + m = 61 → m < K → ∃ τ, L_X12_fillsFits_32 n K x1 (nI r) (nI k) σ = some (x1, nI r, τ) ∧ rowN τ 259 (pasN T ru 61) ∧ (∀ i, i < 61 → τ.1 272 (61 * r + i) = nI (pasN T ru i 11)) ∧ (∀ j, j < 61 * r → τ.1 272 j = σ.1 272 j) ∧ agm [257, 258, 259, 260, 261, 272] [18] σ τ
  | _, 0, k, σ, hS, hf, hQ, hk, hK => by omega
  | 0, K + 1, k, σ, hS, hf, hQ, hk, hK => by
    rw [L_X12_fillsFits_32, if_pos (show (60 : Int32) < nI k from nI_lt (show 60 < k by omega) (by omega))]
    exact ⟨σ, rfl, by rw [show 61 = k by omega]; exact hS, fun j hj => hQ j (by omega), fun _ _ => rfl, agm_refl⟩
  | m + 1, K + 1, k, σ, hS, hf, hQ, hk, hK => by
    have ag1 : agm [257, 258, 259, 260, 261, 272] [18] σ (psI σ 272 (61 * r + k) (σ.1 259 11)) := agm_psI (by simp) (by decide)
    obtain ⟨τ, a1, a2, a3⟩ := M_passes (n := n) (b := b + k) (by omega) (by omega) (okW_pasN cb ru k) (rowN_other (j := 272) (k := 61 * r + k) (v := σ.1 259 11) hS (by decide)) (foM_agm hf ag1 (by decide) (by decide) (by decide) (by decide))
    have ag2 : agm [257, 258, 259, 260, 261, 272] [18] σ τ := agm_trans ag1 (agm_mono a3 (by decide) (by decide))
    rw [L_X12_fillsFits_32, if_neg (show ¬ (60 : Int32) < nI k from nI_nlt (show k ≤ 60 by omega) (by decide)), spot_is, Option.bind_some]
    show ∃ τ, (if 0 ≤ nI (61 * r + k) ∧ (nI (61 * r + k)).toNatClampNeg < 427 then (F_X12_passes n (psI σ 272 ((nI (61 * r + k)).toNatClampNeg) (σ.1 259 11))).bind _ else none) = _ ∧ _
    rw [nI_clamp (by omega), if_pos ⟨nI_pos' (by omega), by omega⟩, a1, Option.bind_some, nI_1]
    obtain ⟨τ2, b1, b2, b3, b4, b5⟩ := M_ff32 hn cb hb (ru := ru) hr (x1 := x1) m K (k + 1) τ a2 (foM_agm hf ag2 (by decide) (by decide) (by decide) (by decide)) (fun j hj => by
      rw [(a3.1 272 (by decide) (by decide)).1, psI_eq]
      by_cases e : j = k
      · rw [if_pos (by rw [e]), e, rowN_get hS]
      · rw [if_neg (by omega)]; exact hQ j (by omega)) (by omega) (by omega)
    refine ⟨τ2, b1, b2, b3, fun j hj => ?_, agm_trans ag2 b5⟩
    rw [b4 j hj, (a3.1 272 (by decide) (by decide)).1, psI_eq, if_neg (by omega)]
theorem M_notes2 {b : Nat} (cb : okW (begS S) b) (hsS : S 1 * S 1 ≤ 36) (c178 : S 178 ≤ 10) (cnt : ∀ j, j < S 178 → S (158 + 2 * j) ≤ 60 ∧ S (158 + 2 * j + 1) < S 1 * S 1) {r : Nat} (hr : r < 7) {T : Nat → Nat} (hl : lk S T) (hS : rowN σ 259 T) (hP : ∀ i, i < 61 → σ.1 272 (61 * r + i) = nI (plN cs S r i)) : ∀ (m K k : Nat), k + m = S 178 → m < K → L_X12_areNotesSo_2 n K (nI r) (nI (2 * k)) σ = some (if agF cs S r m k = true then 1 else 0, σ)
  | _, 0, k, hk, hK => by omega
  | 0, K + 1, k, hk, hK => by
    rw [L_X12_areNotesSo_2, rowN_get hS, hl 178 (by omega), show (2 : Int32) * nI (S 178) = nI (2 * S 178) from nI_mul 2 _, if_pos (nI_le (by omega) (by omega))]
    rfl
  | m + 1, K + 1, k, hk, hK => by
    obtain ⟨c1, c2⟩ := cnt k (by omega)
    have pl := plN_lt (cs := cs) cb r (S (158 + 2 * k))
    have e1 : T (158 + 2 * k) = S (158 + 2 * k) := hl _ (by omega)
    have e2 : T (158 + 2 * k + 1) = S (158 + 2 * k + 1) := hl _ (by omega)
    rw [L_X12_areNotesSo_2, rowN_get hS, hl 178 (by omega), show (2 : Int32) * nI (S 178) = nI (2 * S 178) from nI_mul 2 _, if_neg (nI_ge (by omega) (by omega)), show (158 : Int32) + nI (2 * k) = nI (158 + 2 * k) from nI_add 158 _, show nI (158 + 2 * k) + (1 : Int32) = nI (158 + 2 * k + 1) from nI_1 _, show nI (2 * k) + 2 = nI (2 * (k + 1)) from nI_add (2 * k) 2, nI_clamp (show 158 + 2 * k < 2 ^ 31 by omega), if_pos ⟨nI_pos' (by omega), by omega⟩, rowN_get hS, e1, spot_is, Option.bind_some]
    show (if 0 ≤ nI (61 * r + S (158 + 2 * k)) ∧ (nI (61 * r + S (158 + 2 * k))).toNatClampNeg < 427 then (if 0 ≤ nI (158 + 2 * k + 1) ∧ (nI (158 + 2 * k + 1)).toNatClampNeg < 179 then (if σ.1 272 ((nI (61 * r + S (158 + 2 * k))).toNatClampNeg) = σ.1 259 ((nI (158 + 2 * k + 1)).toNatClampNeg) then L_X12_areNotesSo_2 n K (nI r) (nI (2 * (k + 1))) σ else some (0, σ)) else none) else none) = _
    rw [nI_clamp (show 61 * r + S (158 + 2 * k) < 2 ^ 31 by omega), nI_clamp (show 158 + 2 * k + 1 < 2 ^ 31 by omega), if_pos ⟨nI_pos' (by omega), by omega⟩, if_pos ⟨nI_pos' (by omega), by omega⟩, hP _ (by omega), rowN_get hS, e2]
    unfold agF
    by_cases q : plN cs S r (S (158 + 2 * k)) = S (158 + 2 * k + 1)
    · rw [if_pos (by rw [q]), if_pos q]
      exact M_notes2 cb hsS c178 cnt hr hl hS hP m K (k + 1) (by omega) (by omega)
    · rw [if_neg (fun w => q (nI_inj (by omega) (by omega) w)), if_neg q, if_neg (by decide)]
theorem M_notes {b : Nat} (hn : 100 ≤ n) (cb : okW (begS S) b) (hsS : S 1 * S 1 ≤ 36) (c178 : S 178 ≤ 10) (cnt : ∀ j, j < S 178 → S (158 + 2 * j) ≤ 60 ∧ S (158 + 2 * j + 1) < S 1 * S 1) {r : Nat} (hr : r < 7) {T : Nat → Nat} (hl : lk S T) (hS : rowN σ 259 T) (hP : ∀ i, i < 61 → σ.1 272 (61 * r + i) = nI (plN cs S r i)) : F_X12_areNotesSo n (nI r) σ = some (if agF cs S r (S 178) 0 = true then 1 else 0, σ) := by
  unfold F_X12_areNotesSo
  rw [show L_X12_areNotesSo_2 n n (nI r) (0 : Int32) σ = _ from M_notes2 cb hsS c178 cnt hr hl hS hP (S 178) n 0 (by omega) (by omega), Option.bind_some]
  by_cases q : agF cs S r (S 178) 0 = true
  · rw [if_pos q, if_pos q]; rfl
  · rw [if_neg q, if_neg q]; rfl
def ffI (cs : Nat → List CL) (S : Nat → Nat) (z r : Nat) (σ : PS) : Prop := (∀ q, q < r → σ.1 271 q = flI cs S z q) ∧ ∀ q, q < r → ∀ i, i < 61 → σ.1 272 (61 * q + i) = nI (plN cs S q i)
theorem M_ff11 {b : Nat} (hn : 3000 ≤ n) (cb : okW (begS S) b) (hb : b + 100 < 2 ^ 20) (hsS : S 1 * S 1 ≤ 36) (c178 : S 178 ≤ 10) (cnt : ∀ j, j < S 178 → S (158 + 2 * j) ≤ 60 ∧ S (158 + 2 * j + 1) < S 1 * S 1) (hz : z ≤ 6) {x1 : Int32} : ∀ (m K r : Nat) (T : Nat → Nat) (σ : PS), rowN σ 259 T → lk S T → (∀ r, r < z → stM σ r (cs r)) → σ.1 249 2 = nI z → ffI cs S z r σ → r + m = z + 1 → m < K → ∃ τ T', L_X12_fillsFits_11 n K x1 (nI r) σ = some (x1, τ) ∧ rowN τ 259 T' ∧ lk S T' ∧ ffI cs S z (z + 1) τ ∧ agm fmL [18, 21] σ τ
  | _, 0, r, T, σ, hS, hl, hst, h2, hI, hr, hK => by omega
  | 0, K + 1, r, T, σ, hS, hl, hst, h2, hI, hr, hK => by
    rw [L_X12_fillsFits_11, h2, if_pos (nI_lt (show z < r by omega) (by omega))]
    exact ⟨σ, T, rfl, hS, hl, by rw [show z + 1 = r by omega]; exact hI, agm_refl⟩
  | m + 1, K + 1, r, T, σ, hS, hl, hst, h2, hI, hr, hK => by
    have f21 : (psI σ 249 21 (nI r - 1)).1 249 21 = nI r - 1 := by rw [psI_eq, if_pos rfl]
    have ag1 : agm fmL [18, 21] σ (psI σ 249 21 (nI r - 1)) := agm_fld (by simp)
    obtain ⟨τ1, a1, a2, a3⟩ := M_begins (n := n) (by omega) (rowN_other (j := 249) (k := 21) (v := nI r - 1) hS (by decide))
    rw [begS_lk2 hl] at a2
    have ag2 : agm fmL [18, 21] σ τ1 := agm_trans ag1 (agm_mono (agm_of a3 (by decide) (Fs := [])) (by decide) (by simp))
    have st1 : ∀ r, r < z → stM τ1 r (cs r) := fun q hq => stM_rows (hst q hq) (ag2.1 253 (by decide) (by decide)).1 (ag2.1 251 (by decide) (by decide)).1 (ag2.1 254 (by decide) (by decide)).1
    have hf1 : foM n τ1 (ruO cs (nI r - 1)) := fo_Mr (by omega) (by rw [(a3 249 (by decide)).1]; exact f21) st1 hz (vF2_row (by omega) hz)
    obtain ⟨τ2, b1, b2, b3, b4, b5⟩ := M_ff32 (n := n) hn cb hb (ru := ruO cs (nI r - 1)) (r := r) (by omega) (x1 := x1) 61 n 0 τ1 a2 hf1 (fun i hi => by omega) (by omega) (by omega)
    have hlT : lk S (pasN (begS S) (ruO cs (nI r - 1)) 61) := lk_trans lk_begS (pasN_lk cb _ 61)
    have ag3 : agm fmL [18, 21] σ τ2 := agm_trans ag2 (agm_mono b5 (by decide) (by decide))
    have hN := M_notes (n := n) (cs := cs) (by omega) cb hsS c178 cnt (r := r) (by omega) hlT b2 b3
    have en : vp_nar .boolean (if agF cs S r (S 178) 0 = true then (1 : Int32) else 0) = flI cs S z r := by
      unfold flI flB
      rw [show decide (r ≤ z) = true from decide_eq_true (by omega), Bool.true_and]
      by_cases w : agF cs S r (S 178) 0 = true
      · rw [if_pos w, nar_b.1]
      · rw [if_neg w, nar_b.2]
    have ag4 : agm fmL [18, 21] σ (psI τ2 271 r (flI cs S z r)) := agm_trans ag3 (agm_psI (by simp) (by decide))
    obtain ⟨υ, T', u1, u2, u3, u4, u5⟩ := M_ff11 hn cb hb hsS c178 cnt hz (x1 := x1) m K (r + 1) (pasN (begS S) (ruO cs (nI r - 1)) 61) (psI τ2 271 r (flI cs S z r)) (rowN_other b2 (by decide)) hlT (fun q hq => stM_rows (hst q hq) (ag4.1 253 (by decide) (by decide)).1 (ag4.1 251 (by decide) (by decide)).1 (ag4.1 254 (by decide) (by decide)).1) (by rw [(ag4.2 2 (by decide)).1]; exact h2) ⟨fun u hu => by
        rw [psI_eq]
        by_cases e : u = r
        · rw [if_pos e, e]
        · rw [if_neg e, (b5.1 271 (by decide) (by decide)).1, (a3 271 (by decide)).1, psI_other (by decide)]
          exact hI.1 u (by omega), fun u hu i hi => by
        rw [psI_other (by decide)]
        by_cases e : u = r
        · rw [e]; exact b3 i hi
        · have := Nat.mul_le_mul_left 61 (show u + 1 ≤ r by omega)
          rw [b4 _ (by omega), (a3 272 (by decide)).1, psI_other (by decide)]
          exact hI.2 u (by omega) i hi⟩ (by omega) (by omega)
    refine ⟨υ, T', ?_, u2, u3, u4, agm_trans ag4 u5⟩
    rw [L_X12_fillsFits_11, h2, if_neg (nI_nlt (show r ≤ z by omega) (by omega)), a1, Option.bind_some]
    show (L_X12_fillsFits_32 n n x1 (nI r) (nI 0) τ1).bind _ = _
    rw [b1, Option.bind_some]
    show (F_X12_areNotesSo n (nI r) τ2).bind _ = _
    rw [hN, Option.bind_some]
    show (if 0 ≤ nI r ∧ (nI r).toNatClampNeg < 7 then L_X12_fillsFits_11 n K x1 (nI r + 1) (psI τ2 271 ((nI r).toNatClampNeg) (vp_nar .boolean (if agF cs S r (S 178) 0 = true then (1 : Int32) else 0))) else none) = _
    rw [nI_clamp (by omega), if_pos ⟨nI_pos' (by omega), by omega⟩, en, nI_1]
    exact u1
theorem M_fills (hn : 3000 ≤ n) (hg : okG B z S h H fo x im) (hc : okC S) (hm : IM σ B sz z cs S h H fo x im) : ∃ τ, F_X12_fillsFits n σ = some τ ∧ ffI cs S z (z + 1) τ ∧ τ.1 249 2 = nI z ∧ sM σ τ := by
  obtain ⟨c0, cw, cb, c10, c178, cnt, chi⟩ := hc
  have hS := hm.2.2.2.1
  obtain ⟨υ1, d1, d2, d3⟩ := M_keeps (n := n) (by omega) hS
  obtain ⟨υ2, T', e1, e2, e3, e4, e5⟩ := M_ff11 (n := n) (cs := cs) hn cb (by omega) (okW_36 cw) c178 cnt hg.2.1 (x1 := fo) (z + 1) n 0 S υ1 (rowN_agr hS d3 (by decide)) lk_refl (fun q hq => stM_rows (hm.2.2.1 q hq) (d3 253 (by decide)).1 (d3 251 (by decide)).1 (d3 254 (by decide)).1) (by rw [(d3 249 (by decide)).1]; exact hm.2.1) ⟨fun q hq => by omega, fun q hq => by omega⟩ (by omega) (by have := hg.2.1; omega)
  obtain ⟨υ, f1, f2, f3⟩ := M_lb (n := n) (S := S) hn (τ := psI υ2 249 21 fo) (fun i hi => by rw [psI_other (by decide), (e5.1 263 (by decide) (by decide)).1]; exact d2 i hi) (rowN_other e2 (by decide)) e3
  have ag : agm (263 :: fmL) [18, 21] σ υ := agm_trans (agm_mono (agm_of d3 (by decide) (Fs := [])) (by decide) (by simp)) (agm_trans (agm_mono e5 (by decide) (by simp)) (agm_trans (agm_fld (by simp)) (agm_mono (agm_of f3 (by decide) (Fs := [])) (by decide) (by simp))))
  have h21 : υ.1 249 21 = fo := by rw [(f3 249 (by decide)).1, psI_eq, if_pos rfl]
  refine ⟨υ, ?_, ⟨fun q hq => by rw [(f3 271 (by decide)).1, psI_other (by decide)]; exact e4.1 q hq, fun q hq i hi => by rw [(f3 272 (by decide)).1, psI_other (by decide)]; exact e4.2 q hq i hi⟩, by rw [(ag.2 2 (by decide)).1]; exact hm.2.1, loA_agm ag (by decide), fun j hj => ?_, fun k hk => ?_⟩
  · unfold F_X12_fillsFits
    rw [d1, Option.bind_some, hm.2.2.2.2.1]
    show (L_X12_fillsFits_11 n n fo (nI 0) υ1).bind _ = _
    rw [e1, Option.bind_some]
    show (F_X12_laysBack n (psI υ2 249 21 fo)).bind _ = _
    rw [f1, Option.bind_some]
  · by_cases e : j = 259
    · rw [e]; exact Eq.trans f2 hS.symm
    · exact (ag.1 j (by simp only [fmL, List.mem_cons, List.not_mem_nil, or_false]; omega) (by omega)).1
  · by_cases e : k = 21
    · rw [e, h21]; exact hm.2.2.2.2.1.symm
    · exact (ag.2 k (by simp only [List.mem_cons, List.not_mem_nil, or_false]; omega)).1
end K16
