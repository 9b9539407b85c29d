/-! The reference's call camp. -/
theorem fc_ok {B : Nat → Int32} {sz : Nat} : ∀ (k p j : Nat) (V : Nat → Nat), p ≤ sz → j ≤ 40 → okV j V → (fcP B sz k p j V).1 = 0 → okV 1 (fcP B sz k p j V).2
  | 0, p, j, V, hp, hj, hV, h => by simp [fcP] at h
  | k + 1, p, j, V, hp, hj, hV, h => by
    unfold fcP at h ⊢
    by_cases z1 : (cgP B sz p j V).1 = 0
    · rw [if_pos z1] at h ⊢
      obtain ⟨f1, f2, f3, f4⟩ := cg_ok hp hj hV z1
      generalize cgP B sz p j V = C at *
      have hq := sk_le (B := B) f1
      by_cases z2 : sg B sz (sk B sz C.2.1) = 59
      · rw [if_pos z2] at h ⊢
        have hlt := (sg_lt (by decide) z2).1
        exact fc_ok k _ (j + 1) _ (by omega) (by omega) f3 h
      · rw [if_neg z2] at h ⊢
        by_cases z3 : sg B sz (sk B sz C.2.1) = -1
        · rw [if_pos z3]
          exact ⟨fun q => by omega, fun _ => f3.2 (by omega)⟩
        · rw [if_neg z3] at h; simp at h
    · rw [if_neg z1] at h; exact absurd h z1
theorem fcP_lt {B : Nat → Int32} {sz : Nat} (h400 : sz ≤ 400) : ∀ (k p j : Nat) (V : Nat → Nat), p ≤ sz → j ≤ 40 → okV j V → (fcP B sz k p j V).1 < 2 ^ 31
  | 0, p, j, V, hp, hj, hV => by show 1 < 2 ^ 31; decide
  | k + 1, p, j, V, hp, hj, hV => by
    unfold fcP
    by_cases z1 : (cgP B sz p j V).1 = 0
    · rw [if_pos z1]
      obtain ⟨f1, f2, f3, f4⟩ := cg_ok hp hj hV z1
      generalize cgP B sz p j V = C at *
      have hq := sk_le (B := B) f1
      by_cases z2 : sg B sz (sk B sz C.2.1) = 59
      · rw [if_pos z2]
        have hlt := (sg_lt (by decide) z2).1
        exact fcP_lt h400 k _ (j + 1) _ (by omega) (by omega) f3
      · rw [if_neg z2]
        by_cases z3 : sg B sz (sk B sz C.2.1) = -1
        · rw [if_pos z3]; show 0 < 2 ^ 31; decide
        · rw [if_neg z3]; show 1 + 8 * sk B sz C.2.1 < 2 ^ 31; omega
    · rw [if_neg z1]; exact cg_lt h400 hp
section MC
variable {n : Nat} {B : Nat → Int32} {sz : Nat}
theorem M_fc35 (hn : 1000 ≤ n) : ∀ (k kf p j : Nat) (σ : PS) (V : Nat → Nat), TM σ B sz p 0 → r5 σ V → σ.1 249 11 = nI 6 → σ.1 249 14 = nI j → j ≤ 40 → okV j V → 40 < k + j → k ≤ kf → ∃ τ, mra n kf σ = some (if (fcP B sz k p j V).1 = 0 then 1 else 0, τ) ∧ agm [255] [1, 8, 9, 10, 14] σ τ ∧ τ.1 249 1 = 0 ∧ τ.1 249 9 = nI (fcP B sz k p j V).1 ∧ ((fcP B sz k p j V).1 = 0 → r5 τ (fcP B sz k p j V).2)
  | 0, kf, p, j, σ, V, ht, hV, h11, h14, hj, hok, hf, hkf => by omega
  | k + 1, 0, p, j, σ, V, ht, hV, h11, h14, hj, hok, hf, hkf => by omega
  | k + 1, kf + 1, p, j, σ, V, ht, hV, h11, h14, hj, hok, hf, hkf => by
    have h400 := ht.2.2.2.2.2
    have hp := ht.2.2.2.2.1
    have hclt := cg_lt (B := B) (j := j) (V := V) h400 hp
    have cok := cg_ok (B := B) (sz := sz) (p := p) hp hj hok
    obtain ⟨τ1, a1, a2, a3, a4⟩ := M_cg hn ht hV h11 h14 hj hok
    have a3' : agm [255] [1, 8, 9, 10, 14] σ τ1 := agm_mono a3 (by simp) (by simp)
    unfold mra
    rw [a1, Option.bind_some]
    unfold fcP
    generalize cgP B sz p j V = C at *
    by_cases z1 : C.1 = 0
    · obtain ⟨b1, b2, b3⟩ := a4 z1
      obtain ⟨f1, f2, f3, f4⟩ := cok z1
      rw [if_pos z1, if_pos z1]
      show ∃ τ, (L_X12_readsAll_35 n (kf + 1) 1 τ1).bind _ = some _ ∧ _
      obtain ⟨τ2, c1, c2, c3⟩ := M_see hn b1
      have hq := sk_le (B := B) f1
      have hsk := sk_idem (B := B) f1
      have V2 := r5_agm b2 c3 (by simp)
      have x2 : agm [255] [1, 8, 9, 10, 14] σ τ2 := agm_trans a3' (agm_mono c3 (by simp) (by simp))
      have g11 : τ2.1 249 11 = nI 6 := by rw [(c3.2 11 (by decide)).1, (a3.2 11 (by decide)).1]; exact h11
      have g14 : τ2.1 249 14 = nI (j + 1) := by rw [(c3.2 14 (by decide)).1]; exact b3
      rw [L_X12_readsAll_35, if_neg ne10, c1, Option.bind_some]
      by_cases z2 : sg B sz (sk B sz C.2.1) = 59
      · have hlt := (sg_lt (by decide) z2).1
        show ∃ τ, (if sg B sz (sk B sz C.2.1) = 59 then (F_X12_clauseHere n (psI τ2 249 8 (τ2.1 249 8 + 1))).bind (fun q8 => L_X12_readsAll_35 n kf q8.1 q8.2) else _).bind _ = some _ ∧ _
        rw [if_pos z2, if_pos z2, c2.2.2.1, nI_p1]
        have a5 : agm [] [8] τ2 (psI τ2 249 8 (nI (sk B sz C.2.1 + 1))) := agm_fld (by simp)
        obtain ⟨τ, r1, r2, r3, r4, r5'⟩ := M_fc35 hn k kf (sk B sz C.2.1 + 1) (j + 1) _ C.2.2 (TM_p c2 (p' := sk B sz C.2.1 + 1) (by omega)) (r5_agm V2 a5 (by simp)) (by rw [(a5.2 11 (by decide)).1]; exact g11) (by rw [(a5.2 14 (by decide)).1]; exact g14) (by omega) f3 (by omega) (by omega)
        unfold mra at r1
        rw [Option.bind_assoc, r1]
        exact ⟨τ, rfl, agm_trans x2 (agm_trans (agm_mono a5 (by simp) (by simp)) r2), r3, r4, r5'⟩
      · show ∃ τ, (if sg B sz (sk B sz C.2.1) = 59 then _ else some ((1 : Int32), τ2)).bind _ = some _ ∧ _
        rw [if_neg z2, if_neg z2, Option.bind_some]
        unfold fin35
        show ∃ τ, (if (1 : Int32) = 0 then _ else (F_X12_see n τ2).bind _) = some _ ∧ _
        rw [if_neg ne10, M_see' hn c2 hsk, Option.bind_some]
        have g9 : (psI τ2 249 1 (0 : Int32)).1 249 9 = 0 := by rw [psI_eq, if_neg (by decide)]; exact c2.2.2.2.1
        have a6 : agm [] [1] τ2 (psI τ2 249 1 (0 : Int32)) := agm_fld (by simp)
        show ∃ τ, (if sg B sz (sk B sz C.2.1) = -1 then (if (psI τ2 249 1 (0 : Int32)).1 249 9 = 0 then some ((1 : Int32), psI τ2 249 1 (0 : Int32)) else _) else (F_X12_fails n (nI 0) (τ2.1 249 8) τ2).bind _) = some _ ∧ _
        by_cases z3 : sg B sz (sk B sz C.2.1) = -1
        · rw [if_pos z3, if_pos z3, if_pos g9]
          exact ⟨_, rfl, agm_trans x2 (agm_mono a6 (by simp) (by simp)), by rw [psI_eq, if_pos rfl], g9, fun _ => r5_agm V2 a6 (by simp)⟩
        · rw [if_neg z3, if_neg z3, c2.2.2.1]
          obtain ⟨τ3, d1, d2, d3⟩ := M_fails0 (n := n) (w := sk B sz C.2.1) (k := 0) c2
          rw [d1, Option.bind_some]
          have g9' : (psI τ3 249 1 (0 : Int32)).1 249 9 = nI (1 + 8 * sk B sz C.2.1) := by rw [psI_eq, if_neg (by decide)]; exact d2.2.2.2.1
          rw [g9', if_neg (nI_ne0 (by omega) (by omega)), if_neg (show ¬ 1 + 8 * sk B sz C.2.1 = 0 by omega)]
          exact ⟨_, rfl, agm_trans x2 (agm_trans (agm_mono d3 (by simp) (by simp)) (agm_fld (by simp))), by rw [psI_eq, if_pos rfl], g9', fun z => absurd z (by show ¬ 1 + 8 * sk B sz C.2.1 = 0; omega)⟩
    · rw [if_neg z1, if_neg z1]
      show ∃ τ, (L_X12_readsAll_35 n (kf + 1) 0 τ1).bind _ = some _ ∧ _
      rw [L_X12_readsAll_35, if_pos rfl, Option.bind_some]
      unfold fin35
      have g9' : (psI τ1 249 1 (0 : Int32)).1 249 9 = nI C.1 := by rw [psI_eq, if_neg (by decide)]; exact a2
      show ∃ τ, (if (0 : Int32) = 0 then (if (psI τ1 249 1 (0 : Int32)).1 249 9 = 0 then _ else some ((0 : Int32), psI τ1 249 1 (0 : Int32))) else _) = some _ ∧ _
      rw [if_pos rfl, g9', if_neg (nI_fault z1 hclt), if_neg z1]
      exact ⟨_, rfl, agm_trans a3' (agm_fld (by simp)), by rw [psI_eq, if_pos rfl], g9', fun z => absurd z z1⟩
theorem M_camp8 : ∀ (k i : Nat) (σ : PS), i ≤ 158 → 159 ≤ k + i → (∀ x, x < i → σ.1 255 x = nI 0) → ∃ τ, L_X12_camp_8 n k (nI i) σ = some τ ∧ r5 τ (fun _ => 0) ∧ agr [255] σ τ
  | 0, i, σ, hi, hk, h => by omega
  | k + 1, i, σ, hi, hk, h => by
    rw [L_X12_camp_8]
    by_cases e : 158 ≤ i
    · rw [if_pos (show (158 : Int32) ≤ nI i from nI_le (show 158 ≤ i from e) (by omega))]
      exact ⟨σ, rfl, fun x hx => h x (by omega), agr_refl⟩
    · rw [if_neg (show ¬ (158 : Int32) ≤ nI i from nI_ge (show i < 158 by omega) (by decide)), nI_clamp (by omega), if_pos ⟨nI_pos' (by omega), by omega⟩, nI_1]
      obtain ⟨τ, t1, t2, t3⟩ := M_camp8 k (i + 1) (psI σ 255 i 0) (by omega) (by omega) (fun x hx => by
        rw [psI_eq]
        by_cases q : x = i
        · rw [if_pos q]; rfl
        · rw [if_neg q]; exact h x (by omega))
      exact ⟨τ, t1, t2, agr_trans (agr_psI (by simp)) t3⟩
def saidV (V : Nat → Nat) : Nat → Nat := fun k => if k < 158 then V k else 0
theorem M_camp45 {V : Nat → Nat} : ∀ (k i : Nat) (σ : PS) (T : Nat → Nat), r5 σ V → rowN σ 259 T → (∀ x, T x = if x < i then saidV V x else T x) → (∀ x, 179 ≤ x → T x = 0) → i ≤ 179 → 180 ≤ k + i → ∃ τ, L_X12_camp_45 n k (nI i) σ = some τ ∧ rowN τ 259 (saidV V) ∧ agr [259] σ τ
  | 0, i, σ, T, hV, hT, hh, hz, hi, hk => by omega
  | k + 1, i, σ, T, hV, hT, hh, hz, hi, hk => by
    rw [L_X12_camp_45]
    by_cases e : 179 ≤ i
    · rw [if_pos (show (179 : Int32) ≤ nI i from nI_le (show 179 ≤ i from e) (by omega))]
      have eT : T = saidV V := by
        funext x
        by_cases q : x < i
        · rw [hh x, if_pos q]
        · rw [hz x (by omega)]; unfold saidV; rw [if_neg (by omega)]
      rw [eT] at hT
      exact ⟨σ, rfl, hT, agr_refl⟩
    · rw [if_neg (show ¬ (179 : Int32) ≤ nI i from nI_ge (show i < 179 by omega) (by decide))]
      have step : ∀ v, v = saidV V i → ∃ τ, L_X12_camp_45 n k (nI i + 1) (psI σ 259 i (nI v)) = some τ ∧ rowN τ 259 (saidV V) ∧ agr [259] σ τ := by
        intro v hv
        rw [nI_1]
        obtain ⟨τ, t1, t2, t3⟩ := M_camp45 k (i + 1) (psI σ 259 i (nI v)) (un T i v) (fun x hx => by rw [psI_other (by decide)]; exact hV x hx) (rowN_set hT) (fun x => by
          by_cases q : x = i
          · subst q; rw [un_eq, if_pos (by omega)]; exact hv
          · rw [un_ne _ _ q]
            by_cases q2 : x < i
            · rw [if_pos (by omega), hh x, if_pos q2]
            · rw [if_neg (by omega)]) (fun x hx => by rw [un_ne _ _ (by omega)]; exact hz x hx) (by omega) (by omega)
        exact ⟨τ, t1, t2, agr_trans (agr_psI (by simp)) t3⟩
      by_cases e2 : 158 ≤ i
      · rw [if_pos (show (158 : Int32) ≤ nI i from nI_le (show 158 ≤ i from e2) (by omega)), nI_clamp (by omega), if_pos ⟨nI_pos' (by omega), by omega⟩]
        exact step 0 (by unfold saidV; rw [if_neg (by omega)])
      · rw [if_neg (show ¬ (158 : Int32) ≤ nI i from nI_ge (show i < 158 by omega) (by decide)), nI_clamp (by omega), if_pos ⟨nI_pos' (by omega), by omega⟩, if_pos ⟨nI_pos' (by omega), by omega⟩, hV i (by omega)]
        exact step (V i) (by unfold saidV; rw [if_pos (by omega)])
/-- the call camp: what it answers -/
def cpA (B : Nat → Int32) (sz : Nat) : Int32 := if (fcP B sz 41 0 0 (fun _ => 0)).1 = 0 then nI ((fcP B sz 41 0 0 (fun _ => 0)).2 2) else -2 - nI (fcP B sz 41 0 0 (fun _ => 0)).1
/-- the camp that was told -/
def cpS (B : Nat → Int32) (sz : Nat) : Nat → Nat := begS (saidV (fcP B sz 41 0 0 (fun _ => 0)).2)
theorem okV0 : okV 0 (fun _ => 0) := ⟨fun _ _ => rfl, fun q => absurd rfl q⟩
theorem O_camp_M (hn : 1000 ≤ n) {σ : PS} {S : Nat → Nat} (h : TpM σ B sz) (hS : rowN σ 259 S) (hz : ∀ x, 179 ≤ x → S x = 0) : ∃ τ, F_X12_camp n σ = some (cpA B sz, τ) ∧ TpM τ B 0 ∧ ((¬ (fcP B sz 41 0 0 (fun _ => 0)).1 = 0 ∧ rowN τ 259 S ∧ τ.1 249 26 = σ.1 249 26) ∨ ((fcP B sz 41 0 0 (fun _ => 0)).1 = 0 ∧ rowN τ 259 (cpS B sz) ∧ τ.1 249 26 = nI 0)) ∧ agm [252, 255, 259] [1, 8, 9, 10, 11, 12, 14, 26] σ τ := by
  obtain ⟨h0, h1, h3⟩ := h
  unfold F_X12_camp
  obtain ⟨τ1, a1, a2, a3⟩ := M_camp8 (n := n) n 0 (psI σ 249 11 (6 : Int32)) (by omega) (by omega) (fun x hx => by omega)
  show ∃ τ, (L_X12_camp_8 n n (nI 0) (psI σ 249 11 (6 : Int32))).bind _ = some _ ∧ _
  rw [a1, Option.bind_some]
  have x1 : agm [252, 255, 259] [1, 8, 9, 10, 11, 12, 14, 26] σ τ1 := agm_trans (agm_fld (by simp)) (agm_mono (agm_of a3 (by decide) (Fs := [])) (by simp) (by simp))
  have g11 : τ1.1 249 11 = nI 6 := by rw [(a3 249 (by decide)).1, psI_eq, if_pos rfl]; rfl
  unfold F_X12_readsAll
  rw [g11, nI_clamp (by omega), if_pos ⟨nI_pos' (by omega), by omega⟩]
  generalize hT : psI (psI (psI (psI (psI τ1 252 6 (0 : Int32)) 249 14 (0 : Int32)) 249 8 (0 : Int32)) 249 9 (0 : Int32)) 249 12 (0 : Int32) = τ0
  have a0 : agm [252] [8, 9, 12, 14] τ1 τ0 := by rw [← hT]; exact agm_trans (agm_psI (by simp) (by decide)) (agm_trans (agm_fld (by simp)) (agm_trans (agm_fld (by simp)) (agm_trans (agm_fld (by simp)) (agm_fld (by simp)))))
  have t0 : TM τ0 B sz 0 0 := by
    refine ⟨by rw [(a0.1 250 (by decide) (by decide)).1, (x1.1 250 (by decide) (by decide)).1]; exact h0, ?_, ?_, ?_, Nat.zero_le _, h3⟩
    · rw [(a0.2 1 (by decide)).1, (a3 249 (by decide)).1, psI_eq, if_neg (by decide)]; exact h1
    · rw [← hT, psI_eq, if_neg (by decide), psI_eq, if_neg (by decide), psI_eq, if_pos rfl]; rfl
    · rw [← hT, psI_eq, if_neg (by decide), psI_eq, if_pos rfl]
  have g14 : τ0.1 249 14 = nI 0 := by rw [← hT, psI_eq, if_neg (by decide), psI_eq, if_neg (by decide), psI_eq, if_neg (by decide), psI_eq, if_pos rfl]; rfl
  obtain ⟨τ2, r1, r2, r3, r4, r5'⟩ := M_fc35 hn 41 n 0 0 τ0 (fun _ => 0) t0 (r5_agm a2 a0 (by decide)) (by rw [(a0.2 11 (by decide)).1]; exact g11) g14 (by decide) okV0 (by omega) (by omega)
  have hlt := fcP_lt (B := B) h3 41 0 0 (fun _ => 0) (Nat.zero_le _) (by decide) okV0
  show ∃ τ, (mra n n τ0).bind _ = some _ ∧ _
  rw [r1, Option.bind_some]
  have x2 : agm [252, 255, 259] [1, 8, 9, 10, 11, 12, 14, 26] σ τ2 := agm_trans x1 (agm_trans (agm_mono a0 (by simp) (by simp)) (agm_mono r2 (by simp) (by simp)))
  have hS2 : rowN τ2 259 S := by
    refine Eq.trans ?_ hS
    rw [(r2.1 259 (by decide) (by decide)).1, (a0.1 259 (by decide) (by decide)).1, (a3 259 (by decide)).1, psI_other (by decide)]
  have tp : TpM τ2 B 0 := ⟨by rw [(x2.1 250 (by decide) (by decide)).1]; exact h0, r3, by decide⟩
  have g26 : τ2.1 249 26 = σ.1 249 26 := by rw [(r2.2 26 (by decide)).1, (a0.2 26 (by decide)).1, (a3 249 (by decide)).1, psI_eq, if_neg (by decide)]
  unfold cpA
  by_cases zr : (fcP B sz 41 0 0 (fun _ => 0)).1 = 0
  · rw [if_pos zr, if_neg ne10, if_pos zr]
    have V2 := r5' zr
    unfold cpS
    generalize (fcP B sz 41 0 0 (fun _ => 0)).2 = V at *
    obtain ⟨τ3, c1, c2, c3⟩ := M_camp45 (n := n) (V := V) n 0 τ2 S V2 hS2 (fun x => by rw [if_neg (by omega)]) hz (by omega) (by omega)
    show ∃ τ, (L_X12_camp_45 n n (nI 0) τ2).bind _ = some _ ∧ _
    rw [c1, Option.bind_some]
    obtain ⟨τ4, d1, d2, d3⟩ := M_begins hn c2
    rw [d1, Option.bind_some]
    have e2 : (psI τ4 249 26 (0 : Int32)).1 259 2 = nI (V 2) := by
      rw [psI_other (by decide), rowN_get d2, begS_lo _ (by decide)]; rfl
    rw [e2]
    refine ⟨_, rfl, ⟨?_, ?_, by decide⟩, Or.inr ⟨zr, ?_, by rw [psI_eq, if_pos rfl]; rfl⟩, ?_⟩
    · rw [psI_other (by decide), (d3 250 (by decide)).1, (c3 250 (by decide)).1]; exact tp.1
    · rw [psI_eq, if_neg (by decide), (d3 249 (by decide)).1, (c3 249 (by decide)).1]; exact tp.2.1
    · exact rowN_other d2 (by decide)
    · exact agm_trans x2 (agm_trans (agm_mono (agm_of c3 (by decide) (Fs := [])) (by simp) (by simp)) (agm_trans (agm_mono (agm_of d3 (by decide) (Fs := [])) (by simp) (by simp)) (agm_fld (by simp))))
  · rw [if_neg zr, if_pos rfl, if_neg zr]
    show ∃ τ, some ((-2 : Int32) - τ2.1 249 9, τ2) = some _ ∧ _
    rw [r4]
    exact ⟨_, rfl, tp, Or.inl ⟨zr, hS2, g26⟩, x2⟩
end MC
