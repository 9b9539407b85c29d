/-! The class's call camp. -/
section XH
variable {n : Nat} {B : Nat → Int32} {sz : Nat}
theorem X_semi2 (hn : 1000 ≤ n) {e s : Nat} {σ : PS} (ht : TX σ B sz e s 0) : (sg B sz (sk B sz e) = 59 ∧ ∃ τ, F_X9_takeSemicolon n σ = some (1, τ) ∧ agr [1] σ τ ∧ TX τ B sz (sk B sz e + 1) s 0) ∨ (¬ sg B sz (sk B sz e) = 59 ∧ ∃ τ, F_X9_takeSemicolon n σ = some (0, τ) ∧ agr [1] σ τ ∧ TX τ B sz (sk B sz e) s (nI (if sg B sz (sk B sz e) = -1 then 0 else 1 + 8 * sk B sz e))) := by
  obtain ⟨τ1, a1, a2, a3, a4⟩ := X_peek hn ht
  unfold F_X9_takeSemicolon
  rw [ht.2.2.2.2.1, if_pos rfl, a1, Option.bind_some]
  generalize sk B sz e = q at *
  by_cases z : sg B sz q = 59
  · refine Or.inl ⟨z, ?_⟩
    have hlt := (sg_lt (by decide) z).1
    show ∃ τ, (if sg B sz q = 59 then some (1, psI τ1 1 2 (τ1.1 1 2 + 1)) else _) = some _ ∧ _
    rw [if_pos z, a2.2.2.1, nI_p1]
    exact ⟨_, rfl, agr_trans a4 (agr_psI (by simp)), TX_p a2 (by have := a2.2.2.2.2.2.1; omega) (by omega)⟩
  · refine Or.inr ⟨z, ?_⟩
    show ∃ τ, (if sg B sz q = 59 then _ else if sg B sz q = -1 then some (0, τ1) else (F_X9_fail n (τ1.1 1 2) (nI 0) τ1).bind _) = some _ ∧ _
    rw [if_neg z]
    by_cases z2 : sg B sz q = -1
    · rw [if_pos z2, if_pos z2]
      exact ⟨τ1, rfl, a4, a2⟩
    · rw [if_neg z2, if_neg z2, a2.2.2.1]
      obtain ⟨τ2, b1, b2, b3, b4⟩ := X_fail0 (n := n) (w := q) (k := 0) a2
      rw [b1]
      exact ⟨τ2, rfl, agr_trans a4 b4, b2⟩
abbrev cw : List Nat := [1, 217, 218, 219, 220, 221]
theorem X_cg (hn : 1000 ≤ n) {p j s : Nat} {σ : PS} {V : Nat → Nat} (ht : TX σ B sz p s 0) (hR : RX σ 217 (begS V)) (hj : j ≤ 40) (hok : okV j V) : ∃ τ, F_X1_readClause n 217 (nI (j + 1)) σ = some τ ∧ agr cw σ τ ∧ (∃ p' s', TX τ B sz p' s' (nI (cgP B sz p j V).1)) ∧ ((cgP B sz p j V).1 = 0 → ∃ s', TX τ B sz (cgP B sz p j V).2.1 s' 0 ∧ RX τ 217 (begS (cgP B sz p j V).2.2)) := by
  obtain ⟨τ1, a1, a2, a3, a4⟩ := X_takeWord hn ht
  have hR1 := RX_agr hR a4 (by decide)
  have x1 : agr cw σ τ1 := agr_mono a4 (by simp)
  unfold F_X1_readClause cgP
  rw [a1, Option.bind_some, X_wordIs hn (a := 0) (by decide) a2, Option.bind_some]
  show ∃ τ, (F_X9_wordIs n 1 τ1).bind _ = some τ ∧ _
  rw [X_wordIs hn (a := 1) (by decide) a2, Option.bind_some]
  generalize sk B sz p = q at *
  have fail : ∀ k : Nat, ∃ τ, ((F_X9_fail n (τ1.1 1 3) (nI k) τ1).bind (fun q33 => some q33)) = some τ ∧ agr cw σ τ ∧ (∃ p' s', TX τ B sz p' s' (nI (1 + 8 * q + k))) := by
    intro k
    rw [a2.2.2.2.1]
    obtain ⟨τ2, b1, b2, b3, b4⟩ := X_fail0 (n := n) (w := q) (k := k) a2
    rw [b1]
    exact ⟨τ2, rfl, agr_trans x1 (agr_mono b4 (by simp)), _, _, b2⟩
  have bad : ∀ X : GR, X = (5 + 8 * q, 0, V) → ∃ τ, ((F_X9_fail n (τ1.1 1 3) (nI 4) τ1).bind (fun q33 => some q33)) = some τ ∧ agr cw σ τ ∧ (∃ p' s', TX τ B sz p' s' (nI X.1)) ∧ (X.1 = 0 → ∃ s', TX τ B sz X.2.1 s' 0 ∧ RX τ 217 (begS X.2.2)) := by
    intro X hX
    subst hX
    obtain ⟨τ, f1, f2, f3⟩ := fail 4
    rw [show 1 + 8 * q + 4 = 5 + 8 * q by omega] at f3
    exact ⟨τ, f1, f2, f3, fun w => absurd w (by show ¬ 5 + 8 * q = 0; omega)⟩
  by_cases z0 : wl B sz q = wS 0
  · have a2' : TX τ1 B sz (q + 4) q 0 := by rw [z0] at a2; exact a2
    have n1 : ¬ wl B sz q = wS 1 := by rw [z0]; exact wS_012.1
    rw [if_pos z0, if_neg n1, if_neg ne10, if_pos z0]
    unfold J_X1_readClause_65
    by_cases zj : j = 0
    · subst zj
      rw [if_pos (show nI (0 + 1) = (1 : Int32) from rfl), if_pos rfl, if_pos (by decide), if_pos rfl]
      unfold J_X1_readClause_90
      rw [if_pos rfl, if_pos rfl]
      unfold J_X1_readClause_127
      rw [if_neg ne10]
      obtain ⟨τ2, b1, b2, b3, b4⟩ := X_square hn a2' (hok.1 rfl) hR1
      rw [b1]
      exact ⟨τ2, rfl, agr_trans x1 (agr_mono b2 (by simp)), b3, b4⟩
    · rw [if_neg (show ¬ nI (j + 1) = (1 : Int32) from fun w => zj (by have := nI_inj (b := 1) (by omega) (by decide) w; omega)), if_neg ne10, if_neg zj]
      unfold J_X1_readClause_90
      rw [if_neg ne10]
      exact bad _ rfl
  rw [if_neg z0, if_pos rfl, if_neg z0]
  -- tent or bush: out of place at the first clause and behind the fortieth
  have place : ∀ x4 : Int32, (j = 0 ∨ j = 40 → J_X1_readClause_65 n 217 (nI (j + 1)) 0 x4 τ1 = ((F_X9_fail n (τ1.1 1 3) (nI 4) τ1).bind (fun q11 => some q11))) ∧ (¬ (j = 0 ∨ j = 40) → J_X1_readClause_65 n 217 (nI (j + 1)) 0 x4 τ1 = J_X1_readClause_90 n 217 0 x4 0 τ1) := by
    intro x4
    refine ⟨fun w => ?_, fun w => ?_⟩
    · unfold J_X1_readClause_65
      by_cases zj : j = 0
      · subst zj
        rw [if_pos (show nI (0 + 1) = (1 : Int32) from rfl), if_neg (by decide)]
        unfold J_X1_readClause_90
        rw [if_neg ne10]
        rfl
      · have z40 : j = 40 := by omega
        rw [if_neg (show ¬ nI (j + 1) = (1 : Int32) from fun w => zj (by have := nI_inj (b := 1) (by omega) (by decide) w; omega)), if_pos rfl, if_neg (show ¬ nI (j + 1) ≤ (40 : Int32) from nI_ge (show 40 < j + 1 by omega) (by omega))]
        unfold J_X1_readClause_90
        rw [if_neg ne10]
        rfl
    · unfold J_X1_readClause_65
      rw [if_neg (show ¬ nI (j + 1) = (1 : Int32) from fun w2 => w (Or.inl (by have := nI_inj (b := 1) (by omega) (by decide) w2; omega))), if_pos rfl, if_pos (show nI (j + 1) ≤ (40 : Int32) from nI_le (show j + 1 ≤ 40 by omega) (by decide))]
  by_cases z1 : wl B sz q = wS 1
  · have a2' : TX τ1 B sz (q + 4) q 0 := by rw [z1] at a2; exact a2
    rw [if_pos z1, if_neg ne10, if_pos z1]
    show ∃ τ, J_X1_readClause_65 n 217 (nI (j + 1)) 0 1 τ1 = some τ ∧ _
    by_cases zp : j = 0 ∨ j = 40
    · rw [(place 1).1 zp]
      exact bad _ (if_pos (by omega))
    · rw [(place 1).2 zp]
      obtain ⟨v0, v1, v1', v2, v3, v4, v5⟩ := hok.2 (by omega)
      unfold J_X1_readClause_90
      have e5 : τ1.1 217 5 = nI (V 2) := by rw [hR1.2.2.2.2.2.1, begS_lo _ (by decide)]
      rw [if_pos rfl, if_neg ne10, e5]
      by_cases z6 : V 2 = 6
      · rw [if_neg (show ¬ nI (V 2) < (6 : Int32) from nI_nlt (show 6 ≤ V 2 by omega) (by omega))]
        exact bad _ (if_pos (by omega))
      · rw [if_pos (show nI (V 2) < (6 : Int32) from nI_lt (show V 2 < 6 by omega) (by decide)), if_neg (show ¬ (j = 0 ∨ j = 40 ∨ V 2 = 6) by omega)]
        unfold J_X1_readClause_127
        rw [if_pos rfl, if_neg ne10]
        obtain ⟨τ2, b1, b2, b3, b4⟩ := X_tent hn a2' hR1 v1 v1' (by omega)
        rw [b1]
        exact ⟨τ2, rfl, agr_trans x1 b2, b3, b4⟩
  rw [if_neg z1, if_pos rfl, if_neg z1]
  show ∃ τ, (F_X9_wordIs n 2 τ1).bind _ = some τ ∧ _
  rw [X_wordIs hn (a := 2) (by decide) a2, Option.bind_some]
  by_cases z2 : wl B sz q = wS 2
  · have a2' : TX τ1 B sz (q + 4) q 0 := by rw [z2] at a2; exact a2
    rw [if_pos z2, if_neg ne10, if_pos z2]
    show ∃ τ, J_X1_readClause_65 n 217 (nI (j + 1)) 0 0 τ1 = some τ ∧ _
    by_cases zp : j = 0 ∨ j = 40
    · rw [(place 0).1 zp]
      exact bad _ (if_pos zp)
    · rw [(place 0).2 zp, if_neg zp]
      obtain ⟨v0, v1, v1', v2, v3, v4, v5⟩ := hok.2 (by omega)
      unfold J_X1_readClause_90
      rw [if_pos rfl, if_pos rfl]
      obtain ⟨τ2, b1, b2, b3, b4⟩ := X_bushC hn a2' hR1 v1 v1' v2
      exact ⟨τ2, b1, agr_trans x1 b2, b3, b4⟩
  · rw [if_neg z2, if_pos rfl, if_neg z2]
    obtain ⟨τ, f1, f2, f3⟩ := fail 0
    exact ⟨τ, f1, f2, f3, fun w => absurd w (by show ¬ 1 + 8 * q = 0; omega)⟩
theorem X_fc13 (hn : 1000 ≤ n) : ∀ (k kf p j s : Nat) (σ : PS) (V : Nat → Nat), TX σ B sz p s 0 → RX σ 217 (begS V) → j ≤ 40 → okV j V → 40 < k + j → k ≤ kf → ∃ e τ, L_X1_read_13 n 217 kf (nI (j + 1)) σ = some (e, τ) ∧ agr cw σ τ ∧ (∃ p' s', TX τ B sz p' s' (nI (fcP B sz k p j V).1)) ∧ ((fcP B sz k p j V).1 = 0 → RX τ 217 (begS (fcP B sz k p j V).2))
  | 0, kf, p, j, s, σ, V, ht, hR, hj, hok, hf, hkf => by omega
  | k + 1, 0, p, j, s, σ, V, ht, hR, hj, hok, hf, hkf => by omega
  | k + 1, kf + 1, p, j, s, σ, V, ht, hR, hj, hok, hf, hkf => by
    have h400 := ht.2.2.2.2.2.2.2
    have hp := ht.2.2.2.2.2.2.1
    have hclt := cg_lt (B := B) (j := j) (V := V) h400 hp
    have cok := cg_ok (B := B) (sz := sz) (p := p) hp hj hok
    obtain ⟨τ1, a1, a2, a3, a4⟩ := X_cg hn ht hR hj hok
    rw [L_X1_read_13, if_neg (show ¬ (41 : Int32) < nI (j + 1) from nI_nlt (show j + 1 ≤ 41 by omega) (by decide)), a1, Option.bind_some]
    unfold fcP
    generalize cgP B sz p j V = C at *
    by_cases z1 : C.1 = 0
    · obtain ⟨s1, b1, b2⟩ := a4 z1
      obtain ⟨f1, f2, f3, f4⟩ := cok z1
      rw [if_pos z1]
      have hq := sk_le (B := B) f1
      rcases X_semi2 hn b1 with ⟨w, τ2, c1, c2, c3⟩ | ⟨w, τ2, c1, c2, c3⟩
      · have hlt := (sg_lt (by decide) w).1
        rw [c1, Option.bind_some, if_neg ne10, if_pos w, nI_1]
        obtain ⟨e, τ, r1, r2, r3, r4⟩ := X_fc13 hn k kf (sk B sz C.2.1 + 1) (j + 1) s1 τ2 C.2.2 c3 (RX_agr b2 c2 (by decide)) (by omega) f3 (by omega) (by omega)
        exact ⟨e, τ, r1, agr_trans a2 (agr_trans (agr_mono c2 (by simp)) r2), r3, r4⟩
      · rw [c1, Option.bind_some, if_pos rfl, if_neg w]
        have x2 : agr cw σ τ2 := agr_trans a2 (agr_mono c2 (by simp))
        by_cases w2 : sg B sz (sk B sz C.2.1) = -1
        · rw [if_pos w2] at c3 ⊢
          exact ⟨_, τ2, rfl, x2, ⟨_, _, c3⟩, fun _ => RX_agr b2 c2 (by decide)⟩
        · rw [if_neg w2] at c3 ⊢
          exact ⟨_, τ2, rfl, x2, ⟨_, _, c3⟩, fun z => absurd z (by show ¬ 1 + 8 * sk B sz C.2.1 = 0; omega)⟩
    · rw [if_neg z1]
      obtain ⟨p1, s1, t1⟩ := a3
      have hs : F_X9_takeSemicolon n τ1 = some (0, τ1) := by
        unfold F_X9_takeSemicolon
        rw [t1.2.2.2.2.1, if_neg (nI_fault z1 hclt)]
      rw [hs, Option.bind_some, if_pos rfl]
      exact ⟨_, τ1, rfl, a2, ⟨p1, s1, t1⟩, fun z => absurd z z1⟩
theorem X_clear37 : ∀ (k i : Nat) (σ : PS), i ≤ 36 → 37 ≤ k + i → (∀ x, x < i → σ.1 222 x = nI 0) → ∃ τ, L_X10_clear_37 n 217 k (nI i) σ = some τ ∧ (∀ x, x < 36 → τ.1 222 x = nI 0) ∧ agr [222] σ τ
  | 0, i, σ, hi, hk, h => by omega
  | k + 1, i, σ, hi, hk, h => by
    rw [L_X10_clear_37]
    by_cases e : 36 ≤ i
    · rw [if_pos (show (36 : Int32) ≤ nI i from nI_le (show 36 ≤ i from e) (by omega))]
      exact ⟨σ, rfl, fun x hx => h x (by omega), agr_refl⟩
    · rw [if_neg (show ¬ (36 : Int32) ≤ nI i from nI_ge (show i < 36 by omega) (by decide)), nI_clamp (by omega), if_pos ⟨nI_pos' (by omega), by omega⟩, nI_1]
      obtain ⟨τ, t1, t2, t3⟩ := X_clear37 k (i + 1) (psI σ 222 i 0) (by omega) (by omega) (fun x hx => by
        rw [psI_eq]
        by_cases q : x = i
        · rw [if_pos q]; rfl
        · rw [if_neg q]; exact h x (by omega))
      exact ⟨τ, t1, t2, agr_trans (agr_psI (by simp)) t3⟩
theorem X_clear (hn : 1000 ≤ n) {σ : PS} : ∃ τ, F_X10_clear n 217 σ = some τ ∧ RX τ 217 (begS (fun _ => 0)) ∧ agr [217, 222] σ τ := by
  unfold F_X10_clear
  generalize hT : psJ (psI (psI (psI (psI (psI (psI σ 217 0 (0 : Int32)) 217 1 (0 : Int32)) 217 2 (0 : Int32)) 217 3 (0 : Int32)) 217 4 (0 : Int32)) 217 5 (0 : Int32)) 217 6 (0 : Int64) = τ0
  have a0 : agr [217] σ τ0 := by rw [← hT]; exact agr_trans (agr_psI (by simp)) (agr_trans (agr_psI (by simp)) (agr_trans (agr_psI (by simp)) (agr_trans (agr_psI (by simp)) (agr_trans (agr_psI (by simp)) (agr_trans (agr_psI (by simp)) (agr_psJ (by simp)))))))
  obtain ⟨τ, b1, b2, b3⟩ := X_clear37 (n := n) n 0 τ0 (by omega) (by omega) (fun x hx => by omega)
  show ∃ τ, (L_X10_clear_37 n 217 n (nI 0) τ0).bind _ = some τ ∧ _
  rw [b1]
  refine ⟨τ, rfl, ?_, agr_trans (agr_mono a0 (by simp)) (agr_mono b3 (by simp))⟩
  have r217 : τ.1 217 = τ0.1 217 := (b3 217 (by decide)).1
  have j217 : τ.2 217 = τ0.2 217 := (b3 217 (by decide)).2
  have z1 : begS (fun _ => 0) 1 = 0 := rfl
  refine ⟨?_, ?_, ?_, ?_, ?_, ?_, ?_, fun t ht => ?_, fun c hc => ?_⟩
  · rw [r217, ← hT, psJ_I, psI_eq, if_neg (by decide), psI_eq, if_neg (by decide), psI_eq, if_neg (by decide), psI_eq, if_neg (by decide), psI_eq, if_neg (by decide), psI_eq, if_pos rfl]; rfl
  · rw [r217, ← hT, psJ_I, psI_eq, if_neg (by decide), psI_eq, if_neg (by decide), psI_eq, if_neg (by decide), psI_eq, if_neg (by decide), psI_eq, if_pos rfl]; rfl
  · rw [r217, ← hT, psJ_I, psI_eq, if_neg (by decide), psI_eq, if_neg (by decide), psI_eq, if_neg (by decide), psI_eq, if_pos rfl]; rfl
  · rw [r217, ← hT, psJ_I, psI_eq, if_neg (by decide), psI_eq, if_neg (by decide), psI_eq, if_pos rfl]; rfl
  · rw [r217, ← hT, psJ_I, psI_eq, if_neg (by decide), psI_eq, if_pos rfl]; rfl
  · rw [r217, ← hT, psJ_I, psI_eq, if_pos rfl]; rfl
  · rw [j217, ← hT, psJ_eq, if_pos rfl]; rfl
  · exact absurd ht (Nat.not_lt_zero t)
  · rw [begS_n _ hc]; exact b2 c hc
theorem saidV_lo {V : Nat → Nat} : ∀ j, j < 109 → begS (saidV V) j = begS V j := by
  intro j hj
  have e : ∀ k, k < 158 → saidV V k = V k := fun k hk => if_pos hk
  unfold begS
  by_cases h1 : j < 10
  · rw [if_pos h1, if_pos h1]; exact e j (by omega)
  rw [if_neg h1, if_neg h1, e 109 (by decide)]
  by_cases h5 : j < 37
  · rw [if_pos h5, if_pos h5, e (110 + (j - 13) / 4) (by omega), e (116 + (j - 13) / 4) (by omega)]
  rw [if_neg h5, if_neg h5]
  by_cases h6 : j < 73
  · rw [if_pos h6, if_pos h6, e (122 + (j - 37)) (by omega)]
  rw [if_neg h6, if_neg h6, if_pos hj, if_pos hj]
abbrev cpT : List Nat := [1, 18, 19, 20, 21, 22, 23, 24, 25, 26, 27, 28, 29, 30, 94, 217, 218, 219, 220, 221, 222]
theorem O_camp_X (hn : 1000 ≤ n) {σ : PS} (h : TpX σ B sz) : ∃ τ, F_X11_camp n σ = some (cpA B sz, τ) ∧ TpX τ B 0 ∧ ((¬ (fcP B sz 41 0 0 (fun _ => 0)).1 = 0 ∧ agr [1, 217, 218, 219, 220, 221, 222] σ τ) ∨ ((fcP B sz 41 0 0 (fun _ => 0)).1 = 0 ∧ RX τ 25 (cpS B sz) ∧ RX τ 19 (cpS B sz) ∧ τ.1 18 4 = nI 0 ∧ τ.1 94 0 = nI 0 ∧ (∀ k, k ≠ 4 → τ.1 18 k = σ.1 18 k) ∧ (∀ k, k ≠ 0 → τ.1 94 k = σ.1 94 k) ∧ agr cpT σ τ)) := by
  obtain ⟨h1, h2, h3⟩ := h
  unfold F_X11_camp F_X1_read
  obtain ⟨τ1, a1, a2, a3⟩ := X_clear hn (σ := σ)
  rw [a1, Option.bind_some]
  unfold F_X9_startReading
  rw [Option.bind_some]
  generalize hT : psI (psI (psI τ1 1 2 (0 : Int32)) 1 3 (0 : Int32)) 1 5 (0 : Int32) = τ0
  have a0 : agr [1] τ1 τ0 := by rw [← hT]; exact agr_trans (agr_psI (by simp)) (agr_trans (agr_psI (by simp)) (agr_psI (by simp)))
  have t0 : TX τ0 B sz 0 0 0 := by
    refine ⟨by rw [(a0 2 (by decide)).1, (a3 2 (by decide)).1]; exact h1, ?_, ?_, ?_, ?_, Nat.le_refl _, Nat.zero_le _, h3⟩
    · rw [← hT, psI_eq, if_neg (by decide), psI_eq, if_neg (by decide), psI_eq, if_neg (by decide), (a3 1 (by decide)).1]; exact h2
    · rw [← hT, psI_eq, if_neg (by decide), psI_eq, if_neg (by decide), psI_eq, if_pos rfl]; rfl
    · rw [← hT, psI_eq, if_neg (by decide), psI_eq, if_pos rfl]; rfl
    · rw [← hT, psI_eq, if_pos rfl]
  obtain ⟨e, τ2, r1, r2, r3, r4⟩ := X_fc13 hn 41 n 0 0 0 τ0 (fun _ => 0) t0 (RX_agr a2 a0 (by decide)) (by decide) okV0 (by omega) (by omega)
  have hlt := fcP_lt (B := B) h3 41 0 0 (fun _ => 0) (Nat.zero_le _) (by decide) okV0
  show ∃ τ, ((L_X1_read_13 n 217 n (nI (0 + 1)) τ0).bind (fun o11 => (if o11.1 = 0 then some o11.2 else some o11.2))).bind _ = some _ ∧ _
  rw [r1, Option.bind_some, show (if (e, τ2).1 = 0 then some (e, τ2).2 else some (e, τ2).2) = some τ2 by split <;> rfl, Option.bind_some]
  obtain ⟨p1, s1, t1⟩ := r3
  have g5 : (psI τ2 1 1 (0 : Int32)).1 1 5 = nI (fcP B sz 41 0 0 (fun _ => 0)).1 := by rw [psI_eq, if_neg (by decide)]; exact t1.2.2.2.2.1
  rw [g5]
  have x2 : agr [1, 217, 218, 219, 220, 221, 222] σ (psI τ2 1 1 (0 : Int32)) := agr_trans (agr_mono a3 (by simp)) (agr_trans (agr_mono a0 (by simp)) (agr_trans (agr_mono r2 (by simp)) (agr_psI (by simp))))
  have tp : TpX (psI τ2 1 1 (0 : Int32)) B 0 := ⟨by rw [psI_other (by decide)]; exact t1.1, by rw [psI_eq, if_pos rfl]; rfl, by decide⟩
  unfold cpA
  by_cases zr : (fcP B sz 41 0 0 (fun _ => 0)).1 = 0
  · rw [if_pos (show nI (fcP B sz 41 0 0 (fun _ => 0)).1 = 0 by rw [zr]; rfl), if_pos zr]
    have hok := fc_ok (B := B) (sz := sz) 41 0 0 (fun _ => 0) (Nat.zero_le _) (by decide) okV0 zr
    have hR2 := r4 zr
    unfold cpS
    generalize (fcP B sz 41 0 0 (fun _ => 0)).2 = V at *
    obtain ⟨v0, v1, v1', v2, v3, v4, v5⟩ := hok.2 (by decide)
    have h36 : V 1 * V 1 ≤ 6 * 6 := Nat.mul_le_mul v1' v1'
    have hR3 : RX (psI τ2 1 1 (0 : Int32)) 217 (begS (saidV V)) := RX_agr (RX_ext hR2 (by rw [begS_lo _ (by decide)]; omega) (by rw [begS_lo _ (by decide)]; exact v2) saidV_lo) (agr_psI (T := [1]) (by simp)) (by decide)
    have s2 : begS (saidV V) 2 = V 2 := by rw [begS_lo _ (by decide)]; rfl
    obtain ⟨τ3, c1, c2⟩ := X_copyFrom (n := n) (i := 19) (a := 217) (by omega) (by omega) (σ := psI τ2 1 1 (0 : Int32))
    have hR19 := CP_RX c2 hR3 (by rw [s2]; exact v2)
    have hR217 : RX τ3 217 (begS (saidV V)) := RX_agr hR3 c2.2.2.2.2 (by decide)
    rw [c1, Option.bind_some]
    obtain ⟨τ4, d1, d2⟩ := X_copyFrom (n := n) (i := 25) (a := 217) (by omega) (by omega) (σ := τ3)
    have hR25 := CP_RX d2 hR217 (by rw [s2]; exact v2)
    have hR19b : RX τ4 19 (begS (saidV V)) := RX_agr hR19 d2.2.2.2.2 (by decide)
    have hR217b : RX τ4 217 (begS (saidV V)) := RX_agr hR217 d2.2.2.2.2 (by decide)
    rw [d1, Option.bind_some]
    unfold F_X0_forget
    rw [Option.bind_some]
    have a6 : agr [18, 94] τ4 (psI (psI τ4 18 4 (0 : Int32)) 94 0 (0 : Int32)) := agr_trans (agr_psI (by simp)) (agr_psI (by simp))
    have e5 : (psI (psI τ4 18 4 (0 : Int32)) 94 0 (0 : Int32)).1 217 5 = nI (V 2) := by
      rw [(a6 217 (by decide)).1, hR217b.2.2.2.2.2.1, s2]
    rw [e5]
    have xx : agr cpT σ τ4 := agr_trans (agr_mono x2 (by simp)) (agr_trans (agr_mono c2.2.2.2.2 (by simp)) (agr_mono d2.2.2.2.2 (by simp)))
    have f18 : τ4.1 18 = σ.1 18 := by rw [(d2.2.2.2.2 18 (by decide)).1, (c2.2.2.2.2 18 (by decide)).1, (x2 18 (by decide)).1]
    have f94 : τ4.1 94 = σ.1 94 := by rw [(d2.2.2.2.2 94 (by decide)).1, (c2.2.2.2.2 94 (by decide)).1, (x2 94 (by decide)).1]
    refine ⟨_, rfl, ⟨?_, ?_, by decide⟩, Or.inr ⟨zr, RX_agr hR25 a6 (by decide), RX_agr hR19b a6 (by decide), ?_, ?_, fun k hk => ?_, fun k hk => ?_, agr_trans xx (agr_mono a6 (by simp))⟩⟩
    · rw [(a6 2 (by decide)).1, (d2.2.2.2.2 2 (by decide)).1, (c2.2.2.2.2 2 (by decide)).1]; exact tp.1
    · rw [(a6 1 (by decide)).1, (d2.2.2.2.2 1 (by decide)).1, (c2.2.2.2.2 1 (by decide)).1]; exact tp.2.1
    · rw [psI_other (by decide), psI_eq, if_pos rfl]; rfl
    · rw [psI_eq, if_pos rfl]; rfl
    · rw [psI_other (by decide), psI_eq, if_neg hk, f18]
    · rw [psI_eq, if_neg hk, psI_other (by decide), f94]
  · rw [if_neg (nI_fault zr hlt), if_neg zr]
    exact ⟨_, rfl, tp, Or.inl ⟨zr, x2⟩⟩
end XH
