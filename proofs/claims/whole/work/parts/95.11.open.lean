/-! What opens ahead of a fact, what closes behind it; both sides. -/
def openP (B : Nat → Int32) (sz : Nat) : Nat → Nat → List Nat → Nat × Nat × List Nat
  | 0, _, _ => (1, 0, [])
  | k + 1, p, pd => if sg B sz (sk B sz p) = 91 then (if dep pd = 10 then (3 + 8 * sk B sz p, 0, []) else openP B sz k (sk B sz p + 1) (91 :: pd)) else if wl B sz (sk B sz p) = wS 5 then (if dep pd = 10 then (3 + 8 * sk B sz p, 0, []) else openP B sz k (sk B sz p + 3) (11 :: pd)) else (0, sk B sz p, pd)
theorem dep_91 (pd : List Nat) : dep (91 :: pd) = dep pd + 1 := by show (if (91 : Nat) = 91 ∨ 91 = 11 then 1 else 0) + dep pd = _; rw [if_pos (Or.inl rfl)]; omega
theorem dep_11 (pd : List Nat) : dep (11 :: pd) = dep pd + 1 := by show (if (11 : Nat) = 91 ∨ 11 = 11 then 1 else 0) + dep pd = _; rw [if_pos (Or.inr rfl)]; omega
theorem brk_91 (pd : List Nat) : brk (91 :: pd) = brk pd + 1 := by show (if (91 : Nat) = 91 then 1 else 0) + brk pd = _; rw [if_pos rfl]; omega
theorem brk_11 (pd : List Nat) : brk (11 :: pd) = brk pd := by show (if (11 : Nat) = 91 then 1 else 0) + brk pd = _; rw [if_neg (by decide)]; omega
theorem pen_91 (pd : List Nat) : pen (91 :: pd) = pen pd := by show (if (91 : Nat) = 91 then 0 else 1) + pen pd = _; rw [if_pos rfl]; omega
theorem pen_11 (pd : List Nat) : pen (11 :: pd) = pen pd + 1 := by show (if (11 : Nat) = 91 then 0 else 1) + pen pd = _; rw [if_neg (by decide)]; omega
theorem nbn_91 (pd : List Nat) : nbn (91 :: pd) = nbn pd := by show (if (91 : Nat) = 12 ∨ 91 = 13 then 1 else 0) + nbn pd = _; rw [if_neg (by decide)]; omega
theorem nbn_11 (pd : List Nat) : nbn (11 :: pd) = nbn pd := by show (if (11 : Nat) = 12 ∨ 11 = 13 then 1 else 0) + nbn pd = _; rw [if_neg (by decide)]; omega
theorem ord_91 {pd : List Nat} (h : ordP pd) : ordP (91 :: pd) := ⟨Or.inl rfl, Or.inl rfl, h⟩
theorem ord_11 {pd : List Nat} (h : ordP pd) : ordP (11 :: pd) := by
  refine ⟨Or.inr (Or.inl rfl), ?_, h⟩
  cases pd with
  | nil => exact Or.inr (Or.inl rfl)
  | cons y pd =>
    have hy := h.1
    unfold okx at hy
    rcases hy with z | z | z | z <;> subst z
    · exact Or.inr (Or.inl rfl)
    · exact Or.inr (Or.inr (Or.inr ⟨rfl, rfl⟩))
    · exact Or.inr (Or.inr (Or.inl (show stg 12 < stg 11 by decide)))
    · exact Or.inr (Or.inr (Or.inl (show stg 13 < stg 11 by decide)))
theorem wl_5 {B : Nat → Int32} {sz q : Nat} (h : wl B sz q = wS 5) (hq : q ≤ sz) : q + 3 ≤ sz := by
  have := wl_len (B := B) hq
  rw [h] at this
  exact this
theorem openP_ok {B : Nat → Int32} {sz : Nat} : ∀ (k p : Nat) (pd : List Nat), p ≤ sz → ordP pd → dep pd ≤ 10 → (openP B sz k p pd).1 = 0 → p ≤ (openP B sz k p pd).2.1 ∧ (openP B sz k p pd).2.1 ≤ sz ∧ sk B sz (openP B sz k p pd).2.1 = (openP B sz k p pd).2.1 ∧ ordP (openP B sz k p pd).2.2 ∧ dep (openP B sz k p pd).2.2 ≤ 10 ∧ nbn (openP B sz k p pd).2.2 = nbn pd ∧ pen (openP B sz k p pd).2.2 + p ≤ pen pd + (openP B sz k p pd).2.1
  | 0, p, pd, hp, ho, hd, h => by simp [openP] at h
  | k + 1, p, pd, hp, ho, hd, h => by
    have hq := sk_le (B := B) hp
    have hg := sk_ge B sz p
    unfold openP at h ⊢
    by_cases z1 : sg B sz (sk B sz p) = 91
    · rw [if_pos z1] at h ⊢
      have hlt := (sg_lt (by decide) z1).1
      by_cases z10 : dep pd = 10
      · rw [if_pos z10] at h; simp at h
      · rw [if_neg z10] at h ⊢
        have d9 := dep_91 pd
        obtain ⟨i1, i2, i3, i4, i5, i6, i7⟩ := openP_ok k (sk B sz p + 1) (91 :: pd) (by omega) (ord_91 ho) (by omega) h
        rw [nbn_91] at i6
        rw [pen_91] at i7
        exact ⟨by omega, i2, i3, i4, i5, i6, by omega⟩
    · rw [if_neg z1] at h ⊢
      by_cases z2 : wl B sz (sk B sz p) = wS 5
      · rw [if_pos z2] at h ⊢
        have hlt := wl_5 z2 hq
        by_cases z10 : dep pd = 10
        · rw [if_pos z10] at h; simp at h
        · rw [if_neg z10] at h ⊢
          have d9 := dep_11 pd
          obtain ⟨i1, i2, i3, i4, i5, i6, i7⟩ := openP_ok k (sk B sz p + 3) (11 :: pd) (by omega) (ord_11 ho) (by omega) h
          rw [nbn_11] at i6
          rw [pen_11] at i7
          exact ⟨by omega, i2, i3, i4, i5, i6, by omega⟩
      · rw [if_neg z2]
        exact ⟨hg, hq, sk_idem hp, ho, hd, rfl, by show pen pd + p ≤ pen pd + sk B sz p; omega⟩
theorem openP_lt {B : Nat → Int32} {sz : Nat} (h400 : sz ≤ 400) : ∀ (k p : Nat) (pd : List Nat), p ≤ sz → (openP B sz k p pd).1 < 2 ^ 31
  | 0, p, pd, hp => by show 1 < 2 ^ 31; decide
  | k + 1, p, pd, hp => by
    have hq := sk_le (B := B) hp
    unfold openP
    split
    · rename_i z1
      have hlt := (sg_lt (by decide) z1).1
      split
      · show _ + _ < _; omega
      · exact openP_lt h400 k _ _ (by omega)
    · split
      · rename_i z1 z2
        have hlt := wl_5 z2 hq
        split
        · show _ + _ < _; omega
        · exact openP_lt h400 k _ _ (by omega)
      · show 0 < 2 ^ 31; decide
section OP
variable {n : Nat} {B : Nat → Int32} {sz : Nat}
theorem X_pushRaw {σ : PS} {j : Nat} (h : σ.1 4 4 = nI j) (hj : j < 33) (v : Int32) : F_X5_push n v σ = some (psI (psI σ 6 j v) 4 4 (nI (j + 1))) := by
  unfold F_X5_push
  have h4 : (psI σ 6 j v).1 4 = σ.1 4 := psI_other (by decide)
  rw [h, if_neg (show ¬ (Int32.ofNat 33) ≤ nI j from nI_ge (show j < 33 from hj) (by decide)), nI_clamp (by omega), if_pos ⟨nI_pos' (by omega), hj⟩, h4, h, nI_p1]
/-- what opens is taken by the class -/
theorem X_opening (hn : 1000 ≤ n) {p s : Nat} {f : Int32} {σ : PS} (ht : TX σ B sz p s f) : (sg B sz (sk B sz p) = 91 ∧ ∃ τ, F_X5_takeOpening n σ = some (-33, τ) ∧ TX τ B sz (sk B sz p + 1) (sk B sz p) f ∧ agr [1, 4] σ τ ∧ τ.1 4 6 = σ.1 4 6 + 1 ∧ ∀ k, k ≠ 6 → τ.1 4 k = σ.1 4 k) ∨ (¬ sg B sz (sk B sz p) = 91 ∧ wl B sz (sk B sz p) = wS 5 ∧ ∃ τ, F_X5_takeOpening n σ = some (-36, τ) ∧ TX τ B sz (sk B sz p + 3) (sk B sz p) f ∧ agr [1] σ τ) ∨ (¬ sg B sz (sk B sz p) = 91 ∧ ¬ wl B sz (sk B sz p) = wS 5 ∧ ∃ τ, F_X5_takeOpening n σ = some (0, τ) ∧ TX τ B sz (sk B sz p) (sk B sz p) f ∧ agr [1] σ τ) := by
  have hp := ht.2.2.2.2.2.2.1
  have hsk := sk_idem (B := B) hp
  obtain ⟨τ1, a1, a2, a3, a4⟩ := X_peek hn ht
  unfold F_X5_takeOpening
  rw [a1, Option.bind_some]
  by_cases z1 : sg B sz (sk B sz p) = 91
  · refine Or.inl ⟨z1, ?_⟩
    have hlt := (sg_lt (by decide) z1).1
    simp only [z1, if_true]
    have t2 := TX_s a2 (s' := sk B sz p) (Nat.le_refl _)
    rw [a2.2.2.1]
    have e1 : (psI τ1 1 3 (nI (sk B sz p))).1 1 2 = nI (sk B sz p) := t2.2.2.1
    rw [e1, nI_p1]
    have t3 := TX_p t2 (p' := sk B sz p + 1) (by omega) (by omega)
    have e4 : (psI (psI τ1 1 3 (nI (sk B sz p))) 1 2 (nI (sk B sz p + 1))).1 4 = σ.1 4 := by
      rw [psI_other (by decide), psI_other (by decide), (a4 4 (by decide)).1]
    rw [e4]
    have a5 : agr [4] (psI (psI τ1 1 3 (nI (sk B sz p))) 1 2 (nI (sk B sz p + 1))) (psI (psI (psI τ1 1 3 (nI (sk B sz p))) 1 2 (nI (sk B sz p + 1))) 4 6 (σ.1 4 6 + 1)) := agr_psI (by simp)
    refine ⟨_, rfl, TX_agr t3 a5 (by decide) (by decide), ?_, ?_, ?_⟩
    · exact agr_trans (agr_mono a4 (by simp)) (agr_trans (agr_psI (by simp)) (agr_trans (agr_psI (by simp)) (agr_psI (by simp))))
    · rw [psI_eq, if_pos rfl]
    · intro k hk
      rw [psI_eq, if_neg hk, e4]
  · refine Or.inr ?_
    rw [if_neg z1]
    obtain ⟨τ2, b1, b2, b3, b4⟩ := X_takeWord hn a2
    rw [hsk] at b2
    show (_ ∧ _ ∧ ∃ τ, (F_X9_takeWord n τ1).bind _ = some _ ∧ _) ∨ (_ ∧ _ ∧ ∃ τ, (F_X9_takeWord n τ1).bind _ = some _ ∧ _)
    rw [b1, Option.bind_some, X_wordIs hn (a := 5) (by decide) b2, Option.bind_some]
    by_cases z2 : wl B sz (sk B sz p) = wS 5
    · refine Or.inl ⟨z1, z2, ?_⟩
      simp only [z2, if_true]
      rw [if_neg (by decide)]
      rw [z2] at b2
      exact ⟨τ2, rfl, b2, agr_trans a4 b4⟩
    · refine Or.inr ⟨z1, z2, ?_⟩
      simp only [z2, if_false, if_true]
      obtain ⟨τ3, c1, c2, c3, c4⟩ := X_putBack (n := n) b2
      rw [c1]
      exact ⟨τ3, rfl, c2, agr_trans a4 (agr_trans b4 c4)⟩
theorem KX_ag {σ τ : PS} {c : List Int32} {m : Nat} (h : KX σ c m) (h1 : τ.1 4 1 = σ.1 4 1) (h7 : τ.1 4 7 = σ.1 4 7) (h5 : τ.1 5 = σ.1 5) : KX τ c m := by
  unfold KX
  rw [h1, h7, h5]
  exact h
theorem X_fact2 (hn : 1000 ≤ n) : ∀ (k kf x1 p : Nat) (pd : List Nat) (σ : PS) (c : List Int32) (m s : Nat), TX σ B sz p s 0 → QX σ pd → KX σ c m → ordP pd → dep pd ≤ 10 → 10 < k + dep pd → x1 ≤ dep pd → k ≤ kf → ∃ e τ, L_X5_openFact_2 n kf (nI x1) σ = some (e, τ) ∧ ay σ τ ∧ KX τ c m ∧ (((openP B sz k p pd).1 = 0 ∧ e = 0 ∧ ∃ s', TX τ B sz (openP B sz k p pd).2.1 s' 0 ∧ QX τ (openP B sz k p pd).2.2) ∨ (¬ (openP B sz k p pd).1 = 0 ∧ e = 1 ∧ ∃ p' s', TX τ B sz p' s' 0 ∧ (openP B sz k p pd).1 = 1 + 8 * s' + 2))
  | 0, kf, x1, p, pd, σ, c, m, s, ht, hq, hk, ho, hd, hf, hx, hkf => by omega
  | k + 1, 0, x1, p, pd, σ, c, m, s, ht, hq, hk, ho, hd, hf, hx, hkf => by omega
  | k + 1, kf + 1, x1, p, pd, σ, c, m, s, ht, hq, hk, ho, hd, hf, hx, hkf => by
    have h32 := stk_32 ho hd
    obtain ⟨q1, q2, q3, q4⟩ := id hq
    rw [L_X5_openFact_2, if_neg (show ¬ (10 : Int32) < nI x1 from nI_nlt (show x1 ≤ 10 by omega) (by decide))]
    unfold openP
    rcases X_opening hn ht with ⟨z1, τ1, a1, a2, a3, a4, a5⟩ | ⟨z1, z2, τ1, a1, a2, a3⟩ | ⟨z1, z2, τ1, a1, a2, a3⟩
    · simp only [z1, if_true]
      rw [a1, Option.bind_some, if_neg (show ¬ (-33 : Int32) = 0 by decide)]
      show ∃ e τ, (if τ1.1 4 5 < (10 : Int32) then (F_X5_push n (-33) (psI τ1 4 5 (τ1.1 4 5 + 1))).bind _ else _) = some (e, τ) ∧ _
      have r6 : τ1.1 6 = σ.1 6 := (a3 6 (by decide)).1
      have k1 : KX τ1 c m := KX_ag hk (a5 1 (by decide)) (a5 7 (by decide)) (a3 5 (by decide)).1
      rw [a5 5 (by decide), q2]
      by_cases z10 : dep pd = 10
      · rw [if_neg (show ¬ nI (dep pd) < (10 : Int32) from nI_nlt (show 10 ≤ dep pd by omega) (by omega)), if_pos z10]
        exact ⟨_, _, rfl, agr_mono a3 (by simp), k1, Or.inr ⟨by show ¬ 3 + _ = 0; omega, rfl, _, _, a2, by show 3 + _ = _; omega⟩⟩
      · rw [if_pos (show nI (dep pd) < (10 : Int32) from nI_lt (show dep pd < 10 by omega) (by decide)), if_neg z10, nI_p1]
        have g4 : (psI τ1 4 5 (nI (dep pd + 1))).1 4 4 = nI pd.length := by rw [psI_eq, if_neg (by decide), a5 4 (by decide)]; exact q1
        rw [X_pushRaw g4 (by omega), Option.bind_some, nI_1]
        have a6 : agr [4, 6] τ1 (psI (psI (psI τ1 4 5 (nI (dep pd + 1))) 6 pd.length (-33)) 4 4 (nI (pd.length + 1))) := agr_trans (agr_psI (by simp)) (agr_trans (agr_psI (by simp)) (agr_psI (by simp)))
        have qq : QX (psI (psI (psI τ1 4 5 (nI (dep pd + 1))) 6 pd.length (-33)) 4 4 (nI (pd.length + 1))) (91 :: pd) := by
          refine ⟨by rw [psI_eq, if_pos rfl]; rfl, ?_, ?_, ?_, ?_⟩
          · rw [psI_eq, if_neg (by decide), psI_other (by decide), psI_eq, if_pos rfl, dep_91]
          · rw [psI_eq, if_neg (by decide), psI_other (by decide), psI_eq, if_neg (by decide), a4, q3, brk_91, nI_p1]
          · rw [psI_other (by decide), psI_eq, if_pos rfl]; rfl
          · exact stX6_ext pd (fun j hj => by rw [psI_other (by decide), psI_eq, if_neg (by omega), psI_other (by decide), r6]) q4
        have kk : KX (psI (psI (psI τ1 4 5 (nI (dep pd + 1))) 6 pd.length (-33)) 4 4 (nI (pd.length + 1))) c m := KX_ag k1 (by rw [psI_eq, if_neg (by decide), psI_other (by decide), psI_eq, if_neg (by decide)]) (by rw [psI_eq, if_neg (by decide), psI_other (by decide), psI_eq, if_neg (by decide)]) (a6 5 (by decide)).1
        obtain ⟨e, τ, b1, b2, b3, b4⟩ := X_fact2 hn k kf (x1 + 1) (sk B sz p + 1) (91 :: pd) _ c m _ (TX_agr a2 a6 (by decide) (by decide)) qq kk (ord_91 ho) (by rw [dep_91]; omega) (by rw [dep_91]; omega) (by rw [dep_91]; omega) (by omega)
        exact ⟨e, τ, b1, agr_trans (agr_mono a3 (by simp)) (agr_trans (agr_mono a6 (by simp)) b2), b3, b4⟩
    · rw [if_neg z1, if_pos z2]
      rw [a1, Option.bind_some, if_neg (show ¬ (-36 : Int32) = 0 by decide)]
      show ∃ e τ, (if τ1.1 4 5 < (10 : Int32) then (F_X5_push n (-36) (psI τ1 4 5 (τ1.1 4 5 + 1))).bind _ else _) = some (e, τ) ∧ _
      have r6 : τ1.1 6 = σ.1 6 := (a3 6 (by decide)).1
      have r4 : τ1.1 4 = σ.1 4 := (a3 4 (by decide)).1
      have k1 : KX τ1 c m := KX_1 hk a3
      rw [r4, q2]
      by_cases z10 : dep pd = 10
      · rw [if_neg (show ¬ nI (dep pd) < (10 : Int32) from nI_nlt (show 10 ≤ dep pd by omega) (by omega)), if_pos z10]
        exact ⟨_, _, rfl, agr_mono a3 (by simp), k1, Or.inr ⟨by show ¬ 3 + _ = 0; omega, rfl, _, _, a2, by show 3 + _ = _; omega⟩⟩
      · rw [if_pos (show nI (dep pd) < (10 : Int32) from nI_lt (show dep pd < 10 by omega) (by decide)), if_neg z10, nI_p1]
        have g4 : (psI τ1 4 5 (nI (dep pd + 1))).1 4 4 = nI pd.length := by rw [psI_eq, if_neg (by decide), r4]; exact q1
        rw [X_pushRaw g4 (by omega), Option.bind_some, nI_1]
        have a6 : agr [4, 6] τ1 (psI (psI (psI τ1 4 5 (nI (dep pd + 1))) 6 pd.length (-36)) 4 4 (nI (pd.length + 1))) := agr_trans (agr_psI (by simp)) (agr_trans (agr_psI (by simp)) (agr_psI (by simp)))
        have qq : QX (psI (psI (psI τ1 4 5 (nI (dep pd + 1))) 6 pd.length (-36)) 4 4 (nI (pd.length + 1))) (11 :: pd) := by
          refine ⟨by rw [psI_eq, if_pos rfl]; rfl, ?_, ?_, ?_, ?_⟩
          · rw [psI_eq, if_neg (by decide), psI_other (by decide), psI_eq, if_pos rfl, dep_11]
          · rw [psI_eq, if_neg (by decide), psI_other (by decide), psI_eq, if_neg (by decide), r4, q3, brk_11]
          · rw [psI_other (by decide), psI_eq, if_pos rfl]; rfl
          · exact stX6_ext pd (fun j hj => by rw [psI_other (by decide), psI_eq, if_neg (by omega), psI_other (by decide), r6]) q4
        have kk : KX (psI (psI (psI τ1 4 5 (nI (dep pd + 1))) 6 pd.length (-36)) 4 4 (nI (pd.length + 1))) c m := KX_ag k1 (by rw [psI_eq, if_neg (by decide), psI_other (by decide), psI_eq, if_neg (by decide)]) (by rw [psI_eq, if_neg (by decide), psI_other (by decide), psI_eq, if_neg (by decide)]) (a6 5 (by decide)).1
        obtain ⟨e, τ, b1, b2, b3, b4⟩ := X_fact2 hn k kf (x1 + 1) (sk B sz p + 3) (11 :: pd) _ c m _ (TX_agr a2 a6 (by decide) (by decide)) qq kk (ord_11 ho) (by rw [dep_11]; omega) (by rw [dep_11]; omega) (by rw [dep_11]; omega) (by omega)
        exact ⟨e, τ, b1, agr_trans (agr_mono a3 (by simp)) (agr_trans (agr_mono a6 (by simp)) b2), b3, b4⟩
    · rw [if_neg z1, if_neg z2, a1, Option.bind_some, if_pos rfl]
      exact ⟨_, _, rfl, agr_mono a3 (by simp), KX_1 hk a3, Or.inl ⟨rfl, rfl, _, a2, QX_ax hq (ax_1 a3)⟩⟩
/-- behind a fault -/
theorem X_fact2F (hn : 1000 ≤ n) {f : Int32} : ∀ (kf x1 j : Nat) (σ : PS), SX σ B sz f → σ.1 4 4 = nI j → j + 11 ≤ 33 + x1 → x1 ≤ 11 → 12 ≤ kf + x1 → ∃ e τ, L_X5_openFact_2 n kf (nI x1) σ = some (e, τ) ∧ ay σ τ ∧ SX τ B sz f
  | 0, x1, j, σ, h, hj, h33, hx, hk => by omega
  | kf + 1, x1, j, σ, h, hj, h33, hx, hk => by
    obtain ⟨⟨p, s, ht⟩, kk, k1, k2⟩ := id h
    rw [L_X5_openFact_2]
    by_cases z : x1 = 11
    · rw [if_pos (show (10 : Int32) < nI x1 from nI_lt (show 10 < x1 by omega) (by omega))]
      exact ⟨_, _, rfl, agr_refl, h⟩
    rw [if_neg (show ¬ (10 : Int32) < nI x1 from nI_nlt (show x1 ≤ 10 by omega) (by decide))]
    have step : ∀ (v : Int32) (τ1 : PS) (p' s' : Nat), ¬ v = 0 → F_X5_takeOpening n σ = some (v, τ1) → TX τ1 B sz p' s' f → agr [1, 4] σ τ1 → (∀ k, k ≠ 6 → τ1.1 4 k = σ.1 4 k) → ∃ e τ, ((F_X5_takeOpening n σ).bind (fun q2 => (if q2.1 = 0 then some (0, q2.2) else (if (q2.2.1 4 5) < (10 : Int32) then (F_X5_push n q2.1 (psI q2.2 4 5 ((q2.2.1 4 5) + (1 : Int32)))).bind (fun q6 => L_X5_openFact_2 n kf (nI x1 + 1) q6) else some (1, q2.2))))) = some (e, τ) ∧ ay σ τ ∧ SX τ B sz f := by
      intro v τ1 p' s' hv a1 a2 a3 a5
      rw [a1, Option.bind_some, if_neg hv]
      show ∃ e τ, (if τ1.1 4 5 < (10 : Int32) then (F_X5_push n v (psI τ1 4 5 (τ1.1 4 5 + 1))).bind _ else _) = some (e, τ) ∧ _
      have s1 : SX τ1 B sz f := ⟨⟨_, _, a2⟩, kk, k1, by rw [a5 1 (by decide)]; exact k2⟩
      by_cases zd : τ1.1 4 5 < (10 : Int32)
      · rw [if_pos zd]
        generalize τ1.1 4 5 + 1 = d
        have g4 : (psI τ1 4 5 d).1 4 4 = nI j := by rw [psI_eq, if_neg (by decide), a5 4 (by decide)]; exact hj
        rw [X_pushRaw g4 (by omega), Option.bind_some, nI_1]
        have a6 : agr [4, 6] τ1 (psI (psI (psI τ1 4 5 d) 6 j v) 4 4 (nI (j + 1))) := agr_trans (agr_psI (by simp)) (agr_trans (agr_psI (by simp)) (agr_psI (by simp)))
        obtain ⟨e, τ, b1, b2, b3⟩ := X_fact2F hn kf (x1 + 1) (j + 1) _ (f := f) ⟨⟨_, _, TX_agr a2 a6 (by decide) (by decide)⟩, kk, k1, by rw [psI_eq, if_neg (by decide), psI_other (by decide), psI_eq, if_neg (by decide), a5 1 (by decide)]; exact k2⟩ (by rw [psI_eq, if_pos rfl]) (by omega) (by omega) (by omega)
        exact ⟨e, τ, b1, agr_trans (agr_mono a3 (by simp)) (agr_trans (agr_mono a6 (by simp)) b2), b3⟩
      · rw [if_neg zd]
        exact ⟨_, _, rfl, agr_mono a3 (by simp), s1⟩
    rcases X_opening hn ht with ⟨z1, τ1, a1, a2, a3, a4, a5⟩ | ⟨z1, z2, τ1, a1, a2, a3⟩ | ⟨z1, z2, τ1, a1, a2, a3⟩
    · exact step (-33) τ1 _ _ (by decide) a1 a2 a3 a5
    · exact step (-36) τ1 _ _ (by decide) a1 a2 (agr_mono a3 (by simp)) (fun k _ => by rw [(a3 4 (by decide)).1])
    · rw [a1, Option.bind_some, if_pos rfl]
      exact ⟨_, _, rfl, agr_mono a3 (by simp), SX_1 h a3 a2⟩
theorem KM_ag {r : Nat} {σ τ : PS} {T Fs : List Nat} {c : List Nat} {m : Nat} (h : KM σ r c m) (ha : agm T Fs σ τ) (t1 : 251 ∉ T) (t2 : 252 ∉ T) (h1 : 11 ∉ Fs) (h2 : 12 ∉ Fs) : KM τ r c m := by
  unfold KM
  rw [(ha.1 251 t1 (by decide)).1, (ha.1 252 t2 (by decide)).1, (ha.2 11 h1).1, (ha.2 12 h2).1]
  exact h
theorem at2_6 {r : Nat} {σ τ : PS} {Fs : List Nat} (h : agm [256] Fs σ τ) (hs : ∀ j ∈ Fs, j ∈ [8, 9, 10, 12, 13, 16]) : at2 r σ τ := ⟨agm_mono h (by simp) hs, fun x _ => by rw [(h.1 251 (by decide) (by decide)).1]⟩
theorem M_opens {p x : Nat} (hx : x = 91 ∨ x = 11) {σ : PS} {pd : List Nat} (ht : TM σ B sz p 0) (hq : QM σ pd) (ho : ordP pd) (hd : dep pd ≤ 10) : (dep pd = 10 ∧ ∃ τ, F_X12_opens n (nI x) σ = some (0, τ) ∧ τ.1 249 9 = nI (3 + 8 * p) ∧ agm [] [9] σ τ) ∨ (¬ dep pd = 10 ∧ ∃ τ, F_X12_opens n (nI x) σ = some (1, τ) ∧ QM τ (x :: pd) ∧ agm [256] [13, 16] σ τ) := by
  have h32 := stk_32 ho hd
  obtain ⟨q1, q2, q3⟩ := id hq
  unfold F_X12_opens
  rw [q2]
  by_cases z10 : dep pd = 10
  · refine Or.inl ⟨z10, ?_⟩
    rw [if_pos (show nI (dep pd) = (10 : Int32) by rw [z10]; rfl), ht.2.2.1]
    obtain ⟨τ, a1, a2, a3⟩ := M_fails0 (n := n) (w := p) (k := 2) ht
    show ∃ τ, (F_X12_fails n (nI 2) (nI p) σ).bind _ = some _ ∧ _
    rw [a1, Option.bind_some, if_pos (Or.inl rfl), show 3 + 8 * p = 1 + 8 * p + 2 by omega]
    exact ⟨τ, rfl, a2.2.2.2.1, a3⟩
  · refine Or.inr ⟨z10, ?_⟩
    rw [if_neg (show ¬ nI (dep pd) = (10 : Int32) from fun q => z10 (nI_inj (b := 10) (by omega) (by decide) q)), nI_p1]
    have g : (psI σ 249 13 (nI (dep pd + 1))).1 249 16 = nI pd.length := by rw [psI_eq, if_neg (by decide)]; exact q1
    have g2 : (psI (psI σ 249 13 (nI (dep pd + 1))) 256 pd.length (nI x)).1 249 16 = nI pd.length := by rw [psI_other (by decide)]; exact g
    rw [g, nI_clamp (by omega), if_pos ⟨nI_pos' (by omega), by omega⟩, g2, nI_p1]
    refine ⟨_, rfl, ⟨by rw [psI_eq, if_pos rfl]; rfl, ?_, ?_, ?_⟩, ?_⟩
    · rw [psI_eq, if_neg (by decide), psI_other (by decide), psI_eq, if_pos rfl]
      rcases hx with e | e <;> subst e
      · rw [dep_91]
      · rw [dep_11]
    · rw [psI_other (by decide), psI_eq, if_pos rfl]
    · exact stM6_ext pd (fun j hj => by rw [psI_other (by decide), psI_eq, if_neg (by omega), psI_other (by decide)]) q3
    · exact agm_trans (agm_fld (by simp)) (agm_trans (agm_psI (by simp) (by decide)) (agm_fld (by simp)))
theorem M_fact2 (hn : 1000 ≤ n) {r : Nat} : ∀ (k kf p : Nat) (pd : List Nat) (σ : PS) (c : List Nat) (m : Nat), TM σ B sz p 0 → QM σ pd → KM σ r c m → ordP pd → dep pd ≤ 10 → 10 < k + dep pd → k < kf → ∃ e τ, L_X12_fact_2 n kf 1 σ = some (e, τ) ∧ at2 r σ τ ∧ (((openP B sz k p pd).1 = 0 ∧ e = 2 ∧ TM τ B sz (openP B sz k p pd).2.1 0 ∧ QM τ (openP B sz k p pd).2.2 ∧ KM τ r c m) ∨ (¬ (openP B sz k p pd).1 = 0 ∧ (e = 0 ∨ e = 1) ∧ τ.1 249 9 = nI (openP B sz k p pd).1))
  | 0, kf, p, pd, σ, c, m, ht, hq, hk, ho, hd, hf, hkf => by omega
  | k + 1, 0, p, pd, σ, c, m, ht, hq, hk, ho, hd, hf, hkf => by omega
  | k + 1, kf + 1, p, pd, σ, c, m, ht, hq, hk, ho, hd, hf, hkf => by
    have hp := ht.2.2.2.2.1
    have hsk := sk_idem (B := B) hp
    have hql := sk_le (B := B) hp
    obtain ⟨τ1, a1, a2, a3⟩ := M_see hn ht
    have k1 := KM_f hk a3 (by decide) (by decide)
    have q1 : QM τ1 pd := QM_am (r := r) hq (am_f a3 (by simp))
    have x1 : at2 r σ τ1 := at2_f a3 (by simp)
    rw [L_X12_fact_2, if_neg (by decide), a1, Option.bind_some]
    show ∃ e τ, (F_X12_isWord n (7237492 : Int64) τ1).bind (fun q4 => if q4.1 = 0 then (if sg B sz (sk B sz p) = 91 then _ else _) else _) = some (e, τ) ∧ _
    rw [M_isWord' hn a2 hsk (l := wS 5) (wS_mem 5 (by decide)) (by decide) (by decide) (by decide +kernel), Option.bind_some]
    unfold openP
    by_cases z1 : sg B sz (sk B sz p) = 91
    · have hlt := sg_lt (by decide) z1
      have z2 : ¬ wl B sz (sk B sz p) = wS 5 := by
        intro z
        have h0 := wl_get (B := B) (sz := sz) (p := sk B sz p) (i := 0) (by rw [z]; decide)
        rw [z, Nat.add_zero] at h0
        have h1 := hlt.2
        rw [h0] at h1
        exact absurd h1 (by decide)
      simp only [z1, z2, if_true, if_false]
      rcases M_opens (n := n) (x := 91) (Or.inl rfl) a2 q1 ho hd with ⟨z10, τ2, b1, b2, b3⟩ | ⟨z10, τ2, b1, b2, b3⟩
      · show ∃ e τ, (F_X12_opens n (nI 91) τ1).bind _ = some (e, τ) ∧ _
        rw [b1, Option.bind_some, if_pos rfl, if_pos z10]
        exact ⟨_, _, rfl, at2_trans x1 (at2_f b3 (by simp)), Or.inr ⟨by show ¬ 3 + _ = 0; omega, Or.inr rfl, b2⟩⟩
      · show ∃ e τ, (F_X12_opens n (nI 91) τ1).bind _ = some (e, τ) ∧ _
        rw [b1, Option.bind_some, if_neg ne10, if_neg z10]
        have t2 := TM_agm a2 b3 (by decide) (by decide) (by decide) (by decide)
        show ∃ e τ, L_X12_fact_2 n kf 1 (psI τ2 249 8 (τ2.1 249 8 + 1)) = some (e, τ) ∧ _
        rw [t2.2.2.1, nI_p1]
        have a5 : agm [] [8] τ2 (psI τ2 249 8 (nI (sk B sz p + 1))) := agm_fld (by simp)
        obtain ⟨e, τ, c1, c2, c3⟩ := M_fact2 hn (r := r) k kf (sk B sz p + 1) (91 :: pd) _ c m (TM_p t2 (p' := sk B sz p + 1) (by omega)) (QM_am (r := r) b2 (am_f a5 (by simp))) (KM_f (KM_ag k1 b3 (by decide) (by decide) (by decide) (by decide)) a5 (by decide) (by decide)) (ord_91 ho) (by rw [dep_91]; omega) (by rw [dep_91]; omega) (by omega)
        exact ⟨e, τ, c1, at2_trans x1 (at2_trans (at2_6 b3 (by simp)) (at2_trans (at2_f a5 (by simp)) c2)), c3⟩
    · by_cases z2 : wl B sz (sk B sz p) = wS 5
      · have hlt := wl_5 z2 hql
        simp only [z1, z2, if_true, if_false]
        rw [if_neg (by decide)]
        rcases M_opens (n := n) (x := 11) (Or.inr rfl) a2 q1 ho hd with ⟨z10, τ2, b1, b2, b3⟩ | ⟨z10, τ2, b1, b2, b3⟩
        · show ∃ e τ, (F_X12_opens n (nI 11) τ1).bind _ = some (e, τ) ∧ _
          rw [b1, Option.bind_some, if_pos rfl, if_pos z10]
          exact ⟨_, _, rfl, at2_trans x1 (at2_f b3 (by simp)), Or.inr ⟨by show ¬ 3 + _ = 0; omega, Or.inl rfl, b2⟩⟩
        · show ∃ e τ, (F_X12_opens n (nI 11) τ1).bind _ = some (e, τ) ∧ _
          rw [b1, Option.bind_some, if_neg ne10, if_neg z10]
          have t2 := TM_agm a2 b3 (by decide) (by decide) (by decide) (by decide)
          obtain ⟨τ3, d1, d2, d3⟩ := M_passWord hn t2
          rw [z2] at d2
          show ∃ e τ, (F_X12_passWord n τ2).bind _ = some (e, τ) ∧ _
          rw [d1, Option.bind_some]
          obtain ⟨e, τ, c1, c2, c3⟩ := M_fact2 hn (r := r) k kf (sk B sz p + 3) (11 :: pd) τ3 c m d2 (QM_am (r := r) b2 (am_f d3 (by simp))) (KM_f (KM_ag k1 b3 (by decide) (by decide) (by decide) (by decide)) d3 (by decide) (by decide)) (ord_11 ho) (by rw [dep_11]; omega) (by rw [dep_11]; omega) (by omega)
          exact ⟨e, τ, c1, at2_trans x1 (at2_trans (at2_6 b3 (by simp)) (at2_trans (at2_f d3 (by simp)) c2)), c3⟩
      · simp only [z1, z2, if_false, if_true]
        obtain ⟨kg, hkg⟩ : ∃ kg, kf = kg + 1 := ⟨kf - 1, by omega⟩
        show ∃ e τ, L_X12_fact_2 n kf 0 τ1 = some (e, τ) ∧ _
        rw [hkg, L_X12_fact_2, if_pos rfl]
        exact ⟨_, _, rfl, x1, Or.inl ⟨trivial, rfl, a2, q1, k1⟩⟩
end OP
