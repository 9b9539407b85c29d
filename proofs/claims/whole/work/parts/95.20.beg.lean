/-! All as the text told it: begS; the reference's begins. -/
def begS (S : Nat → Nat) : Nat → Nat := fun i => if i < 10 then S i else if i = 10 then 0 else if i = 11 then S 109 else if i = 12 then 0 else if i < 37 then (if (i - 13) % 4 = 0 then S (110 + (i - 13) / 4) else if (i - 13) % 4 = 1 then S (116 + (i - 13) / 4) else if (i - 13) % 4 = 2 then 0 else 2 ^ ((i - 13) / 4)) else if i < 73 then S (122 + (i - 37)) else if i < 109 then 0 else S i
theorem begS_lo (S : Nat → Nat) {i : Nat} (h : i < 10) : begS S i = S i := by unfold begS; rw [if_pos h]
theorem begS_hi (S : Nat → Nat) {i : Nat} (h : 109 ≤ i) : begS S i = S i := by
  unfold begS
  rw [if_neg (by omega), if_neg (by omega), if_neg (by omega), if_neg (by omega), if_neg (by omega), if_neg (by omega), if_neg (by omega)]
theorem begS_10 (S : Nat → Nat) : begS S 10 = 0 := rfl
theorem begS_11 (S : Nat → Nat) : begS S 11 = S 109 := rfl
theorem begS_12 (S : Nat → Nat) : begS S 12 = 0 := rfl
theorem begS_t0 (S : Nat → Nat) {t : Nat} (h : t < 6) : begS S (13 + 4 * t) = S (110 + t) := by
  unfold begS
  rw [if_neg (by omega), if_neg (by omega), if_neg (by omega), if_neg (by omega), if_pos (by omega), if_pos (by omega)]
  congr 1; omega
theorem begS_t1 (S : Nat → Nat) {t : Nat} (h : t < 6) : begS S (13 + 4 * t + 1) = S (116 + t) := by
  unfold begS
  rw [if_neg (by omega), if_neg (by omega), if_neg (by omega), if_neg (by omega), if_pos (by omega), if_neg (by omega), if_pos (by omega)]
  congr 1; omega
theorem begS_t2 (S : Nat → Nat) {t : Nat} (h : t < 6) : begS S (13 + 4 * t + 2) = 0 := by
  unfold begS
  rw [if_neg (by omega), if_neg (by omega), if_neg (by omega), if_neg (by omega), if_pos (by omega), if_neg (by omega), if_neg (by omega), if_pos (by omega)]
theorem begS_t3 (S : Nat → Nat) {t : Nat} (h : t < 6) : begS S (13 + 4 * t + 3) = 2 ^ t := by
  unfold begS
  rw [if_neg (by omega), if_neg (by omega), if_neg (by omega), if_neg (by omega), if_pos (by omega), if_neg (by omega), if_neg (by omega), if_neg (by omega)]
  congr 1; omega
theorem begS_b (S : Nat → Nat) {c : Nat} (h : c < 36) : begS S (37 + c) = S (122 + c) := by
  unfold begS
  rw [if_neg (by omega), if_neg (by omega), if_neg (by omega), if_neg (by omega), if_neg (by omega), if_pos (by omega)]
  congr 1; omega
theorem begS_n (S : Nat → Nat) {c : Nat} (h : c < 36) : begS S (73 + c) = 0 := by
  unfold begS
  rw [if_neg (by omega), if_neg (by omega), if_neg (by omega), if_neg (by omega), if_neg (by omega), if_neg (by omega), if_pos (by omega)]
theorem begS_lk (S : Nat → Nat) : lk S (begS S) := fun j hj => by
  rcases hj with h | h
  · exact begS_lo S h
  · exact begS_hi S h
theorem begS_of_lk {S T : Nat → Nat} (h : lk S T) : begS T = begS S := by
  have e : ∀ i, i < 10 ∨ 109 ≤ i → T i = S i := h
  funext i
  unfold begS
  by_cases h1 : i < 10
  · rw [if_pos h1, if_pos h1]; exact e i (Or.inl h1)
  rw [if_neg h1, if_neg h1]
  by_cases h2 : i = 10
  · rw [if_pos h2, if_pos h2]
  rw [if_neg h2, if_neg h2]
  by_cases h3 : i = 11
  · rw [if_pos h3, if_pos h3]; exact e _ (by omega)
  rw [if_neg h3, if_neg h3]
  by_cases h4 : i = 12
  · rw [if_pos h4, if_pos h4]
  rw [if_neg h4, if_neg h4]
  by_cases h5 : i < 37
  · rw [if_pos h5, if_pos h5, e (110 + (i - 13) / 4) (by omega), e (116 + (i - 13) / 4) (by omega)]
  rw [if_neg h5, if_neg h5]
  by_cases h6 : i < 73
  · rw [if_pos h6, if_pos h6]; exact e _ (by omega)
  rw [if_neg h6, if_neg h6]
  by_cases h7 : i < 109
  · rw [if_pos h7, if_pos h7]
  rw [if_neg h7, if_neg h7]
  exact e i (by omega)
theorem nI_shl1 : ∀ t, t < 6 → (1 : Int32) <<< (nI t &&& 31) = nI (2 ^ t) := by decide +kernel
section BG
variable {n : Nat} {S : Nat → Nat}
theorem M_beg32 : ∀ (k t : Nat) (σ : PS) (T : Nat → Nat), rowN σ 259 T → (∀ i, T i = if 10 ≤ i ∧ i < 13 + 4 * t then begS S i else S i) → t ≤ 6 → 7 ≤ k + t → ∃ τ U, L_X12_begins_32 n k (nI t) σ = some τ ∧ rowN τ 259 U ∧ (∀ i, U i = if 10 ≤ i ∧ i < 37 then begS S i else S i) ∧ agr [259] σ τ
  | 0, t, σ, T, hT, hh, ht, hk => by omega
  | k + 1, t, σ, T, hT, hh, ht, hk => by
    rw [L_X12_begins_32]
    by_cases e : 6 ≤ t
    · have : t = 6 := by omega
      subst this
      rw [if_pos (by decide)]
      exact ⟨σ, T, rfl, hT, hh, agr_refl⟩
    · rw [if_neg (show ¬ (6 : Int32) ≤ nI t from nI_ge (show t < 6 by omega) (by decide)), nI_shl1 t (by omega)]
      have e110 : (110 : Int32) + nI t = nI (110 + t) := nI_add 110 t
      have e116 : (116 : Int32) + nI t = nI (116 + t) := nI_add 116 t
      have e13 : (13 : Int32) + (4 : Int32) * nI t = nI (13 + 4 * t) := by
        show nI 13 + nI 4 * nI t = _
        rw [nI_mul, nI_add]
      have e1 : nI (13 + 4 * t) + (1 : Int32) = nI (13 + 4 * t + 1) := nI_add _ 1
      have e2 : nI (13 + 4 * t) + (2 : Int32) = nI (13 + 4 * t + 2) := nI_add _ 2
      have e3 : nI (13 + 4 * t) + (3 : Int32) = nI (13 + 4 * t + 3) := nI_add _ 3
      simp only [e110, e116, e13, e1, e2, e3, nI_clamp (show 110 + t < 2 ^ 31 by omega), nI_clamp (show 116 + t < 2 ^ 31 by omega), nI_clamp (show 13 + 4 * t < 2 ^ 31 by omega), nI_clamp (show 13 + 4 * t + 1 < 2 ^ 31 by omega), nI_clamp (show 13 + 4 * t + 2 < 2 ^ 31 by omega), nI_clamp (show 13 + 4 * t + 3 < 2 ^ 31 by omega)]
      rw [if_pos ⟨nI_pos' (by omega), by omega⟩, if_pos ⟨nI_pos' (by omega), by omega⟩, if_pos ⟨nI_pos' (by omega), by omega⟩, if_pos ⟨nI_pos' (by omega), by omega⟩, if_pos ⟨nI_pos' (by omega), by omega⟩, if_pos ⟨nI_pos' (by omega), by omega⟩]
      have g1 : σ.1 259 (110 + t) = nI (S (110 + t)) := by rw [rowN_get hT, hh, if_neg (by omega)]
      rw [g1]
      have g2 : (psI σ 259 (13 + 4 * t) (nI (S (110 + t)))).1 259 (116 + t) = nI (S (116 + t)) := by rw [psI_eq, if_neg (by omega), rowN_get hT, hh, if_neg (by omega)]
      rw [g2, nI_1]
      have hU := rowN_set (k := 13 + 4 * t + 3) (v := 2 ^ t) (rowN_set (k := 13 + 4 * t + 2) (v := 0) (rowN_set (k := 13 + 4 * t + 1) (v := S (116 + t)) (rowN_set (k := 13 + 4 * t) (v := S (110 + t)) hT)))
      obtain ⟨τ, U, t1, t2, t3, t4⟩ := M_beg32 k (t + 1) _ _ hU (fun i => by
        by_cases h3 : i = 13 + 4 * t + 3
        · subst h3; rw [un_eq, if_pos (by omega), begS_t3 S (by omega)]
        rw [un_ne _ _ h3]
        by_cases h2 : i = 13 + 4 * t + 2
        · subst h2; rw [un_eq, if_pos (by omega), begS_t2 S (by omega)]
        rw [un_ne _ _ h2]
        by_cases h1 : i = 13 + 4 * t + 1
        · subst h1; rw [un_eq, if_pos (by omega), begS_t1 S (by omega)]
        rw [un_ne _ _ h1]
        by_cases h0 : i = 13 + 4 * t
        · subst h0; rw [un_eq, if_pos (by omega), begS_t0 S (by omega)]
        rw [un_ne _ _ h0, hh]
        by_cases hq : 10 ≤ i ∧ i < 13 + 4 * t
        · rw [if_pos hq, if_pos (by omega)]
        · rw [if_neg hq, if_neg (by omega)]) (by omega) (by omega)
      exact ⟨τ, U, t1, t2, t3, agr_trans (agr_psI (by simp)) (agr_trans (agr_psI (by simp)) (agr_trans (agr_psI (by simp)) (agr_trans (agr_psI (by simp)) t4)))⟩
theorem M_beg105 : ∀ (k c : Nat) (σ : PS) (T : Nat → Nat), rowN σ 259 T → (∀ i, T i = if (10 ≤ i ∧ i < 37 + c) ∨ (73 ≤ i ∧ i < 73 + c) then begS S i else S i) → c ≤ 36 → 37 ≤ k + c → ∃ τ, L_X12_begins_105 n k (nI c) σ = some τ ∧ rowN τ 259 (begS S) ∧ agr [259] σ τ
  | 0, c, σ, T, hT, hh, hc, hk => by omega
  | k + 1, c, σ, T, hT, hh, hc, hk => by
    rw [L_X12_begins_105]
    by_cases e : 36 ≤ c
    · have : c = 36 := by omega
      subst this
      rw [if_pos (by decide)]
      have eT : T = begS S := by
        funext i
        rw [hh]
        by_cases q : (10 ≤ i ∧ i < 37 + 36) ∨ (73 ≤ i ∧ i < 73 + 36)
        · rw [if_pos q]
        · rw [if_neg q]
          by_cases q2 : i < 10
          · rw [begS_lo S q2]
          · rw [begS_hi S (by omega)]
      rw [eT] at hT
      exact ⟨σ, rfl, hT, agr_refl⟩
    · rw [if_neg (show ¬ (36 : Int32) ≤ nI c from nI_ge (show c < 36 by omega) (by decide))]
      have e122 : (122 : Int32) + nI c = nI (122 + c) := nI_add 122 c
      have e37 : (37 : Int32) + nI c = nI (37 + c) := nI_add 37 c
      have e73 : (73 : Int32) + nI c = nI (73 + c) := nI_add 73 c
      simp only [e122, e37, e73, nI_clamp (show 122 + c < 2 ^ 31 by omega), nI_clamp (show 37 + c < 2 ^ 31 by omega), nI_clamp (show 73 + c < 2 ^ 31 by omega)]
      rw [if_pos ⟨nI_pos' (by omega), by omega⟩, if_pos ⟨nI_pos' (by omega), by omega⟩, if_pos ⟨nI_pos' (by omega), by omega⟩, nI_1]
      have g1 : σ.1 259 (122 + c) = nI (S (122 + c)) := by rw [rowN_get hT, hh, if_neg (by omega)]
      rw [g1]
      have hU := rowN_set (k := 73 + c) (v := 0) (rowN_set (k := 37 + c) (v := S (122 + c)) hT)
      obtain ⟨τ, t1, t2, t4⟩ := M_beg105 k (c + 1) _ _ hU (fun i => by
        by_cases h3 : i = 73 + c
        · subst h3; rw [un_eq, if_pos (by omega), begS_n S (by omega)]
        rw [un_ne _ _ h3]
        by_cases h2 : i = 37 + c
        · subst h2; rw [un_eq, if_pos (by omega), begS_b S (by omega)]
        rw [un_ne _ _ h2, hh]
        by_cases hq : (10 ≤ i ∧ i < 37 + c) ∨ (73 ≤ i ∧ i < 73 + c)
        · rw [if_pos hq, if_pos (by omega)]
        · rw [if_neg hq, if_neg (by omega)]) (by omega) (by omega)
      exact ⟨τ, t1, t2, agr_trans (agr_psI (by simp)) (agr_trans (agr_psI (by simp)) t4)⟩
theorem M_begins (hn : 1000 ≤ n) {σ : PS} (hS : rowN σ 259 S) : ∃ τ, F_X12_begins n σ = some τ ∧ rowN τ 259 (begS S) ∧ agr [259] σ τ := by
  unfold F_X12_begins
  have g1 : (psI σ 259 10 (0 : Int32)).1 259 109 = nI (S 109) := by rw [psI_eq, if_neg (by decide), rowN_get hS]
  rw [g1]
  have hU := rowN_set (k := 12) (v := 0) (rowN_set (k := 11) (v := S 109) (rowN_set (k := 10) (v := 0) hS))
  obtain ⟨τ, U, t1, t2, t3, t4⟩ := M_beg32 (n := n) (S := S) n 0 _ _ hU (fun i => by
    by_cases h3 : i = 12
    · subst h3; rw [un_eq, if_pos (by omega)]; rfl
    rw [un_ne _ _ h3]
    by_cases h2 : i = 11
    · subst h2; rw [un_eq, if_pos (by omega)]; rfl
    rw [un_ne _ _ h2]
    by_cases h1 : i = 10
    · subst h1; rw [un_eq, if_pos (by omega)]; rfl
    rw [un_ne _ _ h1, if_neg (by omega)]) (by omega) (by omega)
  show ∃ τ, (L_X12_begins_32 n n (nI 0) (psI (psI (psI σ 259 10 (nI 0)) 259 11 (nI (S 109))) 259 12 (nI 0))).bind _ = some τ ∧ _
  rw [t1, Option.bind_some]
  obtain ⟨υ, u1, u2, u3⟩ := M_beg105 (n := n) (S := S) n 0 τ U t2 (fun i => by
    rw [t3]
    by_cases q : 10 ≤ i ∧ i < 37
    · rw [if_pos q, if_pos (by omega)]
    · rw [if_neg q, if_neg (by omega)]) (by omega) (by omega)
  rw [show (0 : Int32) = nI 0 from rfl, u1]
  exact ⟨υ, rfl, u2, agr_trans (agr_psI (by simp)) (agr_trans (agr_psI (by simp)) (agr_trans (agr_psI (by simp)) (agr_trans t4 u3)))⟩
end BG
