theorem un_same (S : Nat → Nat) (k : Nat) : un S k (S k) = S := by
  funext j
  unfold un
  by_cases e : j = k
  · rw [if_pos e, e]
  · rw [if_neg e]
/-- a tent is asked -/
def askS (S : Nat → Nat) (t : Nat) : Nat → Nat := un (un (un (un S (13 + 4 * t + 2) (S (13 + 4 * t + 2) + 1)) (13 + 4 * t + 1) (S (13 + 4 * t + 1) - 1)) 12 (S 12 ||| S (13 + 4 * t + 3))) (13 + 4 * t + 3) (S 12 ||| S (13 + 4 * t + 3))
theorem isOf_bit : ∀ x, x < 64 → ∀ t, t < 6 → (((nI x >>> (nI t &&& nI 31)) &&& nI 1 = nI 1) ↔ x.testBit t = true) := by decide +kernel
theorem tOn_bit (S : Nat → Nat) (c t : Nat) : ∀ k, (tOn S c k).testBit t = decide (t < k ∧ S (13 + 4 * t) = c)
  | 0 => by simp [tOn]
  | k + 1 => by
    unfold tOn
    rw [Nat.testBit_or, tOn_bit S c t k]
    by_cases e : S (13 + 4 * k) = c
    · rw [if_pos e, Nat.testBit_two_pow]
      by_cases q : k = t
      · subst q; simp [e]
      · have : (t < k + 1 ∧ S (13 + 4 * t) = c) ↔ (t < k ∧ S (13 + 4 * t) = c) := by
          constructor
          · intro h; exact ⟨by omega, h.2⟩
          · intro h; exact ⟨by omega, h.2⟩
        simp [q, this]
    · rw [if_neg e]
      have : (t < k + 1 ∧ S (13 + 4 * t) = c) ↔ (t < k ∧ S (13 + 4 * t) = c) := by
        constructor
        · intro h
          refine ⟨?_, h.2⟩
          by_cases q : t = k
          · subst q; exact absurd h.2 e
          · omega
        · intro h; exact ⟨by omega, h.2⟩
      simp [this]
/-- the first k tents on a cell are asked -/
def aK (S : Nat → Nat) (c : Nat) : Nat → Nat → Nat
  | 0 => S
  | k + 1 => if S (13 + 4 * k) = c then askS (aK S c k) k else aK S c k
theorem askS_ne {S : Nat → Nat} {t j : Nat} (h1 : j ≠ 12) (h2 : j ≠ 13 + 4 * t + 1) (h3 : j ≠ 13 + 4 * t + 2) (h4 : j ≠ 13 + 4 * t + 3) : askS S t j = S j := by
  unfold askS
  rw [un_ne _ _ h4, un_ne _ _ h1, un_ne _ _ h2, un_ne _ _ h3]
theorem aK_cell (S : Nat → Nat) (c : Nat) {j : Nat} (h : j ≠ 12) (hj : j < 13 ∨ 37 ≤ j ∨ ∃ t, j = 13 + 4 * t) : ∀ k, k ≤ 6 → aK S c k j = S j
  | 0, _ => rfl
  | k + 1, hk => by
    unfold aK
    split
    · rw [askS_ne h (by omega) (by omega) (by omega)]; exact aK_cell S c h hj k (by omega)
    · exact aK_cell S c h hj k (by omega)
/-- a step -/
noncomputable def pasS (S : Nat → Nat) (ru : RU) : Nat → Nat := un (aK (un (un S 11 (chS S ru)) (73 + chS S ru) (S (73 + chS S ru) + 1)) (chS S ru) (S 2)) 10 (S 10 + 1)
theorem chK_lt {S : Nat → Nat} {ru : RU} {near q : Nat} (h : S 11 < q) : ∀ k, k ≤ q → (chK S ru near k).1 < q
  | 0, _ => h
  | k + 1, hk => by
    unfold chK
    split
    · exact hk
    · exact chK_lt h k (by omega)
theorem chS_lt {S : Nat → Nat} {b : Nat} (hw : okW S b) (ru : RU) : chS S ru < S 1 * S 1 := by
  have h := hw.2.2.2.1
  unfold chS
  cases ru with
  | some f => exact chK_lt h _ (Nat.le_refl _)
  | none =>
    show (if nr S (S 11) = 0 ∨ nr S (S 11) = 99 then S 11 else (chK S none (nr S (S 11)) (S 1 * S 1)).1) < _
    split
    · exact h
    · exact chK_lt h _ (Nat.le_refl _)
theorem okW_ask {S : Nat → Nat} {b t : Nat} (hw : okW S b) (ht : t < S 2) (hb : S (13 + 4 * t + 2) + 1 ≤ b) : okW (askS S t) b := by
  obtain ⟨h1, h1', h2, h11, htt, h12, hcb, h10⟩ := hw
  have e1 : askS S t 1 = S 1 := askS_ne (by omega) (by omega) (by omega) (by omega)
  have e2 : askS S t 2 = S 2 := askS_ne (by omega) (by omega) (by omega) (by omega)
  have e11 : askS S t 11 = S 11 := askS_ne (by omega) (by omega) (by omega) (by omega)
  have e10 : askS S t 10 = S 10 := askS_ne (by omega) (by omega) (by omega) (by omega)
  have hor : S 12 ||| S (13 + 4 * t + 3) < 2 ^ S 2 := Nat.or_lt_two_pow h12 (htt t (by omega)).2.2.2
  have e12 : askS S t 12 = S 12 ||| S (13 + 4 * t + 3) := by
    unfold askS
    rw [un_ne _ _ (by omega), un_eq]
  refine ⟨by rw [e1]; exact h1, by rw [e1]; exact h1', by rw [e2]; exact h2, by rw [e11, e1]; exact h11, fun u hu => ?_, by rw [e12, e2]; exact hor, fun c hc => ?_, by rw [e10]; exact h10⟩
  · rw [e2] at hu
    rw [e1, e2]
    have q0 : askS S t (13 + 4 * u) = S (13 + 4 * u) := askS_ne (by omega) (by omega) (by omega) (by omega)
    rw [q0]
    by_cases e : u = t
    · subst e
      have q1 : askS S u (13 + 4 * u + 1) = S (13 + 4 * u + 1) - 1 := by
        unfold askS
        rw [un_ne _ _ (by omega), un_ne _ _ (by omega), un_eq]
      have q2 : askS S u (13 + 4 * u + 2) = S (13 + 4 * u + 2) + 1 := by
        unfold askS
        rw [un_ne _ _ (by omega), un_ne _ _ (by omega), un_ne _ _ (by omega), un_eq]
      have q3 : askS S u (13 + 4 * u + 3) = S 12 ||| S (13 + 4 * u + 3) := by
        unfold askS
        rw [un_eq]
      rw [q1, q2, q3]
      have := htt u hu
      exact ⟨this.1, by omega, hb, hor⟩
    · rw [askS_ne (by omega) (by omega) (by omega) (by omega), askS_ne (by omega) (by omega) (by omega) (by omega), askS_ne (by omega) (by omega) (by omega) (by omega)]
      exact htt u hu
  · rw [askS_ne (by omega) (by omega) (by omega) (by omega), askS_ne (by omega) (by omega) (by omega) (by omega)]
    exact hcb c hc
section MQ2
variable {n b : Nat} {S : Nat → Nat}
theorem M_isOf {σ : PS} {x t : Nat} (hx : x < 64) (ht : t < 6) : F_X12_isOf n (nI x) (nI t) σ = some (if x.testBit t = true then 1 else 0, σ) := by
  unfold F_X12_isOf
  have := isOf_bit x hx t ht
  rw [show (31 : Int32) = nI 31 from rfl, show (1 : Int32) = nI 1 from rfl]
  by_cases e : x.testBit t = true
  · rw [if_pos (this.mpr e), if_pos e]
  · rw [if_neg (fun q => e (this.mp q)), if_neg e]
theorem M_asks {σ : PS} (hS : rowN σ 259 S) {t : Nat} (ht : t < 6) (h1 : S (13 + 4 * t + 1) < 2 ^ 31) : ∃ τ, F_X12_asks n (nI t) σ = some τ ∧ rowN τ 259 (askS S t) ∧ agr [259] σ τ := by
  unfold F_X12_asks
  simp (disch := omega) only [nI_lit, nI_mul, nI_add, nI_ge0, nI_clamp, true_and]
  rw [if_pos (by omega), if_pos (by omega)]
  simp only [rowN_get hS, nI_add]
  have a1 := rowN_set (k := 13 + 4 * t + 2) (v := S (13 + 4 * t + 2) + 1) hS
  have g1 : agr [259] σ (psI σ 259 (13 + 4 * t + 2) (nI (S (13 + 4 * t + 2) + 1))) := agr_psI (by simp)
  generalize psI σ 259 (13 + 4 * t + 2) (nI (S (13 + 4 * t + 2) + 1)) = σ1 at a1 g1 ⊢
  simp only [rowN_get a1]
  rw [un_ne _ _ (show 13 + 4 * t + 1 ≠ 13 + 4 * t + 2 by omega)]
  simp (disch := omega) only [nI_leI]
  rw [if_pos (show 13 + 4 * t + 3 < 179 by omega)]
  by_cases e : S (13 + 4 * t + 1) ≤ 0
  · rw [if_pos e]
    have e0 : S (13 + 4 * t + 1) = 0 := by omega
    have a2 : rowN σ1 259 (un (un S (13 + 4 * t + 2) (S (13 + 4 * t + 2) + 1)) (13 + 4 * t + 1) (S (13 + 4 * t + 1) - 1)) := by
      have : un (un S (13 + 4 * t + 2) (S (13 + 4 * t + 2) + 1)) (13 + 4 * t + 1) (S (13 + 4 * t + 1) - 1) = un S (13 + 4 * t + 2) (S (13 + 4 * t + 2) + 1) := by
        have q := un_same (un S (13 + 4 * t + 2) (S (13 + 4 * t + 2) + 1)) (13 + 4 * t + 1)
        rw [un_ne _ _ (show 13 + 4 * t + 1 ≠ 13 + 4 * t + 2 by omega)] at q
        rw [e0] at q ⊢
        exact q
      rw [this]; exact a1
    rw [un_ne _ _ (show 12 ≠ 13 + 4 * t + 2 by omega), un_ne _ _ (show 13 + 4 * t + 3 ≠ 13 + 4 * t + 2 by omega), nI_or]
    have a3 := rowN_set (k := 12) (v := S 12 ||| S (13 + 4 * t + 3)) a2
    have g3 : agr [259] σ1 (psI σ1 259 12 (nI (S 12 ||| S (13 + 4 * t + 3)))) := agr_psI (by simp)
    generalize psI σ1 259 12 (nI (S 12 ||| S (13 + 4 * t + 3))) = σ3 at a3 g3 ⊢
    rw [rowN_get a3, un_eq]
    exact ⟨_, rfl, rowN_set a3, agr_trans g1 (agr_trans g3 (agr_psI (by simp)))⟩
  · rw [if_neg e, nI_sub (by omega)]
    have a2 := rowN_set (k := 13 + 4 * t + 1) (v := S (13 + 4 * t + 1) - 1) a1
    have g2 : agr [259] σ1 (psI σ1 259 (13 + 4 * t + 1) (nI (S (13 + 4 * t + 1) - 1))) := agr_psI (by simp)
    generalize psI σ1 259 (13 + 4 * t + 1) (nI (S (13 + 4 * t + 1) - 1)) = σ2 at a2 g2 ⊢
    simp only [rowN_get a2]
    rw [un_ne _ _ (show 12 ≠ 13 + 4 * t + 1 by omega), un_ne _ _ (show 12 ≠ 13 + 4 * t + 2 by omega), un_ne _ _ (show 13 + 4 * t + 3 ≠ 13 + 4 * t + 1 by omega), un_ne _ _ (show 13 + 4 * t + 3 ≠ 13 + 4 * t + 2 by omega), nI_or]
    have a3 := rowN_set (k := 12) (v := S 12 ||| S (13 + 4 * t + 3)) a2
    have g3 : agr [259] σ2 (psI σ2 259 12 (nI (S 12 ||| S (13 + 4 * t + 3)))) := agr_psI (by simp)
    generalize psI σ2 259 12 (nI (S 12 ||| S (13 + 4 * t + 3))) = σ3 at a3 g3 ⊢
    rw [rowN_get a3, un_eq, if_pos (show 13 + 4 * t + 3 < 179 by omega)]
    exact ⟨_, rfl, rowN_set a3, agr_trans g1 (agr_trans g2 (agr_trans g3 (agr_psI (by simp))))⟩
theorem M_pass44 (hb : b < 2 ^ 20) {c : Nat} (h2 : S 2 ≤ 6) (hv : ∀ t, t < S 2 → S (13 + 4 * t + 1) ≤ 99) : ∀ (k t : Nat) (σ : PS), rowN σ 259 (aK S c t) → t ≤ S 2 → 7 ≤ k + t → ∃ τ, L_X12_passes_44 n k (nI (tOn S c (S 2))) (nI t) σ = some (nI (tOn S c (S 2)), τ) ∧ rowN τ 259 (aK S c (S 2)) ∧ agr [259] σ τ
  | 0, t, σ, hS, ht, hk => by omega
  | k + 1, t, σ, hS, ht, hk => by
    have e2 : aK S c t 2 = S 2 := aK_cell S c (by decide) (by omega) t (by omega)
    rw [L_X12_passes_44, rowN_get hS, e2]
    by_cases e : S 2 ≤ t
    · have : t = S 2 := by omega
      subst this
      rw [if_pos (nI_le (Nat.le_refl _) (by omega))]
      exact ⟨σ, rfl, hS, agr_refl⟩
    · have htl := tOn_lt S c (S 2)
      have hp2 := pow_64 h2
      rw [if_neg (nI_ge (by omega) (by omega)), M_isOf (by omega) (by omega), tOn_bit]
      simp only [Option.bind_some, nI_lit, nI_add]
      have hK : aK S c (t + 1) = if S (13 + 4 * t) = c then askS (aK S c t) t else aK S c t := rfl
      by_cases eq : S (13 + 4 * t) = c
      · have hd : decide (t < S 2 ∧ S (13 + 4 * t) = c) = true := decide_eq_true ⟨by omega, eq⟩
        rw [hd, if_pos rfl, if_neg (by decide)]
        have hnv : aK S c t (13 + 4 * t + 1) ≤ 99 := by
          have key : ∀ k, k ≤ 6 → aK S c k (13 + 4 * t + 1) ≤ 99 := by
            intro k
            induction k with
            | zero => intro _; exact hv t (by omega)
            | succ k ih =>
              intro hk
              have := ih (by omega)
              unfold aK
              split
              · by_cases q : k = t
                · subst q
                  unfold askS
                  rw [un_ne _ _ (by omega), un_ne _ _ (by omega), un_eq]
                  omega
                · rw [askS_ne (by omega) (by omega) (by omega) (by omega)]; exact this
              · exact this
          exact key t (by omega)
        obtain ⟨τ, ea, ra, ga⟩ := M_asks (n := n) hS (show t < 6 by omega) (by omega)
        rw [ea]
        simp only [Option.bind_some]
        obtain ⟨τ2, a, b', d⟩ := M_pass44 hb h2 hv k (t + 1) τ (by rw [hK, if_pos eq]; exact ra) (by omega) (by omega)
        exact ⟨τ2, a, b', agr_trans ga d⟩
      · have hd : decide (t < S 2 ∧ S (13 + 4 * t) = c) = false := decide_eq_false (fun q => eq q.2)
        rw [hd, if_neg (show ¬ false = true by decide), if_pos rfl]
        exact M_pass44 hb h2 hv k (t + 1) σ (by rw [hK, if_neg eq]; exact hS) (by omega) (by omega)
theorem tOn_congr {S T : Nat → Nat} {c : Nat} (h : ∀ t, t < 6 → S (13 + 4 * t) = T (13 + 4 * t)) : ∀ k, k ≤ 6 → tOn S c k = tOn T c k
  | 0, _ => rfl
  | k + 1, hk => by
    unfold tOn
    rw [tOn_congr h k (by omega), h k (by omega)]
theorem M_passes (hn : 100 ≤ n) (hb : b < 2 ^ 20) (hw : okW S b) {ru : RU} {σ : PS} (hS : rowN σ 259 S) (hf : foM n σ ru) : ∃ τ, F_X12_passes n σ = some (nI (tOn S (chS S ru) (S 2)), τ) ∧ rowN τ 259 (pasS S ru) ∧ agm [257, 258, 259, 260, 261] [18] σ τ := by
  have h36 := okW_36 hw
  have hc := chS_lt hw ru
  obtain ⟨τ, e, a⟩ := M_choice hn hb hw hS hf
  unfold F_X12_passes
  rw [e]
  simp only [Option.bind_some]
  have hS1 := rowN_agm hS a (by decide) (by decide)
  have r1 := rowN_set (k := 11) (v := chS S ru) hS1
  have g1 : agm [257, 258, 259, 260, 261] [18] σ (psI τ 259 11 (nI (chS S ru))) := agm_trans (agm_mono a (by simp) (by simp)) (agm_psI (by simp) (by decide))
  generalize psI τ 259 11 (nI (chS S ru)) = σ1 at r1 g1 ⊢
  simp only [rowN_get r1, un_eq]
  simp (disch := omega) only [nI_lit, nI_add, nI_ge0, nI_clamp, true_and]
  rw [if_pos (by omega), un_ne _ _ (show 73 + chS S ru ≠ 11 by omega)]
  have r2 := rowN_set (k := 73 + chS S ru) (v := S (73 + chS S ru) + 1) r1
  have g2 : agm [257, 258, 259, 260, 261] [18] σ (psI σ1 259 (73 + chS S ru) (nI (S (73 + chS S ru) + 1))) := agm_trans g1 (agm_psI (by simp) (by decide))
  generalize psI σ1 259 (73 + chS S ru) (nI (S (73 + chS S ru) + 1)) = σ2 at r2 g2 ⊢
  have hcell : ∀ j, j ≠ 11 → j < 73 → un (un S 11 (chS S ru)) (73 + chS S ru) (S (73 + chS S ru) + 1) j = S j := fun j h1 h2 => by rw [un_ne _ _ (by omega), un_ne _ _ h1]
  have e11 : σ2.1 259 11 = nI (chS S ru) := by rw [rowN_get r2, un_ne _ _ (by omega), un_eq]
  rw [e11]
  have e2 : un (un S 11 (chS S ru)) (73 + chS S ru) (S (73 + chS S ru) + 1) 2 = S 2 := hcell 2 (by omega) (by omega)
  rw [M_tentsOn hn r2 (by rw [e2]; exact hw.2.2.1) (fun t ht => by rw [e2] at ht; have h6 := hw.2.2.1; rw [hcell _ (by omega) (by omega)]; have := (hw.2.2.2.2.1 t ht).1; omega) (by omega)]
  simp only [Option.bind_some]
  have hto : tOn (un (un S 11 (chS S ru)) (73 + chS S ru) (S (73 + chS S ru) + 1)) (chS S ru) (S 2) = tOn S (chS S ru) (S 2) := tOn_congr (fun t ht => hcell _ (by omega) (by omega)) _ hw.2.2.1
  obtain ⟨τ3, e3, r3, g3⟩ := M_pass44 (n := n) (S := un (un S 11 (chS S ru)) (73 + chS S ru) (S (73 + chS S ru) + 1)) (c := chS S ru) hb (by rw [e2]; exact hw.2.2.1) (fun t ht => by rw [e2] at ht; have h6 := hw.2.2.1; rw [hcell _ (by omega) (by omega)]; exact (hw.2.2.2.2.1 t ht).2.1) n 0 σ2 r2 (by omega) (by omega)
  rw [e3]
  simp only [Option.bind_some, rowN_get r3, nI_add]
  rw [e2, hto]
  rw [e2] at r3
  have e10 : aK (un (un S 11 (chS S ru)) (73 + chS S ru) (S (73 + chS S ru) + 1)) (chS S ru) (S 2) 10 = S 10 := by rw [aK_cell _ _ (by decide) (by omega) _ hw.2.2.1, hcell 10 (by omega) (by omega)]
  rw [e10]
  exact ⟨_, rfl, rowN_set r3, agm_trans g2 (agm_trans (agm_mono (agm_of g3 (by decide) (Fs := [])) (by simp) (by simp)) (agm_psI (by simp) (by decide)))⟩
end MQ2
