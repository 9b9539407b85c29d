/-! What is kept and laid back by the reference; steps on and on. -/
/-- alike outside of what steps change -/
def lk (S T : Nat → Nat) : Prop := ∀ j, j < 10 ∨ 109 ≤ j → T j = S j
theorem lk_refl {S : Nat → Nat} : lk S S := fun _ _ => rfl
theorem lk_trans {S T U : Nat → Nat} (h1 : lk S T) (h2 : lk T U) : lk S U := fun j hj => (h2 j hj).trans (h1 j hj)
def lay (S K : Nat → Nat) : Nat → Nat := fun j => if 10 ≤ j ∧ j < 109 then K (j - 10) else S j
theorem lay_lk {S T : Nat → Nat} (h : lk S T) : lay T (fun k => S (10 + k)) = S := by
  funext j
  unfold lay
  by_cases e : 10 ≤ j ∧ j < 109
  · rw [if_pos e]
    show S (10 + (j - 10)) = S j
    congr 1
    omega
  · rw [if_neg e]
    exact h j (by omega)
theorem pasS_lk {S : Nat → Nat} {b : Nat} (hw : okW S b) (ru : RU) : lk S (pasS S ru) := fun j hj => by
  have hc := chS_lt hw ru
  have h36 := okW_36 hw
  unfold pasS
  rw [un_ne _ _ (by omega), aK_cell _ _ (by omega) (by omega) _ hw.2.2.1, un_ne _ _ (by omega), un_ne _ _ (by omega)]
theorem okW_mono {S : Nat → Nat} {b c : Nat} (h : okW S b) (hbc : b ≤ c) : okW S c := by
  obtain ⟨h1, h1', h2, h11, ht, h12, hcb, h10⟩ := h
  exact ⟨h1, h1', h2, h11, fun t q => ⟨(ht t q).1, (ht t q).2.1, Nat.le_trans (ht t q).2.2.1 hbc, (ht t q).2.2.2⟩, h12, fun c q => ⟨(hcb c q).1, Nat.le_trans (hcb c q).2 hbc⟩, Nat.le_trans h10 hbc⟩
theorem aK_asked (S : Nat → Nat) (c : Nat) {t : Nat} (ht : t < 6) : ∀ k, k ≤ t → aK S c k (13 + 4 * t + 2) = S (13 + 4 * t + 2)
  | 0, _ => rfl
  | k + 1, hk => by
    unfold aK
    split
    · rw [askS_ne (by omega) (by omega) (by omega) (by omega)]; exact aK_asked S c ht k (by omega)
    · exact aK_asked S c ht k (by omega)
theorem okW_aK {S : Nat → Nat} {b : Nat} (c : Nat) (hw : okW S (b + 1)) (ha : ∀ t, t < S 2 → S (13 + 4 * t + 2) ≤ b) : ∀ k, k ≤ S 2 → okW (aK S c k) (b + 1)
  | 0, _ => hw
  | k + 1, hk => by
    have h2 := hw.2.2.1
    unfold aK
    split
    · refine okW_ask (okW_aK c hw ha k (by omega)) ?_ ?_
      · rw [aK_cell S c (by decide) (by omega) k (by omega)]; omega
      · rw [aK_asked S c (by omega) k (Nat.le_refl _)]
        have := ha k (by omega)
        omega
    · exact okW_aK c hw ha k (by omega)
theorem okW_pas {S : Nat → Nat} {b : Nat} (hw : okW S b) (ru : RU) : okW (pasS S ru) (b + 1) := by
  have hc := chS_lt hw ru
  have h36 := okW_36 hw
  generalize hce : chS S ru = c at hc
  have hT : okW (un (un S 11 c) (73 + c) (S (73 + c) + 1)) (b + 1) := by
    obtain ⟨h1, h1', h2, h11, ht, h12, hcb, h10⟩ := hw
    have e : ∀ j, j ≠ 11 → j < 73 → un (un S 11 c) (73 + c) (S (73 + c) + 1) j = S j := fun j q1 q2 => by rw [un_ne _ _ (by omega), un_ne _ _ q1]
    refine ⟨by rw [e 1 (by omega) (by omega)]; exact h1, by rw [e 1 (by omega) (by omega)]; exact h1', by rw [e 2 (by omega) (by omega)]; exact h2, ?_, fun t q => ?_, ?_, fun k q => ?_, by rw [e 10 (by omega) (by omega)]; omega⟩
    · rw [e 1 (by omega) (by omega), un_ne _ _ (by omega), un_eq]; exact hc
    · rw [e 2 (by omega) (by omega)] at q
      rw [e 1 (by omega) (by omega), e 2 (by omega) (by omega), e _ (by omega) (by omega), e _ (by omega) (by omega), e _ (by omega) (by omega), e _ (by omega) (by omega)]
      have := ht t q
      exact ⟨this.1, this.2.1, by omega, this.2.2.2⟩
    · rw [e 12 (by omega) (by omega), e 2 (by omega) (by omega)]; exact h12
    · rw [e _ (by omega) (by omega)]
      refine ⟨(hcb k q).1, ?_⟩
      by_cases ek : k = c
      · subst ek; rw [un_eq]; have := (hcb k q).2; omega
      · rw [un_ne _ _ (by omega), un_ne _ _ (by omega)]; have := (hcb k q).2; omega
  have e2 : un (un S 11 c) (73 + c) (S (73 + c) + 1) 2 = S 2 := by rw [un_ne _ _ (by omega), un_ne _ _ (by omega)]
  have hA := okW_aK c hT (fun t q => by rw [e2] at q; have h6 := hw.2.2.1; rw [un_ne _ _ (by omega), un_ne _ _ (by omega)]; exact (hw.2.2.2.2.1 t q).2.2.1) (S 2) (by rw [e2]; exact Nat.le_refl _)
  unfold pasS
  rw [hce]
  generalize aK (un (un S 11 c) (73 + c) (S (73 + c) + 1)) c (S 2) = A at hA
  obtain ⟨h1, h1', h2, h11, ht, h12, hcb, h10⟩ := hA
  have hS10 := hw.2.2.2.2.2.2.2
  have e : ∀ j, j ≠ 10 → un A 10 (S 10 + 1) j = A j := fun j q => un_ne _ _ q
  refine ⟨by rw [e 1 (by omega)]; exact h1, by rw [e 1 (by omega)]; exact h1', by rw [e 2 (by omega)]; exact h2, by rw [e 11 (by omega), e 1 (by omega)]; exact h11, fun t q => ?_, by rw [e 12 (by omega), e 2 (by omega)]; exact h12, fun k q => ?_, by rw [un_eq]; omega⟩
  · rw [e 2 (by omega)] at q
    rw [e 1 (by omega), e 2 (by omega), e _ (by omega), e _ (by omega), e _ (by omega), e _ (by omega)]; exact ht t q
  · rw [e _ (by omega), e _ (by omega)]; exact hcb k q
/-- n steps -/
noncomputable def pasN (S : Nat → Nat) (ru : RU) : Nat → Nat → Nat
  | 0 => S
  | k + 1 => pasS (pasN S ru k) ru
theorem okW_pasN {S : Nat → Nat} {b : Nat} (hw : okW S b) (ru : RU) : ∀ k, okW (pasN S ru k) (b + k)
  | 0 => hw
  | k + 1 => okW_pas (okW_pasN hw ru k) ru
theorem pasN_lk {S : Nat → Nat} {b : Nat} (hw : okW S b) (ru : RU) : ∀ k, lk S (pasN S ru k)
  | 0 => lk_refl
  | k + 1 => lk_trans (pasN_lk hw ru k) (pasS_lk (okW_pasN hw ru k) ru)
section MK
variable {n b : Nat} {S : Nat → Nat}
theorem M_passesAll2 (hn : 100 ≤ n) (hb : b + 1000 < 2 ^ 20) (hw : okW S b) {ru : RU} {m : Nat} (hm : m ≤ 1000) : ∀ (k j : Nat) (σ : PS), rowN σ 259 (pasN S ru j) → foM n σ ru → j ≤ m → m < k + j → ∃ τ, L_X12_passesAll_2 n k (nI m) (nI j) σ = some τ ∧ rowN τ 259 (pasN S ru m) ∧ agm [257, 258, 259, 260, 261] [18] σ τ
  | 0, j, σ, hS, hf, hj, hk => by omega
  | k + 1, j, σ, hS, hf, hj, hk => by
    rw [L_X12_passesAll_2]
    by_cases e : m ≤ j
    · have : j = m := by omega
      subst this
      rw [if_pos (nI_le (Nat.le_refl _) (by omega))]
      exact ⟨σ, rfl, hS, agm_refl⟩
    · rw [if_neg (nI_ge (by omega) (by omega))]
      obtain ⟨τ, a, r, g⟩ := M_passes (b := b + j) hn (by omega) (okW_pasN hw ru j) hS hf
      rw [a]
      simp only [Option.bind_some, nI_lit, nI_add]
      obtain ⟨τ2, a2, r2, g2⟩ := M_passesAll2 hn hb hw hm k (j + 1) τ r (foM_agm hf g (by decide) (by decide) (by decide) (by decide)) (by omega) (by omega)
      exact ⟨τ2, a2, r2, agm_trans g g2⟩
theorem M_passesAll (hn : 2000 ≤ n) (hb : b + 1000 < 2 ^ 20) (hw : okW S b) {ru : RU} {m : Nat} (hm : m ≤ 1000) {σ : PS} (hS : rowN σ 259 S) (hf : foM n σ ru) : ∃ τ, F_X12_passesAll n (nI m) σ = some τ ∧ rowN τ 259 (pasN S ru m) ∧ agm [257, 258, 259, 260, 261] [18] σ τ := by
  unfold F_X12_passesAll
  obtain ⟨τ, a, r, g⟩ := M_passesAll2 (n := n) (by omega) hb hw hm n 0 σ hS hf (by omega) (by omega)
  rw [show (0 : Int32) = nI 0 from rfl, a]
  exact ⟨τ, rfl, r, g⟩
theorem M_keeps2 : ∀ (k j : Nat) (σ : PS), rowN σ 259 S → j ≤ 99 → 100 ≤ k + j → (∀ i, i < j → σ.1 263 i = nI (S (10 + i))) → ∃ τ, L_X12_keeps_2 n k (nI j) σ = some τ ∧ (∀ i, i < 99 → τ.1 263 i = nI (S (10 + i))) ∧ agr [263] σ τ
  | 0, j, σ, hS, hj, hk, hi => by omega
  | k + 1, j, σ, hS, hj, hk, hi => by
    rw [L_X12_keeps_2]
    simp (disch := omega) only [nI_lit, nI_leI, nI_add, nI_ge0, nI_clamp, Nat.zero_le, true_and, rowN_get hS]
    by_cases e : 99 ≤ j
    · have : j = 99 := by omega
      subst this
      rw [if_pos e]
      exact ⟨σ, rfl, hi, agr_refl⟩
    · rw [if_neg e, if_pos (by omega), if_pos (by omega)]
      obtain ⟨τ, a, r, g⟩ := M_keeps2 k (j + 1) (psI σ 263 j (nI (S (10 + j)))) (rowN_other hS (by decide)) (by omega) (by omega) (fun i q => by
        rw [psI_eq]
        by_cases z : i = j
        · rw [if_pos z, z]
        · rw [if_neg z]; exact hi i (by omega))
      exact ⟨τ, a, r, agr_trans (agr_psI (by simp)) g⟩
theorem M_keeps (hn : 200 ≤ n) {σ : PS} (hS : rowN σ 259 S) : ∃ τ, F_X12_keeps n σ = some τ ∧ (∀ i, i < 99 → τ.1 263 i = nI (S (10 + i))) ∧ agr [263] σ τ := by
  unfold F_X12_keeps
  obtain ⟨τ, a, r, g⟩ := M_keeps2 (n := n) n 0 σ hS (by omega) (by omega) (fun i q => by omega)
  rw [show (0 : Int32) = nI 0 from rfl, a]
  exact ⟨τ, rfl, r, g⟩
theorem M_laysBack2 {K : Nat → Nat} : ∀ (k j : Nat) (σ : PS) (T : Nat → Nat), rowN σ 259 T → (∀ i, i < 99 → σ.1 263 i = nI (K i)) → j ≤ 99 → 100 ≤ k + j → (∀ i, T i = if 10 ≤ i ∧ i < 10 + j then K (i - 10) else S i) → ∃ τ, L_X12_laysBack_2 n k (nI j) σ = some τ ∧ rowN τ 259 (lay S K) ∧ agr [259] σ τ
  | 0, j, σ, T, hT, hK, hj, hk, hi => by omega
  | k + 1, j, σ, T, hT, hK, hj, hk, hi => by
    rw [L_X12_laysBack_2]
    simp (disch := omega) only [nI_lit, nI_leI, nI_add, nI_ge0, nI_clamp, Nat.zero_le, true_and]
    by_cases e : 99 ≤ j
    · have : j = 99 := by omega
      subst this
      rw [if_pos e]
      refine ⟨σ, rfl, ?_, agr_refl⟩
      have : T = lay S K := by
        funext i
        rw [hi i]
        rfl
      rw [← this]
      exact hT
    · rw [if_neg e, if_pos (by omega), if_pos (by omega), hK j (by omega)]
      obtain ⟨τ, a, r, g⟩ := M_laysBack2 (K := K) k (j + 1) (psI σ 259 (10 + j) (nI (K j))) (un T (10 + j) (K j)) (rowN_set hT) (fun i q => by rw [psI_other (by decide)]; exact hK i q) (by omega) (by omega) (fun i => by
        unfold un
        by_cases z : i = 10 + j
        · rw [if_pos z, if_pos (by omega)]; congr 1; omega
        · rw [if_neg z, hi i]
          by_cases q : 10 ≤ i ∧ i < 10 + j
          · rw [if_pos q, if_pos (by omega)]
          · rw [if_neg q, if_neg (by omega)])
      exact ⟨τ, a, r, agr_trans (agr_psI (by simp)) g⟩
theorem M_laysBack (hn : 200 ≤ n) {K : Nat → Nat} {σ : PS} (hS : rowN σ 259 S) (hK : ∀ i, i < 99 → σ.1 263 i = nI (K i)) : ∃ τ, F_X12_laysBack n σ = some τ ∧ rowN τ 259 (lay S K) ∧ agr [259] σ τ := by
  unfold F_X12_laysBack
  obtain ⟨τ, a, r, g⟩ := M_laysBack2 (n := n) (S := S) (K := K) n 0 σ S hS hK (by omega) (by omega) (fun i => by rw [if_neg (by omega)])
  rw [show (0 : Int32) = nI 0 from rfl, a]
  exact ⟨τ, rfl, r, g⟩
end MK
