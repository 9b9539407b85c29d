/-! The class's readers of the tents; its way to the nearest. -/
/-- the cells of those of the first k tents that were not asked -/
def caK (S : Nat → Nat) : Nat → Nat
  | 0 => 0
  | k + 1 => if S (13 + 4 * k + 2) = 0 then caK S k ||| 2 ^ S (13 + 4 * k) else caK S k
theorem caK_bit (S : Nat → Nat) (c : Nat) : ∀ k, (caK S k).testBit c = true ↔ ∃ t, t < k ∧ S (13 + 4 * t + 2) = 0 ∧ S (13 + 4 * t) = c
  | 0 => by
    unfold caK
    rw [Nat.zero_testBit]
    exact ⟨fun h => (by cases h), fun ⟨t, h, _⟩ => (by omega)⟩
  | k + 1 => by
    unfold caK
    by_cases e : S (13 + 4 * k + 2) = 0
    · rw [if_pos e, Nat.testBit_or, Bool.or_eq_true, caK_bit S c k, Nat.testBit_two_pow, decide_eq_true_iff]
      constructor
      · rintro (⟨t, h1, h2, h3⟩ | h)
        · exact ⟨t, by omega, h2, h3⟩
        · exact ⟨k, by omega, e, h⟩
      · rintro ⟨t, h1, h2, h3⟩
        by_cases q : t = k
        · subst q; exact Or.inr h3
        · exact Or.inl ⟨t, by omega, h2, h3⟩
    · rw [if_neg e, caK_bit S c k]
      constructor
      · rintro ⟨t, h1, h2, h3⟩
        exact ⟨t, by omega, h2, h3⟩
      · rintro ⟨t, h1, h2, h3⟩
        by_cases q : t = k
        · subst q; exact absurd h2 e
        · exact ⟨t, by omega, h2, h3⟩
theorem caK_inQ {S : Nat → Nat} {b : Nat} (hw : okW S b) : inQ (S 1) (caK S (S 2)) := fun c hc => by
  obtain ⟨t, h1, _, h3⟩ := (caK_bit S c (S 2)).mp hc
  rw [← h3]
  exact (hw.2.2.2.2.1 t (by have := hw.2.2.1; omega)).1
/-- those of the first k tents that were asked, as bits -/
def eaK (S : Nat → Nat) : Nat → Nat
  | 0 => 0
  | k + 1 => if S (13 + 4 * k + 2) = 0 then eaK S k else eaK S k ||| 2 ^ k
section XT
variable {n b i : Nat} {S : Nat → Nat} {σ : PS}
theorem RX_tent (hR : RX σ i S) {t : Nat} (ht : t < S 2) : σ.1 (i + 1) t = nI (S (13 + 4 * t)) ∧ σ.1 (i + 2) t = nI (S (13 + 4 * t + 1)) ∧ σ.1 (i + 3) t = nI (S (13 + 4 * t + 2)) ∧ σ.1 (i + 4) t = nI (S (13 + 4 * t + 3)) := hR.2.2.2.2.2.2.2.1 t ht
theorem X_tentsOn4 (hR : RX σ i S) (h2 : S 2 ≤ 6) (hc : ∀ t, t < S 2 → S (13 + 4 * t) < 2 ^ 31) {c : Nat} (hcl : c < 2 ^ 31) : ∀ k t : Nat, t ≤ S 2 → 7 ≤ k + t → L_X10_tentsOn_4 n i k (nI c) (nI (tOn S c t)) (nI t) σ = some (nI (tOn S c (S 2)), σ)
  | 0, t, ht, hk => by omega
  | k + 1, t, ht, hk => by
    rw [L_X10_tentsOn_4, hR.2.2.2.2.2.1]
    by_cases e : S 2 ≤ t
    · have : t = S 2 := by omega
      subst this
      rw [if_pos (nI_le (Nat.le_refl _) (by omega))]
    · have hcc := hc t (by omega)
      have ih := X_tentsOn4 hR h2 hc hcl k (t + 1) (by omega) (by omega)
      rw [show tOn S c (t + 1) = tOn S c t ||| (if S (13 + 4 * t) = c then 2 ^ t else 0) from rfl] at ih
      rw [if_neg (nI_ge (by omega) (by omega))]
      simp (disch := omega) only [nI_lit, nI_ge0, nI_clamp, true_and]
      rw [if_pos (by omega), (RX_tent hR (show t < S 2 by omega)).1]
      simp (disch := omega) only [nI_eq, nI_add]
      by_cases eq : S (13 + 4 * t) = c
      · rw [if_pos eq, shl1 t (by omega), nI_or]
        rw [if_pos eq] at ih
        exact ih
      · rw [if_neg eq]
        rw [if_neg eq, Nat.or_zero] at ih
        exact ih
theorem X_tentsOn (hn : 100 ≤ n) (hR : RX σ i S) (h2 : S 2 ≤ 6) (hc : ∀ t, t < S 2 → S (13 + 4 * t) < 2 ^ 31) {c : Nat} (hcl : c < 2 ^ 31) : F_X10_tentsOn n i (nI c) σ = some (nI (tOn S c (S 2)), σ) := by
  unfold F_X10_tentsOn
  have := X_tentsOn4 (n := n) hR h2 hc hcl n 0 (by omega) (by omega)
  rw [show (0 : Int32) = nI 0 from rfl]
  rw [show tOn S c 0 = 0 from rfl] at this
  rw [this]
  rfl
theorem X_askedInAll4 (hR : RX σ i S) (h2 : S 2 ≤ 6) : ∀ k t : Nat, t ≤ S 2 → 7 ≤ k + t → L_X10_askedInAll_4 n i k (nI (aAll S t)) (nI t) σ = some (nI (aAll S (S 2)), σ)
  | 0, t, ht, hk => by omega
  | k + 1, t, ht, hk => by
    rw [L_X10_askedInAll_4, hR.2.2.2.2.2.1]
    by_cases e : S 2 ≤ t
    · have : t = S 2 := by omega
      subst this
      rw [if_pos (nI_le (Nat.le_refl _) (by omega))]
    · rw [if_neg (nI_ge (by omega) (by omega))]
      simp (disch := omega) only [nI_lit, nI_ge0, nI_clamp, true_and]
      rw [if_pos (by omega), (RX_tent hR (show t < S 2 by omega)).2.2.1]
      simp only [nI_add]
      exact X_askedInAll4 hR h2 k (t + 1) (by omega) (by omega)
theorem X_askedInAll (hn : 100 ≤ n) (hR : RX σ i S) (h2 : S 2 ≤ 6) : F_X10_askedInAll n i σ = some (nI (aAll S (S 2)), σ) := by
  unfold F_X10_askedInAll
  have := X_askedInAll4 (n := n) hR h2 n 0 (by omega) (by omega)
  rw [show (0 : Int32) = nI 0 from rfl]
  rw [show aAll S 0 = 0 from rfl] at this
  rw [this]
  rfl
theorem X_leastNerve5 (hR : RX σ i S) (h2 : S 2 ≤ 6) (hc : ∀ t, t < S 2 → S (13 + 4 * t) < 2 ^ 31) (hv : ∀ t, t < S 2 → S (13 + 4 * t + 1) < 2 ^ 31) {c : Nat} (hcl : c < 2 ^ 31) : ∀ k t : Nat, t ≤ S 2 → 7 ≤ k + t → L_X10_leastNerveOn_5 n i k (nI c) (nI (nvK S c t)) (nI t) σ = some (nI (nvK S c (S 2)), σ)
  | 0, t, ht, hk => by omega
  | k + 1, t, ht, hk => by
    rw [L_X10_leastNerveOn_5, hR.2.2.2.2.2.1]
    by_cases e : S 2 ≤ t
    · have : t = S 2 := by omega
      subst this
      rw [if_pos (nI_le (Nat.le_refl _) (by omega))]
    · have ih := X_leastNerve5 hR h2 hc hv hcl k (t + 1) (by omega) (by omega)
      rw [show nvK S c (t + 1) = (if S (13 + 4 * t) = c then (if nvK S c t ≤ S (13 + 4 * t + 1) then nvK S c t else S (13 + 4 * t + 1)) else nvK S c t) from rfl] at ih
      have hc' := hc t (by omega)
      have hv' := hv t (by omega)
      have hn' := nvK_le S c t
      rw [if_neg (nI_ge (by omega) (by omega))]
      simp (disch := omega) only [nI_lit, nI_ge0, nI_clamp, true_and]
      have hr := RX_tent hR (show t < S 2 by omega)
      rw [if_pos (by omega), hr.1, hr.2.1]
      simp (disch := omega) only [nI_eq, nI_add, nI_ltI]
      by_cases ea : S (13 + 4 * t) = c
      · rw [if_pos ea]
        rw [if_pos ea] at ih
        by_cases el : nvK S c t ≤ S (13 + 4 * t + 1)
        · rw [if_neg (by omega)]
          rw [if_pos el] at ih
          exact ih
        · rw [if_pos (by omega)]
          rw [if_neg el] at ih
          exact ih
      · rw [if_neg ea]
        rw [if_neg ea] at ih
        exact ih
theorem X_leastNerveOn (hn : 100 ≤ n) (hR : RX σ i S) (h2 : S 2 ≤ 6) (hc : ∀ t, t < S 2 → S (13 + 4 * t) < 2 ^ 31) (hv : ∀ t, t < S 2 → S (13 + 4 * t + 1) < 2 ^ 31) {c : Nat} (hcl : c < 2 ^ 31) : F_X10_leastNerveOn n i (nI c) σ = some (nI (nvK S c (S 2)), σ) := by
  unfold F_X10_leastNerveOn
  have := X_leastNerve5 (n := n) hR h2 hc hv hcl n 0 (by omega) (by omega)
  rw [show (0 : Int32) = nI 0 from rfl, show (99 : Int32) = nI 99 from rfl]
  rw [show nvK S c 0 = 99 from rfl] at this
  rw [this]
  rfl
theorem caK_lt {S : Nat → Nat} (hc : ∀ t, t < S 2 → S (13 + 4 * t) < 36) : ∀ k, k ≤ S 2 → caK S k < 2 ^ 36
  | 0, _ => by show 0 < 2 ^ 36; decide
  | k + 1, hk => by
    have ih := caK_lt hc k (by omega)
    unfold caK
    split
    · exact Nat.or_lt_two_pow ih (Nat.pow_lt_pow_right (by decide) (hc k (by omega)))
    · exact ih
theorem X_cellsToAsk4 (hR : RX σ i S) (h2 : S 2 ≤ 6) (hc : ∀ t, t < S 2 → S (13 + 4 * t) < 36) (ha : ∀ t, t < S 2 → S (13 + 4 * t + 2) < 2 ^ 31) : ∀ k t : Nat, t ≤ S 2 → 7 ≤ k + t → L_X10_cellsToAsk_4 n i k (lN (caK S t)) (nI t) σ = some (lN (caK S (S 2)), σ)
  | 0, t, ht, hk => by omega
  | k + 1, t, ht, hk => by
    rw [L_X10_cellsToAsk_4, hR.2.2.2.2.2.1]
    by_cases e : S 2 ≤ t
    · have : t = S 2 := by omega
      subst this
      rw [if_pos (nI_le (Nat.le_refl _) (by omega))]
    · have ih := X_cellsToAsk4 hR h2 hc ha k (t + 1) (by omega) (by omega)
      rw [show caK S (t + 1) = (if S (13 + 4 * t + 2) = 0 then caK S t ||| 2 ^ S (13 + 4 * t) else caK S t) from rfl] at ih
      have hc' := hc t (by omega)
      have ha' := ha t (by omega)
      have hl := caK_lt hc t (by omega)
      rw [if_neg (nI_ge (by omega) (by omega))]
      simp (disch := omega) only [nI_lit, nI_ge0, nI_clamp, true_and]
      have hr := RX_tent hR (show t < S 2 by omega)
      rw [if_pos (by omega), hr.1, hr.2.2.1]
      simp (disch := omega) only [nI_eq, nI_add]
      by_cases ea : S (13 + 4 * t + 2) = 0
      · rw [if_pos ea, show (1 : Int64) = lN 1 from rfl, wb_shl 1 (show S (13 + 4 * t) < 64 by omega), Nat.one_mul, wb_or (by omega) (Nat.pow_lt_pow_right (by decide) (by omega))]
        rw [if_pos ea] at ih
        exact ih
      · rw [if_neg ea]
        rw [if_neg ea] at ih
        exact ih
theorem X_cellsToAsk (hn : 100 ≤ n) (hR : RX σ i S) (h2 : S 2 ≤ 6) (hc : ∀ t, t < S 2 → S (13 + 4 * t) < 36) (ha : ∀ t, t < S 2 → S (13 + 4 * t + 2) < 2 ^ 31) : F_X10_cellsToAsk n i σ = some (lN (caK S (S 2)), σ) := by
  unfold F_X10_cellsToAsk
  have := X_cellsToAsk4 (n := n) hR h2 hc ha n 0 (by omega) (by omega)
  rw [show (0 : Int32) = nI 0 from rfl, show (0 : Int64) = lN 0 from rfl]
  rw [show caK S 0 = 0 from rfl] at this
  rw [this]
  rfl
theorem X_everAsked4 (hR : RX σ i S) (h2 : S 2 ≤ 6) (ha : ∀ t, t < S 2 → S (13 + 4 * t + 2) < 2 ^ 31) : ∀ k t : Nat, t ≤ S 2 → 7 ≤ k + t → L_X10_everAsked_4 n i k (nI (eaK S t)) (nI t) σ = some (nI (eaK S (S 2)), σ)
  | 0, t, ht, hk => by omega
  | k + 1, t, ht, hk => by
    rw [L_X10_everAsked_4, hR.2.2.2.2.2.1]
    by_cases e : S 2 ≤ t
    · have : t = S 2 := by omega
      subst this
      rw [if_pos (nI_le (Nat.le_refl _) (by omega))]
    · have ih := X_everAsked4 hR h2 ha k (t + 1) (by omega) (by omega)
      rw [show eaK S (t + 1) = (if S (13 + 4 * t + 2) = 0 then eaK S t else eaK S t ||| 2 ^ t) from rfl] at ih
      have ha' := ha t (by omega)
      rw [if_neg (nI_ge (by omega) (by omega))]
      simp (disch := omega) only [nI_lit, nI_ge0, nI_clamp, true_and]
      rw [if_pos (by omega), (RX_tent hR (show t < S 2 by omega)).2.2.1]
      simp (disch := omega) only [nI_leI, nI_add]
      by_cases ea : S (13 + 4 * t + 2) = 0
      · rw [if_pos (by omega)]
        rw [if_pos ea] at ih
        exact ih
      · rw [if_neg (by omega), shl1 t (by omega), nI_or]
        rw [if_neg ea] at ih
        exact ih
theorem X_everAsked (hn : 100 ≤ n) (hR : RX σ i S) (h2 : S 2 ≤ 6) (ha : ∀ t, t < S 2 → S (13 + 4 * t + 2) < 2 ^ 31) : F_X10_everAsked n i σ = some (nI (eaK S (S 2)), σ) := by
  unfold F_X10_everAsked
  have := X_everAsked4 (n := n) hR h2 ha n 0 (by omega) (by omega)
  rw [show (0 : Int32) = nI 0 from rfl]
  rw [show eaK S 0 = 0 from rfl] at this
  rw [this]
  rfl
/-- the way to the nearest that was not asked is the reference's -/
theorem X_near (hn : 100 ≤ n) (hR : RX σ i S) (hb : b < 2 ^ 20) (hw : okW S b) {fr : Nat} (hf : fr < S 1 * S 1) : F_X10_distance n i (nI fr) (lN (caK S (S 2))) σ = some (oI (nr S fr), σ) ∧ (nr S fr < 36 ∨ nr S fr = 99) := by
  have h36 := okW_36 hw
  have hD := dW_ok hw.1 hw.2.1 (fun c hc => by have := (hw.2.2.2.2.2.2.1 c hc).1; omega) hf
  have ht := hw.2.2.2.2.1
  have h2 := hw.2.2.1
  have hch := nrK_char (S := S) (D := dW (S 1) (fun c => S (37 + c)) fr) (fun t h => dW_lt hD (ht t h).1) (S 2) (Nat.le_refl _)
  have hnr : nrK S (dW (S 1) (fun c => S (37 + c)) fr) (S 2) = nr S fr := rfl
  rw [hnr] at hch
  rcases X_distance hn hR hw.1 hw.2.1 hf hD (caK_inQ hw) with ⟨k, hk, e, ⟨c, hc, hck⟩, hle⟩ | ⟨e, ha⟩
  · obtain ⟨t, t1, t2, t3⟩ := (caK_bit S c (S 2)).mp hc
    have : nr S fr = k := by
      rcases hch with ⟨h9, hall⟩ | ⟨h9, ⟨u, u1, u2, u3⟩, hall⟩
      · have := hall t t1 t2
        rw [t3, hck] at this
        omega
      · have a := hall t t1 t2
        rw [t3, hck] at a
        have b := hle _ ((caK_bit S (S (13 + 4 * u)) (S 2)).mpr ⟨u, u1, u2, rfl⟩) (by omega)
        omega
    rw [e, this]
    refine ⟨?_, Or.inl hk⟩
    unfold oI
    rw [if_neg (by omega)]
  · have : nr S fr = 99 := by
      rcases hch with ⟨h9, _⟩ | ⟨h9, ⟨u, u1, u2, u3⟩, _⟩
      · exact h9
      · have := ha _ ((caK_bit S (S (13 + 4 * u)) (S 2)).mpr ⟨u, u1, u2, rfl⟩)
        omega
    rw [e, this]
    exact ⟨rfl, Or.inr rfl⟩
/-- one way out more is looked at -/
def tst (N : Nat → Nat) (acc : Nat × Nat) (c : Nat) : Nat × Nat := if c ≠ 99 ∧ N c < acc.2 then (c, N c) else acc
def twF (S N : Nat → Nat) : Nat × Nat := tst N (tst N (tst N (tst N (S 11, 36) (ps S (S 11) 2)) (ps S (S 11) 0)) (ps S (S 11) 1)) (ps S (S 11) 3)
theorem X_tw30 (hR : RX σ i S) (h1 : 2 ≤ S 1) (h2 : S 1 ≤ 6) (h11 : S 11 < S 1 * S 1) {tm : Nat} {N : Nat → Nat} (hN : ∀ c, c < S 1 * S 1 → F_X10_distance n i (nI c) (lN tm) σ = some (oI (N c), σ) ∧ (N c < 36 ∨ N c = 99)) {k d x : Nat} {acc : Nat × Nat} (hacc : acc.2 ≤ 36) (hd : d < 4) (hx : pTb0.getD d 0 = nI x) (hx4 : x < 4) : (tst N acc (ps S (S 11) x)).2 ≤ 36 ∧ L_X10_towards_30 n i (k + 1) (lN tm) (nI acc.1) (nI acc.2) (nI d) σ = L_X10_towards_30 n i k (lN tm) (nI (tst N acc (ps S (S 11) x)).1) (nI (tst N acc (ps S (S 11) x)).2) (nI (d + 1)) σ := by
  have h36 : S 1 * S 1 ≤ 36 := by
    have := Nat.mul_le_mul h2 h2
    omega
  rw [L_X10_towards_30]
  simp (disch := omega) only [nI_lit, nI_leI, nI_ge0, nI_clamp, true_and]
  rw [if_neg (by omega), if_pos ⟨Nat.zero_le _, hd⟩, hR.2.2.1, show pTb0.getD d (nI 0) = nI x from hx, X_passable hR h1 h2 h11 hx4]
  simp only [Option.bind_some, nI_add]
  rcases ps_cases S (S 11) x with e | ⟨e, e9, _⟩
  · rw [e]
    have : tst N acc 99 = acc := if_neg (fun q => q.1 rfl)
    rw [this, if_pos (show oI 99 = -(nI 1) from rfl)]
    simp only [if_true]
    exact ⟨hacc, trivial⟩
  · have hl : nb (S 1) (S 11) x < S 1 * S 1 := nb_lt h11 e9
    rw [← e] at e9 hl
    generalize ps S (S 11) x = c at e9 hl ⊢
    have ho : oI c = nI c := if_neg e9
    rw [ho, if_neg (show ¬ nI c = -(nI 1) from m1_ne (by omega)), (hN c hl).1]
    simp only [Option.bind_some]
    rcases (hN c hl).2 with h | h
    · have ho' : oI (N c) = nI (N c) := if_neg (by omega)
      rw [ho', if_neg (show ¬ nI (N c) = -(nI 1) from m1_ne (by omega))]
      simp (disch := omega) only [nI_leI]
      unfold tst
      by_cases z : acc.2 ≤ N c
      · rw [if_pos z, if_neg (fun q => by omega)]
        exact ⟨hacc, rfl⟩
      · rw [if_neg z, if_pos ⟨e9, by omega⟩]
        exact ⟨by show N c ≤ 36; omega, rfl⟩
    · rw [h, if_pos (show oI 99 = -(nI 1) from rfl)]
      unfold tst
      rw [if_neg (fun q => by omega)]
      exact ⟨hacc, rfl⟩
theorem X_towards (hn : 100 ≤ n) (hR : RX σ i S) (h1 : 2 ≤ S 1) (h2 : S 1 ≤ 6) (h11 : S 11 < S 1 * S 1) {tm : Nat} (ht : inQ (S 1) tm) {N : Nat → Nat} (hN : ∀ c, c < S 1 * S 1 → F_X10_distance n i (nI c) (lN tm) σ = some (oI (N c), σ) ∧ (N c < 36 ∨ N c = 99)) : F_X10_towards n i (lN tm) σ = some (nI (if tm.testBit (S 11) = true then S 11 else (twF S N).1), σ) := by
  have h36 : S 1 * S 1 ≤ 36 := by
    have := Nat.mul_le_mul h2 h2
    omega
  have htl := inQ_lt h36 ht
  unfold F_X10_towards
  have hp : (2 : Nat) ^ S 11 < 2 ^ 64 := Nat.pow_lt_pow_right (by decide) (by omega)
  rw [hR.2.2.1, show (1 : Int64) = lN 1 from rfl, wb_shl 1 (show S 11 < 64 by omega), Nat.one_mul, wb_and hp (by omega)]
  have hz : lg_cmp (lN (2 ^ S 11 &&& tm)) (0 : Int64) = 0 ↔ 2 ^ S 11 &&& tm = 0 := (lg_cmp_eq _ _).trans (lN_0 (and_lt hp))
  by_cases e : tm.testBit (S 11) = true
  · rw [if_pos e, if_neg (fun q => ?_)]
    have := hz.mp q
    have h' : (2 ^ S 11 &&& tm).testBit (S 11) = true := by rw [Nat.testBit_and, e, Nat.testBit_two_pow]; simp
    rw [this, Nat.zero_testBit] at h'
    cases h'
  · have h0 : 2 ^ S 11 &&& tm = 0 := by
      apply Nat.eq_of_testBit_eq
      intro c
      rw [Nat.testBit_and, Nat.testBit_two_pow, Nat.zero_testBit]
      by_cases q : S 11 = c
      · subst q; simp [e]
      · simp [q]
    rw [if_neg e, if_pos (hz.mpr h0)]
    obtain ⟨m, rfl⟩ : ∃ m, n = m + 5 := ⟨n - 5, by omega⟩
    have s0 := X_tw30 (n := m + 5) (k := m + 4) (d := 0) (x := 2) (acc := (S 11, 36)) hR h1 h2 h11 hN (Nat.le_refl _) (by omega) rfl (by omega)
    have s1 := X_tw30 (n := m + 5) (k := m + 3) (d := 1) (x := 0) hR h1 h2 h11 hN s0.1 (by omega) rfl (by omega)
    have s2 := X_tw30 (n := m + 5) (k := m + 2) (d := 2) (x := 1) hR h1 h2 h11 hN s1.1 (by omega) rfl (by omega)
    have s3 := X_tw30 (n := m + 5) (k := m + 1) (d := 3) (x := 3) hR h1 h2 h11 hN s2.1 (by omega) rfl (by omega)
    rw [show (36 : Int32) = nI 36 from rfl, show (0 : Int32) = nI 0 from rfl]
    have key := s0.2.trans (s1.2.trans (s2.2.trans s3.2))
    have fin : L_X10_towards_30 (m + 5) i (m + 1) (lN tm) (nI (twF S N).1) (nI (twF S N).2) (nI 4) σ = some (nI (twF S N).1, σ) := by
      rw [L_X10_towards_30, show (4 : Int32) = nI 4 from rfl, if_pos (nI_le (Nat.le_refl _) (by omega))]
    rw [show m + 5 = (m + 4) + 1 from rfl] at *
    rw [key.trans fin]
    rfl
end XT
