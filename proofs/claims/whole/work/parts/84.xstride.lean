/-! The class's words, its favourite by a rule, its step. -/
def msk (sd c : Nat) (a0 a1 a2 a3 : Bool) : Nat := (if nb sd c 0 ≠ 99 ∧ a0 = true then 2 ^ nb sd c 0 else 0) ||| (if nb sd c 1 ≠ 99 ∧ a1 = true then 2 ^ nb sd c 1 else 0) ||| (if nb sd c 2 ≠ 99 ∧ a2 = true then 2 ^ nb sd c 2 else 0) ||| (if nb sd c 3 ≠ 99 ∧ a3 = true then 2 ^ nb sd c 3 else 0)
def cn4 (sd c : Nat) (a0 a1 a2 a3 : Bool) : Nat := 0 + (if nb sd c 0 ≠ 99 ∧ a0 = true then 1 else 0) + (if nb sd c 1 ≠ 99 ∧ a1 = true then 1 else 0) + (if nb sd c 2 ≠ 99 ∧ a2 = true then 1 else 0) + (if nb sd c 3 ≠ 99 ∧ a3 = true then 1 else 0)
theorem msk_cnt : ∀ sd, sd < 7 → 2 ≤ sd → ∀ c, c < sd * sd → ∀ a0 a1 a2 a3 : Bool, popK (msk sd c a0 a1 a2 a3) 40 = cn4 sd c a0 a1 a2 a3 := by decide +kernel
def bsh (S : Nat → Nat) (c d : Nat) : Bool := decide (S (37 + nb (S 1) c d) ≠ 0)
theorem ite_bit {p : Prop} [Decidable p] {x j : Nat} : (if p then 2 ^ x else 0).testBit j = true ↔ p ∧ x = j := by
  by_cases h : p
  · rw [if_pos h, Nat.testBit_two_pow, decide_eq_true_iff]
    exact ⟨fun q => ⟨h, q⟩, fun q => q.2⟩
  · rw [if_neg h, Nat.zero_testBit]
    exact ⟨fun q => (by cases q), fun q => absurd q.1 h⟩
theorem bush_mask {S : Nat → Nat} (h1 : 2 ≤ S 1) (h2 : S 1 ≤ 6) {c : Nat} (hc : c < S 1 * S 1) : sprN (S 1) (2 ^ c) &&& bm S = msk (S 1) c (bsh S c 0) (bsh S c 1) (bsh S c 2) (bsh S c 3) := by
  have hin : inQ (S 1) (2 ^ c) := fun j hj => by
    rw [Nat.testBit_two_pow, decide_eq_true_iff] at hj
    omega
  apply eq_of_bits
  intro j
  unfold msk
  rw [Nat.testBit_and, Bool.and_eq_true, sprN_bit h1 h2 hin, bm_bit]
  simp only [Nat.testBit_or, Bool.or_eq_true, ite_bit, bsh, decide_eq_true_iff, Nat.testBit_two_pow]
  constructor
  · rintro ⟨⟨hj, d, hd, hn, he⟩, _, hb⟩
    obtain ⟨e, he4, hs⟩ := nb_sym (S 1) (by omega) h1 j hj d hd hn
    rw [← he] at hs
    have h36 : S 1 * S 1 ≤ 36 := by
      have := Nat.mul_le_mul h2 h2
      omega
    have : e = 0 ∨ e = 1 ∨ e = 2 ∨ e = 3 := by omega
    rcases this with q | q | q | q <;> subst q <;> rw [hs]
    · exact Or.inl (Or.inl (Or.inl ⟨⟨by omega, hb⟩, rfl⟩))
    · exact Or.inl (Or.inl (Or.inr ⟨⟨by omega, hb⟩, rfl⟩))
    · exact Or.inl (Or.inr ⟨⟨by omega, hb⟩, rfl⟩)
    · exact Or.inr ⟨⟨by omega, hb⟩, rfl⟩
  · have key : ∀ d, d < 4 → (nb (S 1) c d ≠ 99 ∧ S (37 + nb (S 1) c d) ≠ 0) ∧ nb (S 1) c d = j → (j < S 1 * S 1 ∧ ∃ d, d < 4 ∧ nb (S 1) j d ≠ 99 ∧ c = nb (S 1) j d) ∧ j < S 1 * S 1 ∧ S (37 + j) ≠ 0 := by
      rintro d hd ⟨⟨hn, hb⟩, he⟩
      have hl := nb_lt hc hn
      obtain ⟨e, he4, hs⟩ := nb_sym (S 1) (by omega) h1 c hc d hd hn
      rw [he] at hl hb hs
      have h36 : S 1 * S 1 ≤ 36 := by
        have := Nat.mul_le_mul h2 h2
        omega
      exact ⟨⟨hl, e, he4, by rw [hs]; omega, hs.symm⟩, hl, hb⟩
    rintro (((h | h) | h) | h)
    · exact key 0 (by decide) h
    · exact key 1 (by decide) h
    · exact key 2 (by decide) h
    · exact key 3 (by decide) h
/-- outside of T, of the stack and of the rule book's own fields nothing has changed -/
def agx (T : List Nat) (σ τ : PS) : Prop := (∀ j, j ∉ T → j ≠ 7 → j ≠ 17 → τ.1 j = σ.1 j ∧ τ.2 j = σ.2 j) ∧ τ.1 7 0 = σ.1 7 0
theorem agx_refl {T : List Nat} {σ : PS} : agx T σ σ := ⟨fun _ _ _ _ => ⟨rfl, rfl⟩, rfl⟩
theorem agx_trans {T : List Nat} {a b c : PS} (h1 : agx T a b) (h2 : agx T b c) : agx T a c := ⟨fun j hj h7 h17 => ⟨(h2.1 j hj h7 h17).1.trans (h1.1 j hj h7 h17).1, (h2.1 j hj h7 h17).2.trans (h1.1 j hj h7 h17).2⟩, h2.2.trans h1.2⟩
theorem agx_mono {T U : List Nat} {a b : PS} (h : agx T a b) (hs : ∀ j ∈ T, j ∈ U) : agx U a b := ⟨fun j hj h7 h17 => h.1 j (fun q => hj (hs j q)) h7 h17, h.2⟩
theorem agx_of {T : List Nat} {a b : PS} (h : agr T a b) (h7 : 7 ∉ T) : agx T a b := ⟨fun j hj _ _ => h j hj, congrFun (h 7 h7).1 0⟩
theorem agx_psI {T : List Nat} {σ : PS} {i k : Nat} {v : Int32} (h : i ∈ T) (h7 : i ≠ 7) : agx T σ (psI σ i k v) := ⟨fun j hj _ _ => psI_ne (fun e => hj (e ▸ h)), congrFun (psI_other (Ne.symm h7)) 0⟩
theorem agx_fld {T : List Nat} {σ : PS} {k : Nat} {v : Int32} (h : k ≠ 0) : agx T σ (psI σ 7 k v) := ⟨fun j _ h7 _ => psI_ne h7, by rw [psI_eq, if_neg (Ne.symm h)]⟩
theorem RX_agx {σ τ : PS} {i : Nat} {S : Nat → Nat} {T : List Nat} (h : RX σ i S) (ha : agx T σ τ) (hi : 18 < i) (hT : ∀ j, j ∈ T → j < i ∨ i + 5 < j) : RX τ i S := by
  have hh : ∀ k, k < 6 → τ.1 (i + k) = σ.1 (i + k) ∧ τ.2 (i + k) = σ.2 (i + k) := fun k hk => ha.1 (i + k) (fun q => by have := hT _ q; omega) (by omega) (by omega)
  have h0 := hh 0 (by decide)
  rw [Nat.add_zero] at h0
  unfold RX
  rw [h0.1, h0.2, (hh 1 (by decide)).1, (hh 2 (by decide)).1, (hh 3 (by decide)).1, (hh 4 (by decide)).1, (hh 5 (by decide)).1]
  exact h
/-- rule r of the class reckons as f does -/
def ruX (n : Nat) (σ : PS) (r : Nat) (f : (Nat → Int64) → Int64) : Prop := ∀ (τ : PS) (i : Nat) (S : Nat → Nat) (b c : Nat), 18 < i → RX τ i S → b < 2 ^ 20 → okW S b → c < S 1 * S 1 → τ.1 15 = σ.1 15 → τ.1 (9 + r) = σ.1 (9 + r) → (σ.1 16 r = 0 ∨ τ.1 7 6 = nI (nr S c)) → ∃ υ, F_X4_worthOf n i (nI r) (nI c) τ = some (f (wrd S c), υ) ∧ agx [] τ υ
theorem ruX_agx {n : Nat} {σ τ : PS} {r : Nat} {f : (Nat → Int64) → Int64} {T : List Nat} (h : ruX n σ r f) (ha : agx T σ τ) (hr : r < 6) (hT : ∀ j, j ∈ T → 18 ≤ j) : ruX n τ r f := by
  have hh : ∀ k, k < 17 → k ≠ 7 → τ.1 k = σ.1 k := fun k hk h7 => (ha.1 k (fun q => by have := hT _ q; omega) h7 (by omega)).1
  intro υ i S b c hi hR hb hw hc e1 e2 e3
  exact h υ i S b c hi hR hb hw hc (e1.trans (hh 15 (by decide) (by decide))) (e2.trans (hh (9 + r) (by omega) (by omega))) (by rw [← hh 16 (by decide) (by decide)]; exact e3)
/-- the rule that is told to the class's step -/
def foX (n : Nat) (σ : PS) (ru : RU) (x : Int32) : Prop := match ru with
  | some f => ∃ r z, r < z ∧ z ≤ 6 ∧ σ.1 7 0 = nI z ∧ x = nI r ∧ ruX n σ r f
  | none => x = m1
theorem foX_agx {n : Nat} {σ τ : PS} {ru : RU} {x : Int32} {T : List Nat} (h : foX n σ ru x) (ha : agx T σ τ) (hT : ∀ j, j ∈ T → 18 ≤ j) : foX n τ ru x := by
  cases ru with
  | none => exact h
  | some f =>
    obtain ⟨r, z, a, b, c, d, e⟩ := h
    exact ⟨r, z, a, b, ha.2.trans c, d, ruX_agx e ha (by omega) hT⟩
section XS
variable {n b i : Nat} {S : Nat → Nat} {σ : PS}
theorem X_rowOf (hR : RX σ i S) (h1 : 2 ≤ S 1) (h2 : S 1 ≤ 6) {c : Nat} (hc : c < 36) : F_X10_rowOf n i (nI c) σ = some (nI (c / S 1), σ) := by
  unfold F_X10_rowOf
  rw [hR.1]
  simp (disch := omega) only [nI_lit, nI_leI, nI_eq, nI_div]
  rw [if_neg (by omega), if_neg (by omega)]
theorem X_columnOf (hR : RX σ i S) (h1 : 2 ≤ S 1) (h2 : S 1 ≤ 6) {c : Nat} (hc : c < 36) : F_X10_columnOf n i (nI c) σ = some (nI (c % S 1), σ) := by
  unfold F_X10_columnOf
  rw [hR.1]
  simp (disch := omega) only [nI_lit, nI_leI, nI_eq, nI_rem]
  rw [if_neg (by omega), if_neg (by omega)]
/-- the class's codes of the words -/
def wcd (k : Nat) : Int32 := -(nI (k + 1))
theorem wrd_0 {c : Nat} : wrd S c 0 = lN c := by unfold wrd; rw [if_pos rfl]
theorem wrd_1 {c : Nat} : wrd S c 1 = lN (c / S 1) := by unfold wrd; rw [if_neg (by decide), if_pos rfl]
theorem wrd_2 {c : Nat} : wrd S c 2 = lN (c % S 1) := by unfold wrd; rw [if_neg (by decide), if_neg (by decide), if_pos rfl]
theorem wrd_3 {c : Nat} : wrd S c 3 = lN (pcn (tOn S c (S 2))) := by unfold wrd; rw [if_neg (by decide), if_neg (by decide), if_neg (by decide), if_pos rfl]
theorem wrd_4 {c : Nat} : wrd S c 4 = lN (nvK S c (S 2)) := by unfold wrd; rw [if_neg (by decide), if_neg (by decide), if_neg (by decide), if_neg (by decide), if_pos rfl]
theorem wrd_5 {c : Nat} : wrd S c 5 = lN (S (73 + c)) := by unfold wrd; rw [if_neg (by decide), if_neg (by decide), if_neg (by decide), if_neg (by decide), if_neg (by decide), if_pos rfl]
theorem wrd_6 {c : Nat} : wrd S c 6 = lN (nr S c) := by unfold wrd; rw [if_neg (by decide), if_neg (by decide), if_neg (by decide), if_neg (by decide), if_neg (by decide), if_neg (by decide), if_pos rfl]
theorem wrd_7 {c : Nat} : wrd S c 7 = lN (bsK S c 4) := by unfold wrd; rw [if_neg (by decide), if_neg (by decide), if_neg (by decide), if_neg (by decide), if_neg (by decide), if_neg (by decide), if_neg (by decide), if_pos rfl]
theorem wrd_8 {c : Nat} : wrd S c 8 = lN (pcn (S 12)) := by unfold wrd; rw [if_neg (by decide), if_neg (by decide), if_neg (by decide), if_neg (by decide), if_neg (by decide), if_neg (by decide), if_neg (by decide), if_neg (by decide), if_pos rfl]
theorem wrd_9 {c : Nat} : wrd S c 9 = lN (aAll S (S 2)) := by unfold wrd; rw [if_neg (by decide), if_neg (by decide), if_neg (by decide), if_neg (by decide), if_neg (by decide), if_neg (by decide), if_neg (by decide), if_neg (by decide), if_neg (by decide), if_pos rfl]
theorem wrd_10 {c : Nat} : wrd S c 10 = lN (S 10) := by unfold wrd; rw [if_neg (by decide), if_neg (by decide), if_neg (by decide), if_neg (by decide), if_neg (by decide), if_neg (by decide), if_neg (by decide), if_neg (by decide), if_neg (by decide), if_neg (by decide)]
theorem X_v0 (hn : 100 ≤ n) (hR : RX σ i S) (hb : b < 2 ^ 20) (hw : okW S b) {c : Nat} (hc : c < S 1 * S 1) : F_X4_valueOf n i (wcd 0) (nI c) σ = some (wrd S c 0, σ) := by
  have h36 := okW_36 hw
  obtain ⟨h1, h1', h2, h11, ht, h12, hcb, h10⟩ := id hw
  have hcl : ∀ t, t < S 2 → S (13 + 4 * t) < 2 ^ 31 := fun t h => by have := (ht t h).1; omega
  have hnv : ∀ t, t < S 2 → S (13 + 4 * t + 1) < 2 ^ 31 := fun t h => by have := (ht t h).2.1; omega
  have htl := tOn_lt S c (S 2)
  have hp2 := pow_64 h2
  have hnvl := nvK_le S c (S 2)
  have hnrl := nr_le S c
  have hpl := pcn_le (tOn S c (S 2)) (by omega)
  have hpl2 := pcn_le (S 12) (by omega)
  have hal := aAll_le (fun t h => (ht t h).2.2.1) (S 2) (Nat.le_refl _)
  have hal2 : S 2 * b ≤ 6 * b := Nat.mul_le_mul_right _ h2
  have hbe := (hcb c (by omega)).2
  have hdiv : c / S 1 ≤ c := Nat.div_le_self _ _
  have hmod : c % S 1 ≤ c := Nat.mod_le _ _
  unfold F_X4_valueOf
  rw [if_neg (by decide), if_neg (by decide), if_neg (by decide), if_neg (by decide), if_neg (by decide), if_neg (by decide), if_neg (by decide), if_neg (by decide), if_neg (by decide), if_neg (by decide), if_pos (by decide), nI_l (by omega), wrd_0]
theorem X_v1 (hn : 100 ≤ n) (hR : RX σ i S) (hb : b < 2 ^ 20) (hw : okW S b) {c : Nat} (hc : c < S 1 * S 1) : F_X4_valueOf n i (wcd 1) (nI c) σ = some (wrd S c 1, σ) := by
  have h36 := okW_36 hw
  obtain ⟨h1, h1', h2, h11, ht, h12, hcb, h10⟩ := id hw
  have hcl : ∀ t, t < S 2 → S (13 + 4 * t) < 2 ^ 31 := fun t h => by have := (ht t h).1; omega
  have hnv : ∀ t, t < S 2 → S (13 + 4 * t + 1) < 2 ^ 31 := fun t h => by have := (ht t h).2.1; omega
  have htl := tOn_lt S c (S 2)
  have hp2 := pow_64 h2
  have hnvl := nvK_le S c (S 2)
  have hnrl := nr_le S c
  have hpl := pcn_le (tOn S c (S 2)) (by omega)
  have hpl2 := pcn_le (S 12) (by omega)
  have hal := aAll_le (fun t h => (ht t h).2.2.1) (S 2) (Nat.le_refl _)
  have hal2 : S 2 * b ≤ 6 * b := Nat.mul_le_mul_right _ h2
  have hbe := (hcb c (by omega)).2
  have hdiv : c / S 1 ≤ c := Nat.div_le_self _ _
  have hmod : c % S 1 ≤ c := Nat.mod_le _ _
  unfold F_X4_valueOf
  rw [if_neg (by decide), if_neg (by decide), if_neg (by decide), if_neg (by decide), if_neg (by decide), if_neg (by decide), if_neg (by decide), if_neg (by decide), if_neg (by decide), if_pos (by decide), X_rowOf hR h1 h1' (by omega)]
  simp only [Option.bind_some]
  rw [nI_l (by omega), wrd_1]
theorem X_v2 (hn : 100 ≤ n) (hR : RX σ i S) (hb : b < 2 ^ 20) (hw : okW S b) {c : Nat} (hc : c < S 1 * S 1) : F_X4_valueOf n i (wcd 2) (nI c) σ = some (wrd S c 2, σ) := by
  have h36 := okW_36 hw
  obtain ⟨h1, h1', h2, h11, ht, h12, hcb, h10⟩ := id hw
  have hcl : ∀ t, t < S 2 → S (13 + 4 * t) < 2 ^ 31 := fun t h => by have := (ht t h).1; omega
  have hnv : ∀ t, t < S 2 → S (13 + 4 * t + 1) < 2 ^ 31 := fun t h => by have := (ht t h).2.1; omega
  have htl := tOn_lt S c (S 2)
  have hp2 := pow_64 h2
  have hnvl := nvK_le S c (S 2)
  have hnrl := nr_le S c
  have hpl := pcn_le (tOn S c (S 2)) (by omega)
  have hpl2 := pcn_le (S 12) (by omega)
  have hal := aAll_le (fun t h => (ht t h).2.2.1) (S 2) (Nat.le_refl _)
  have hal2 : S 2 * b ≤ 6 * b := Nat.mul_le_mul_right _ h2
  have hbe := (hcb c (by omega)).2
  have hdiv : c / S 1 ≤ c := Nat.div_le_self _ _
  have hmod : c % S 1 ≤ c := Nat.mod_le _ _
  unfold F_X4_valueOf
  rw [if_neg (by decide), if_neg (by decide), if_neg (by decide), if_neg (by decide), if_neg (by decide), if_neg (by decide), if_neg (by decide), if_neg (by decide), if_pos (by decide), X_columnOf hR h1 h1' (by omega)]
  simp only [Option.bind_some]
  rw [nI_l (by omega), wrd_2]
theorem X_v3 (hn : 100 ≤ n) (hR : RX σ i S) (hb : b < 2 ^ 20) (hw : okW S b) {c : Nat} (hc : c < S 1 * S 1) : F_X4_valueOf n i (wcd 3) (nI c) σ = some (wrd S c 3, σ) := by
  have h36 := okW_36 hw
  obtain ⟨h1, h1', h2, h11, ht, h12, hcb, h10⟩ := id hw
  have hcl : ∀ t, t < S 2 → S (13 + 4 * t) < 2 ^ 31 := fun t h => by have := (ht t h).1; omega
  have hnv : ∀ t, t < S 2 → S (13 + 4 * t + 1) < 2 ^ 31 := fun t h => by have := (ht t h).2.1; omega
  have htl := tOn_lt S c (S 2)
  have hp2 := pow_64 h2
  have hnvl := nvK_le S c (S 2)
  have hnrl := nr_le S c
  have hpl := pcn_le (tOn S c (S 2)) (by omega)
  have hpl2 := pcn_le (S 12) (by omega)
  have hal := aAll_le (fun t h => (ht t h).2.2.1) (S 2) (Nat.le_refl _)
  have hal2 : S 2 * b ≤ 6 * b := Nat.mul_le_mul_right _ h2
  have hbe := (hcb c (by omega)).2
  have hdiv : c / S 1 ≤ c := Nat.div_le_self _ _
  have hmod : c % S 1 ≤ c := Nat.mod_le _ _
  have ht3 := X_tentsOn (n := n) hn hR h2 hcl (show c < 2 ^ 31 by omega)
  rw [wrd_3]
  generalize tOn S c (S 2) = x at *
  have hj := J_bitCount6 x (by omega) n σ
  unfold F_X4_valueOf
  rw [if_neg (by decide), if_neg (by decide), if_neg (by decide), if_neg (by decide), if_neg (by decide), if_neg (by decide), if_neg (by decide), if_pos (by decide), ht3, Option.bind_some]
  show (F_J6_bitCount_0f7a4 n (nI x) σ).bind _ = _
  rw [hj, Option.bind_some, nI_l (by omega)]
theorem X_v4 (hn : 100 ≤ n) (hR : RX σ i S) (hb : b < 2 ^ 20) (hw : okW S b) {c : Nat} (hc : c < S 1 * S 1) : F_X4_valueOf n i (wcd 4) (nI c) σ = some (wrd S c 4, σ) := by
  have h36 := okW_36 hw
  obtain ⟨h1, h1', h2, h11, ht, h12, hcb, h10⟩ := id hw
  have hcl : ∀ t, t < S 2 → S (13 + 4 * t) < 2 ^ 31 := fun t h => by have := (ht t h).1; omega
  have hnv : ∀ t, t < S 2 → S (13 + 4 * t + 1) < 2 ^ 31 := fun t h => by have := (ht t h).2.1; omega
  have htl := tOn_lt S c (S 2)
  have hp2 := pow_64 h2
  have hnvl := nvK_le S c (S 2)
  have hnrl := nr_le S c
  have hpl := pcn_le (tOn S c (S 2)) (by omega)
  have hpl2 := pcn_le (S 12) (by omega)
  have hal := aAll_le (fun t h => (ht t h).2.2.1) (S 2) (Nat.le_refl _)
  have hal2 : S 2 * b ≤ 6 * b := Nat.mul_le_mul_right _ h2
  have hbe := (hcb c (by omega)).2
  have hdiv : c / S 1 ≤ c := Nat.div_le_self _ _
  have hmod : c % S 1 ≤ c := Nat.mod_le _ _
  unfold F_X4_valueOf
  rw [if_neg (by decide), if_neg (by decide), if_neg (by decide), if_neg (by decide), if_neg (by decide), if_neg (by decide), if_pos (by decide), X_leastNerveOn hn hR h2 hcl hnv (by omega)]
  simp only [Option.bind_some]
  rw [nI_l (by omega), wrd_4]
theorem X_v5 (hn : 100 ≤ n) (hR : RX σ i S) (hb : b < 2 ^ 20) (hw : okW S b) {c : Nat} (hc : c < S 1 * S 1) : F_X4_valueOf n i (wcd 5) (nI c) σ = some (wrd S c 5, σ) := by
  have h36 := okW_36 hw
  obtain ⟨h1, h1', h2, h11, ht, h12, hcb, h10⟩ := id hw
  have hcl : ∀ t, t < S 2 → S (13 + 4 * t) < 2 ^ 31 := fun t h => by have := (ht t h).1; omega
  have hnv : ∀ t, t < S 2 → S (13 + 4 * t + 1) < 2 ^ 31 := fun t h => by have := (ht t h).2.1; omega
  have htl := tOn_lt S c (S 2)
  have hp2 := pow_64 h2
  have hnvl := nvK_le S c (S 2)
  have hnrl := nr_le S c
  have hpl := pcn_le (tOn S c (S 2)) (by omega)
  have hpl2 := pcn_le (S 12) (by omega)
  have hal := aAll_le (fun t h => (ht t h).2.2.1) (S 2) (Nat.le_refl _)
  have hal2 : S 2 * b ≤ 6 * b := Nat.mul_le_mul_right _ h2
  have hbe := (hcb c (by omega)).2
  have hdiv : c / S 1 ≤ c := Nat.div_le_self _ _
  have hmod : c % S 1 ≤ c := Nat.mod_le _ _
  unfold F_X4_valueOf
  rw [if_neg (by decide), if_neg (by decide), if_neg (by decide), if_neg (by decide), if_neg (by decide), if_pos (by decide)]
  simp (disch := omega) only [nI_lit, nI_ge0, nI_clamp, true_and]
  rw [if_pos (by omega), hR.2.2.2.2.2.2.2.2 c (by omega), nI_l (by omega), wrd_5]
theorem X_v6 (hn : 100 ≤ n) (hR : RX σ i S) (hb : b < 2 ^ 20) (hw : okW S b) {c : Nat} (hc : c < S 1 * S 1) (h6 : σ.1 7 6 = nI (nr S c)) : F_X4_valueOf n i (wcd 6) (nI c) σ = some (wrd S c 6, σ) := by
  have h36 := okW_36 hw
  obtain ⟨h1, h1', h2, h11, ht, h12, hcb, h10⟩ := id hw
  have hcl : ∀ t, t < S 2 → S (13 + 4 * t) < 2 ^ 31 := fun t h => by have := (ht t h).1; omega
  have hnv : ∀ t, t < S 2 → S (13 + 4 * t + 1) < 2 ^ 31 := fun t h => by have := (ht t h).2.1; omega
  have htl := tOn_lt S c (S 2)
  have hp2 := pow_64 h2
  have hnvl := nvK_le S c (S 2)
  have hnrl := nr_le S c
  have hpl := pcn_le (tOn S c (S 2)) (by omega)
  have hpl2 := pcn_le (S 12) (by omega)
  have hal := aAll_le (fun t h => (ht t h).2.2.1) (S 2) (Nat.le_refl _)
  have hal2 : S 2 * b ≤ 6 * b := Nat.mul_le_mul_right _ h2
  have hbe := (hcb c (by omega)).2
  have hdiv : c / S 1 ≤ c := Nat.div_le_self _ _
  have hmod : c % S 1 ≤ c := Nat.mod_le _ _
  unfold F_X4_valueOf
  rw [if_neg (by decide), if_neg (by decide), if_neg (by decide), if_neg (by decide), if_pos (by decide), h6, nI_l (by omega), wrd_6]
theorem X_v7 (hn : 100 ≤ n) (hR : RX σ i S) (hb : b < 2 ^ 20) (hw : okW S b) {c : Nat} (hc : c < S 1 * S 1) : F_X4_valueOf n i (wcd 7) (nI c) σ = some (wrd S c 7, σ) := by
  have h36 := okW_36 hw
  obtain ⟨h1, h1', h2, h11, ht, h12, hcb, h10⟩ := id hw
  have hcl : ∀ t, t < S 2 → S (13 + 4 * t) < 2 ^ 31 := fun t h => by have := (ht t h).1; omega
  have hnv : ∀ t, t < S 2 → S (13 + 4 * t + 1) < 2 ^ 31 := fun t h => by have := (ht t h).2.1; omega
  have htl := tOn_lt S c (S 2)
  have hp2 := pow_64 h2
  have hnvl := nvK_le S c (S 2)
  have hnrl := nr_le S c
  have hpl := pcn_le (tOn S c (S 2)) (by omega)
  have hpl2 := pcn_le (S 12) (by omega)
  have hal := aAll_le (fun t h => (ht t h).2.2.1) (S 2) (Nat.le_refl _)
  have hal2 : S 2 * b ≤ 6 * b := Nat.mul_le_mul_right _ h2
  have hbe := (hcb c (by omega)).2
  have hdiv : c / S 1 ≤ c := Nat.div_le_self _ _
  have hmod : c % S 1 ≤ c := Nat.mod_le _ _
  unfold F_X4_valueOf
  have hin : inQ (S 1) (2 ^ c) := fun j hj => by
    rw [Nat.testBit_two_pow, decide_eq_true_iff] at hj
    omega
  rw [if_neg (by decide), if_neg (by decide), if_neg (by decide), if_pos (by decide), show (1 : Int64) = lN 1 from rfl, wb_shl 1 (show c < 64 by omega), Nat.one_mul, X_spread hR h1 h1' hin]
  simp only [Option.bind_some]
  have hbl := bm_lt h36
  have hsl : sprN (S 1) (2 ^ c) < 2 ^ 36 := by unfold sprN; exact Nat.and_lt_two_pow _ (fc_lt (S 1) (by omega)).2
  have hal : sprN (S 1) (2 ^ c) &&& bm S < 2 ^ 36 := and_lt hsl
  rw [hR.2.2.2.2.2.2.1, wb_and (by omega) (by omega), J_bitCount (by omega), bush_mask h1 h1' hc, msk_cnt _ (by omega) h1 c hc]
  simp only [Option.bind_some]
  have hbs : cn4 (S 1) c (bsh S c 0) (bsh S c 1) (bsh S c 2) (bsh S c 3) = bsK S c 4 := by
    unfold cn4 bsh
    simp only [decide_eq_true_iff, bsK]
  have := bsK_le S c 4
  rw [hbs, nI_l (by omega), wrd_7]
theorem X_v8 (hn : 100 ≤ n) (hR : RX σ i S) (hb : b < 2 ^ 20) (hw : okW S b) {c : Nat} (hc : c < S 1 * S 1) : F_X4_valueOf n i (wcd 8) (nI c) σ = some (wrd S c 8, σ) := by
  have h36 := okW_36 hw
  obtain ⟨h1, h1', h2, h11, ht, h12, hcb, h10⟩ := id hw
  have hcl : ∀ t, t < S 2 → S (13 + 4 * t) < 2 ^ 31 := fun t h => by have := (ht t h).1; omega
  have hnv : ∀ t, t < S 2 → S (13 + 4 * t + 1) < 2 ^ 31 := fun t h => by have := (ht t h).2.1; omega
  have htl := tOn_lt S c (S 2)
  have hp2 := pow_64 h2
  have hnvl := nvK_le S c (S 2)
  have hnrl := nr_le S c
  have hpl := pcn_le (tOn S c (S 2)) (by omega)
  have hpl2 := pcn_le (S 12) (by omega)
  have hal := aAll_le (fun t h => (ht t h).2.2.1) (S 2) (Nat.le_refl _)
  have hal2 : S 2 * b ≤ 6 * b := Nat.mul_le_mul_right _ h2
  have hbe := (hcb c (by omega)).2
  have hdiv : c / S 1 ≤ c := Nat.div_le_self _ _
  have hmod : c % S 1 ≤ c := Nat.mod_le _ _
  unfold F_X4_valueOf
  rw [if_neg (by decide), if_neg (by decide), if_pos (by decide), hR.2.2.2.2.1, J_bitCount6 _ (by omega)]
  simp only [Option.bind_some]
  rw [nI_l (by omega), wrd_8]
theorem X_v9 (hn : 100 ≤ n) (hR : RX σ i S) (hb : b < 2 ^ 20) (hw : okW S b) {c : Nat} (hc : c < S 1 * S 1) : F_X4_valueOf n i (wcd 9) (nI c) σ = some (wrd S c 9, σ) := by
  have h36 := okW_36 hw
  obtain ⟨h1, h1', h2, h11, ht, h12, hcb, h10⟩ := id hw
  have hcl : ∀ t, t < S 2 → S (13 + 4 * t) < 2 ^ 31 := fun t h => by have := (ht t h).1; omega
  have hnv : ∀ t, t < S 2 → S (13 + 4 * t + 1) < 2 ^ 31 := fun t h => by have := (ht t h).2.1; omega
  have htl := tOn_lt S c (S 2)
  have hp2 := pow_64 h2
  have hnvl := nvK_le S c (S 2)
  have hnrl := nr_le S c
  have hpl := pcn_le (tOn S c (S 2)) (by omega)
  have hpl2 := pcn_le (S 12) (by omega)
  have hal := aAll_le (fun t h => (ht t h).2.2.1) (S 2) (Nat.le_refl _)
  have hal2 : S 2 * b ≤ 6 * b := Nat.mul_le_mul_right _ h2
  have hbe := (hcb c (by omega)).2
  have hdiv : c / S 1 ≤ c := Nat.div_le_self _ _
  have hmod : c % S 1 ≤ c := Nat.mod_le _ _
  unfold F_X4_valueOf
  rw [if_neg (by decide), if_pos (by decide), X_askedInAll hn hR h2]
  simp only [Option.bind_some]
  rw [nI_l (by omega), wrd_9]
theorem X_v10 (hn : 100 ≤ n) (hR : RX σ i S) (hb : b < 2 ^ 20) (hw : okW S b) {c : Nat} (hc : c < S 1 * S 1) : F_X4_valueOf n i (wcd 10) (nI c) σ = some (wrd S c 10, σ) := by
  have h36 := okW_36 hw
  obtain ⟨h1, h1', h2, h11, ht, h12, hcb, h10⟩ := id hw
  have hcl : ∀ t, t < S 2 → S (13 + 4 * t) < 2 ^ 31 := fun t h => by have := (ht t h).1; omega
  have hnv : ∀ t, t < S 2 → S (13 + 4 * t + 1) < 2 ^ 31 := fun t h => by have := (ht t h).2.1; omega
  have htl := tOn_lt S c (S 2)
  have hp2 := pow_64 h2
  have hnvl := nvK_le S c (S 2)
  have hnrl := nr_le S c
  have hpl := pcn_le (tOn S c (S 2)) (by omega)
  have hpl2 := pcn_le (S 12) (by omega)
  have hal := aAll_le (fun t h => (ht t h).2.2.1) (S 2) (Nat.le_refl _)
  have hal2 : S 2 * b ≤ 6 * b := Nat.mul_le_mul_right _ h2
  have hbe := (hcb c (by omega)).2
  have hdiv : c / S 1 ≤ c := Nat.div_le_self _ _
  have hmod : c % S 1 ≤ c := Nat.mod_le _ _
  unfold F_X4_valueOf
  rw [if_pos (by decide), hR.2.2.2.1, nI_l (by omega), wrd_10]
theorem X_valueOf (hn : 100 ≤ n) (hR : RX σ i S) (hb : b < 2 ^ 20) (hw : okW S b) {c : Nat} (hc : c < S 1 * S 1) {k : Nat} (hk : k < 11) (h6 : k = 6 → σ.1 7 6 = nI (nr S c)) : F_X4_valueOf n i (wcd k) (nI c) σ = some (wrd S c k, σ) := by
  have hcase : k = 0 ∨ k = 1 ∨ k = 2 ∨ k = 3 ∨ k = 4 ∨ k = 5 ∨ k = 6 ∨ k = 7 ∨ k = 8 ∨ k = 9 ∨ k = 10 := by omega
  rcases hcase with q | q | q | q | q | q | q | q | q | q | q <;> subst q
  · exact X_v0 hn hR hb hw hc
  · exact X_v1 hn hR hb hw hc
  · exact X_v2 hn hR hb hw hc
  · exact X_v3 hn hR hb hw hc
  · exact X_v4 hn hR hb hw hc
  · exact X_v5 hn hR hb hw hc
  · exact X_v6 hn hR hb hw hc (h6 rfl)
  · exact X_v7 hn hR hb hw hc
  · exact X_v8 hn hR hb hw hc
  · exact X_v9 hn hR hb hw hc
  · exact X_v10 hn hR hb hw hc
end XS
