def ivd (d : Nat) : Nat := if d = 0 then 1 else if d = 1 then 0 else if d = 2 then 3 else 2
theorem nb_ivd : ∀ sd, sd < 7 → 2 ≤ sd → ∀ c, c < sd * sd → ∀ d, d < 4 → nb sd c d ≠ 99 → nb sd (nb sd c d) (ivd d) = c := by decide +kernel
theorem nb_sym (sd : Nat) (h : sd < 7) (h1 : 2 ≤ sd) (c : Nat) (hc : c < sd * sd) (d : Nat) (hd : d < 4) (hn : nb sd c d ≠ 99) : ∃ e, e < 4 ∧ nb sd (nb sd c d) e = c := ⟨ivd d, by unfold ivd; split; decide; split; decide; split <;> decide, nb_ivd sd h h1 c hc d hd hn⟩
theorem bm_bit {S : Nat → Nat} {c : Nat} : (bm S).testBit c = true ↔ c < S 1 * S 1 ∧ S (37 + c) ≠ 0 := by
  rw [bmK_bit, decide_eq_true_iff]
/-- the cells of way k at most -/
def lvl (sd : Nat) (D : Nat → Nat) (k m : Nat) : Prop := ∀ c, m.testBit c = true ↔ c < sd * sd ∧ D c ≠ 99 ∧ D c ≤ k
theorem lvl_inQ {sd : Nat} {D : Nat → Nat} {k m : Nat} (h : lvl sd D k m) : inQ sd m := fun c hc => ((h c).mp hc).1
theorem lvl_step {sd : Nat} {bu : Nat → Nat} {fr : Nat} {D : Nat → Nat} (h1 : 2 ≤ sd) (h2 : sd ≤ 6) (hD : isD sd bu fr D) {k m B : Nat} (hk : k < 98) (hm : lvl sd D k m) (hB : ∀ c, B.testBit c = true ↔ c < sd * sd ∧ bu c ≠ 0) (hBl : B < 2 ^ 64) : lvl sd D (k + 1) (m ||| (sprN sd m &&& (B ^^^ allO))) := by
  have h36 : sd * sd ≤ 36 := by
    have := Nat.mul_le_mul h2 h2
    omega
  intro c
  rw [Nat.testBit_or, Nat.testBit_and, Bool.or_eq_true, Bool.and_eq_true, hm c, sprN_bit h1 h2 (lvl_inQ hm)]
  constructor
  · rintro (h | ⟨⟨hc, d, hd, hn, hb⟩, hnb⟩)
    · exact ⟨h.1, h.2.1, by omega⟩
    · have hu := (hm _).mp hb
      rw [not_bit (by omega)] at hnb
      have hfree : bu c = 0 := by
        by_cases e : bu c = 0
        · exact e
        · have := (hB c).mpr ⟨hc, e⟩
          rw [this] at hnb; cases hnb
      obtain ⟨e, he, hs⟩ := nb_sym sd (by omega) h1 c hc d hd hn
      have := hD.2.2.1 _ e hu.1 he hu.2.1 (by rw [hs]; omega) (by rw [hs]; exact hfree)
      rw [hs] at this
      exact ⟨hc, this.1, by omega⟩
  · rintro ⟨hc, h9, hle⟩
    by_cases e : D c ≤ k
    · exact Or.inl ⟨hc, h9, e⟩
    · right
      have hne : c ≠ fr := fun q => by rw [q, hD.1] at e; omega
      obtain ⟨hfree, u, d, hu, hd, hn, hu9, hDe⟩ := hD.2.1 c hc hne h9
      refine ⟨⟨hc, ?_⟩, ?_⟩
      · obtain ⟨e', he', hs⟩ := nb_sym sd (by omega) h1 u hu d hd (by rw [hn]; omega)
        rw [hn] at hs
        exact ⟨e', he', by rw [hs]; omega, by rw [hs]; exact (hm u).mpr ⟨hu, hu9, by omega⟩⟩
      · rw [not_bit (by omega)]
        cases eb : B.testBit c with
        | false => rfl
        | true => exact absurd hfree ((hB c).mp eb).2
theorem lvl_stop {sd : Nat} {bu : Nat → Nat} {fr : Nat} {D : Nat → Nat} (hD : isD sd bu fr D) {k m : Nat} (h0 : lvl sd D k m) (h1 : lvl sd D (k + 1) m) : ∀ c, c < sd * sd → D c ≠ 99 → D c ≤ k := by
  have key : ∀ j c, c < sd * sd → D c ≠ 99 → D c = k + 1 + j → False := by
    intro j
    induction j with
    | zero =>
      intro c hc h9 e
      have := (h0 c).mp ((h1 c).mpr ⟨hc, h9, by omega⟩)
      omega
    | succ j ih =>
      intro c hc h9 e
      have hne : c ≠ fr := fun q => by rw [q, hD.1] at e; omega
      obtain ⟨_, u, d, hu, _, _, hu9, hDe⟩ := hD.2.1 c hc hne h9
      exact ih u hu hu9 (by omega)
  intro c hc h9
  by_cases e : D c ≤ k
  · exact e
  · exact (key (D c - (k + 1)) c hc h9 (by omega)).elim
theorem eq_of_bits {a b : Nat} (h : ∀ c, a.testBit c = true ↔ b.testBit c = true) : a = b := by
  apply Nat.eq_of_testBit_eq
  intro c
  cases ea : a.testBit c with
  | true => exact ((h c).mp ea).symm
  | false =>
    cases eb : b.testBit c with
    | false => rfl
    | true => rw [(h c).mpr eb] at ea; cases ea
section XD
variable {n b i : Nat} {S : Nat → Nat} {σ : PS}
theorem X_dist8 (hR : RX σ i S) (h1 : 2 ≤ S 1) (h2 : S 1 ≤ 6) {fr tm : Nat} {D : Nat → Nat} (hD : isD (S 1) (fun c => S (37 + c)) fr D) (ht : inQ (S 1) tm) : ∀ (K k m : Nat), lvl (S 1) D k m → (∀ c, tm.testBit c = true → D c ≠ 99 → k ≤ D c) → k ≤ 37 → 39 ≤ K + k → (∃ k', k' < 36 ∧ L_X10_distance_8 n i K (lN tm) (lN m) (nI k) σ = some (0, nI k', σ) ∧ (∃ c, tm.testBit c = true ∧ D c = k') ∧ ∀ c, tm.testBit c = true → D c ≠ 99 → k' ≤ D c) ∨ ((∃ e, e ≠ 0 ∧ L_X10_distance_8 n i K (lN tm) (lN m) (nI k) σ = some (e, 0, σ)) ∧ ∀ c, tm.testBit c = true → D c = 99)
  | 0, k, m, hm, hlo, hk, hK => by omega
  | K + 1, k, m, hm, hlo, hk, hK => by
    have h36 : S 1 * S 1 ≤ 36 := by
      have := Nat.mul_le_mul h2 h2
      omega
    have hml := inQ_lt h36 (lvl_inQ hm)
    have htl := inQ_lt h36 ht
    have hbl : bm S < 2 ^ (S 1 * S 1) := bmK_lt S _
    have hbl2 : (2 : Nat) ^ (S 1 * S 1) ≤ 2 ^ 36 := Nat.pow_le_pow_right (by decide) h36
    rw [L_X10_distance_8]
    by_cases e37 : 36 < k
    · rw [show (36 : Int32) = nI 36 from rfl, if_pos (nI_lt e37 (by omega))]
      refine Or.inr ⟨⟨2, by decide, rfl⟩, fun c hc => ?_⟩
      by_cases e : D c = 99
      · exact e
      · have := hlo c hc e
        have := hD.2.2.2 c (ht c hc) e
        omega
    · rw [show (36 : Int32) = nI 36 from rfl, if_neg (nI_nlt (by omega) (by omega)), wb_and (by omega) (by omega)]
      have hand : (m &&& tm) < 2 ^ 64 := and_lt (by omega)
      have hz0 : lg_cmp (lN (m &&& tm)) (0 : Int64) = 0 ↔ m &&& tm = 0 := (lg_cmp_eq _ _).trans (lN_0 hand)
      by_cases e0 : m &&& tm = 0
      · rw [if_pos (hz0.mpr e0), X_spread hR h1 h2 (lvl_inQ hm)]
        simp only [Option.bind_some]
        rw [hR.2.2.2.2.2.2.1, allO_is, lN_xor]
        have hsl : sprN (S 1) m < 2 ^ 64 := by
          have : sprN (S 1) m < 2 ^ 36 := by unfold sprN; exact Nat.and_lt_two_pow _ (fc_lt (S 1) (by omega)).2
          omega
        rw [wb_and hsl (not_lt (show bm S < 2 ^ 64 by omega)), wb_or (by omega) (and_lt hsl)]
        have hnew := lvl_step h1 h2 hD (by omega) hm (B := bm S) (fun c => bm_bit) (by omega)
        have hlo' : ∀ c, tm.testBit c = true → D c ≠ 99 → k + 1 ≤ D c := by
          intro c hc h9
          have := hlo c hc h9
          by_cases e : D c = k
          · have hb := (hm c).mpr ⟨ht c hc, h9, by omega⟩
            have : (m &&& tm).testBit c = true := by rw [Nat.testBit_and, hb, hc]; rfl
            rw [e0, Nat.zero_testBit] at this
            cases this
          · omega
        have hnl : m ||| (sprN (S 1) m &&& (bm S ^^^ allO)) < 2 ^ 64 := Nat.or_lt_two_pow (by omega) (and_lt hsl)
        generalize m ||| (sprN (S 1) m &&& (bm S ^^^ allO)) = m' at hnew hnl ⊢
        have hz1 : lg_cmp (lN m') (lN m) = 0 ↔ m' = m := (lg_cmp_eq _ _).trans (lN_inj hnl (by omega))
        by_cases es : m' = m
        · rw [if_pos (hz1.mpr es)]
          subst es
          refine Or.inr ⟨⟨1, by decide, rfl⟩, fun c hc => ?_⟩
          by_cases e : D c = 99
          · exact e
          · have a := lvl_stop hD hm hnew c (ht c hc) e
            have b := hlo' c hc e
            omega
        · rw [if_neg (fun q => es (hz1.mp q)), show (1 : Int32) = nI 1 from rfl, nI_add]
          exact X_dist8 hR h1 h2 hD ht K (k + 1) m' hnew hlo' (by omega) (by omega)
      · rw [if_neg (fun q => e0 (hz0.mp q))]
        have : ∃ c, (m &&& tm).testBit c = true := by
          apply Classical.byContradiction
          intro hne
          apply e0
          apply eq_of_bits
          intro c
          rw [Nat.zero_testBit]
          exact ⟨fun h => absurd ⟨c, h⟩ hne, fun h => by cases h⟩
        obtain ⟨c, hc⟩ := this
        rw [Nat.testBit_and, Bool.and_eq_true] at hc
        have hl := (hm c).mp hc.1
        have hge := hlo c hc.2 hl.2.1
        have hdc : D c = k := by omega
        have := hD.2.2.2 c hl.1 hl.2.1
        exact Or.inl ⟨k, by omega, rfl, ⟨c, hc.2, hdc⟩, hlo⟩
theorem X_distance (hn : 100 ≤ n) (hR : RX σ i S) (h1 : 2 ≤ S 1) (h2 : S 1 ≤ 6) {fr tm : Nat} {D : Nat → Nat} (hf : fr < S 1 * S 1) (hD : isD (S 1) (fun c => S (37 + c)) fr D) (ht : inQ (S 1) tm) : (∃ k, k < 36 ∧ F_X10_distance n i (nI fr) (lN tm) σ = some (nI k, σ) ∧ (∃ c, tm.testBit c = true ∧ D c = k) ∧ ∀ c, tm.testBit c = true → D c ≠ 99 → k ≤ D c) ∨ (F_X10_distance n i (nI fr) (lN tm) σ = some (m1, σ) ∧ ∀ c, tm.testBit c = true → D c = 99) := by
  have h36 : S 1 * S 1 ≤ 36 := by
    have := Nat.mul_le_mul h2 h2
    omega
  have hl0 : lvl (S 1) D 0 (2 ^ fr) := by
    intro c
    rw [Nat.testBit_two_pow, decide_eq_true_iff]
    constructor
    · intro e; subst e; rw [hD.1]; exact ⟨hf, by decide, Nat.le_refl _⟩
    · rintro ⟨hc, h9, hle⟩
      apply Classical.byContradiction
      intro hne
      obtain ⟨_, u, d, _, _, _, _, e⟩ := hD.2.1 c hc (fun q => hne q.symm) h9
      omega
  unfold F_X10_distance
  rw [show (1 : Int64) = lN 1 from rfl, wb_shl 1 (show fr < 64 by omega), Nat.one_mul, show (0 : Int32) = nI 0 from rfl]
  rcases X_dist8 (n := n) hR h1 h2 hD ht n 0 (2 ^ fr) hl0 (fun c _ _ => Nat.zero_le _) (by omega) (by omega) with ⟨k, hk, e, a, b⟩ | ⟨⟨e0, he, e⟩, a⟩
  · refine Or.inl ⟨k, hk, ?_, a, b⟩
    rw [e]
    rfl
  · refine Or.inr ⟨?_, a⟩
    rw [e]
    simp only [Option.bind_some]
    rw [if_neg he]
    split <;> rfl
theorem bm_lt {S : Nat → Nat} (h36 : S 1 * S 1 ≤ 36) : bm S < 2 ^ 36 := Nat.lt_of_lt_of_le (bmK_lt S _) (Nat.pow_le_pow_right (by decide) h36)
theorem X_isFree (hR : RX σ i S) (h36 : S 1 * S 1 ≤ 36) {c : Nat} (hc : c < S 1 * S 1) : F_X10_isFree n i (nI c) σ = some (if S (37 + c) = 0 then 1 else 0, σ) := by
  have hb := bm_lt h36
  unfold F_X10_isFree
  rw [hR.2.2.2.2.2.2.1, wb_bit (by omega) (by omega)]
  have hz : lg_cmp (lN (bm S / 2 ^ c % 2)) (0 : Int64) = 0 ↔ bm S / 2 ^ c % 2 = 0 := (lg_cmp_eq _ _).trans (lN_0 (by omega))
  have ht : (bm S).testBit c = decide (bm S / 2 ^ c % 2 = 1) := Nat.testBit_eq_decide_div_mod_eq
  by_cases e : S (37 + c) = 0
  · rw [if_pos e, if_pos (hz.mpr ?_)]
    have : ¬ (bm S).testBit c = true := fun h => (bm_bit.mp h).2 e
    rw [ht, decide_eq_true_iff] at this
    omega
  · rw [if_neg e, if_neg (fun q => ?_)]
    have := bm_bit.mpr ⟨hc, e⟩
    rw [ht, decide_eq_true_iff] at this
    have := hz.mp q
    omega
theorem X_beside (hR : RX σ i S) (h1 : 2 ≤ S 1) (h2 : S 1 ≤ 6) {c d : Nat} (hc : c < S 1 * S 1) (hd : d < 4) : F_X10_beside n i (nI c) (nI d) σ = some (oI (nb (S 1) c d), σ) := by
  have h36 : S 1 * S 1 ≤ 36 := by
    have := Nat.mul_le_mul h2 h2
    omega
  unfold F_X10_beside
  rw [hR.1, hR.2.1]
  simp (disch := omega) only [nI_lit, nI_eq, nI_rem, nI_leI, nI_ltI, nI_add, neg1_m, nb]
  generalize S 1 * S 1 = q at *
  have h0 : c % S 1 < S 1 := Nat.mod_lt _ (by omega)
  have h3 : c % S 1 ≤ c := Nat.mod_le _ _
  rw [if_neg (by omega), if_neg (by omega)]
  by_cases e0 : d = 0
  · simp only [e0, if_true]
    simp (disch := omega) only [nI_leI]
    by_cases e : c % S 1 = 0
    · rw [if_pos (by omega), if_pos e]; rfl
    · rw [if_neg (by omega), if_neg e, nI_sub (by omega)]
      unfold oI
      rw [if_neg (by omega)]
  · simp only [e0, if_false]
    by_cases e1 : d = 1
    · simp only [e1, if_true]
      rw [nI_sub (by omega)]
      simp (disch := omega) only [nI_leI]
      by_cases e : c % S 1 = S 1 - 1
      · rw [if_pos (by omega), if_pos e]; rfl
      · rw [if_neg (by omega), if_neg e]
        unfold oI
        rw [if_neg (by omega)]
    · simp only [e1, if_false]
      by_cases e2 : d = 2
      · simp only [e2, if_true]
        by_cases e : c < S 1
        · rw [if_pos e, if_pos e]; rfl
        · rw [if_neg e, if_neg e, nI_sub (by omega)]
          unfold oI
          rw [if_neg (by omega)]
      · have e3 : d = 3 := by omega
        simp only [e2, if_false]
        rw [if_pos e3]
        by_cases e : c + S 1 < q
        · rw [if_neg (by omega), if_pos e]
          unfold oI
          rw [if_neg (by omega)]
        · rw [if_pos (by omega), if_neg e]; rfl
/-- where one comes by a way out, not through a bush; 99: nowhere -/
def ps (S : Nat → Nat) (c d : Nat) : Nat := if nb (S 1) c d = 99 then 99 else if S (37 + nb (S 1) c d) = 0 then nb (S 1) c d else 99
theorem X_passable (hR : RX σ i S) (h1 : 2 ≤ S 1) (h2 : S 1 ≤ 6) {c d : Nat} (hc : c < S 1 * S 1) (hd : d < 4) : F_X10_passable n i (nI c) (nI d) σ = some (oI (ps S c d), σ) := by
  have h36 : S 1 * S 1 ≤ 36 := by
    have := Nat.mul_le_mul h2 h2
    omega
  unfold F_X10_passable ps
  rw [X_beside hR h1 h2 hc hd]
  simp only [Option.bind_some]
  by_cases e : nb (S 1) c d = 99
  · rw [if_pos e, e]; rfl
  · have hl := nb_lt hc e
    have ho : oI (nb (S 1) c d) = nI (nb (S 1) c d) := if_neg e
    rw [if_neg e, ho, if_neg (show ¬ nI (nb (S 1) c d) = (-1 : Int32) from m1_ne (by omega)), X_isFree hR h36 hl]
    simp only [Option.bind_some]
    by_cases eb : S (37 + nb (S 1) c d) = 0
    · simp only [eb, if_true]
      rw [if_neg (by decide), ho]
    · simp only [eb, if_false, if_true]
      rw [if_neg (show ¬ nI d = (4 : Int32) from fun q => by have := nI_inj (show d < 2 ^ 31 by omega) (show 4 < 2 ^ 31 by decide) q; omega)]
      rfl
end XD
