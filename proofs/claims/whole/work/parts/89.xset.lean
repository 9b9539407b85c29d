/-! Acts by hand: one place of a world is changed. -/
theorem bm_flip {S : Nat → Nat} {c : Nat} (hc : c < S 1 * S 1) (h1 : S (37 + c) ≤ 1) : bm (un S (37 + c) (1 - S (37 + c))) = bm S ^^^ 2 ^ c := by
  have e1 : un S (37 + c) (1 - S (37 + c)) 1 = S 1 := un_ne _ _ (by omega)
  apply eq_of_bits
  intro j
  rw [bm_bit, e1, Nat.testBit_xor, Nat.testBit_two_pow]
  by_cases q : c = j
  · subst q
    rw [un_eq]
    have hb : (bm S).testBit c = decide (c < S 1 * S 1 ∧ S (37 + c) ≠ 0) := bmK_bit S c _
    rw [hb]
    by_cases z : S (37 + c) = 0
    · simp [z, hc]
    · have z1 : S (37 + c) = 1 := by omega
      simp [z1, hc]
  · rw [un_ne _ _ (by omega)]
    have hd : decide (c = j) = false := decide_eq_false q
    rw [hd, Bool.xor_false, bm_bit]
section XW
variable {i : Nat} {S : Nat → Nat} {σ : PS}
theorem RX_question (hR : RX σ i S) (h36 : S 1 * S 1 ≤ 36) (h2 : S 2 ≤ 6) (v : Nat) : RX (psI σ i 2 (nI v)) i (un S 11 v) := by
  obtain ⟨r0, r1, r2, r3, r4, r5, r6, rt, rb⟩ := hR
  have hcell : ∀ j, j ≠ 11 → un S 11 v j = S j := fun j h1 => un_ne _ _ h1
  have e1 := hcell 1 (by decide)
  have e2 := hcell 2 (by decide)
  have e10 := hcell 10 (by decide)
  have e12 := hcell 12 (by decide)
  have eb : bm (un S 11 v) = bm S := bm_congr h36 e1 (fun c hc => hcell _ (by omega))
  refine ⟨?_, ?_, ?_, ?_, ?_, ?_, ?_, fun u hu => ?_, fun d hd => ?_⟩
  · simp [psI_get, e1, r0]
  · simp [psI_get, e1, r1]
  · rw [psI_eq, if_pos rfl, un_eq]
  · simp [psI_get, e10, r3]
  · simp [psI_get, e12, r4]
  · simp [psI_get, e2, r5]
  · rw [eb]; exact r6
  · rw [e2] at hu
    rw [hcell _ (by omega), hcell _ (by omega), hcell _ (by omega), hcell _ (by omega), psI_other (by omega), psI_other (by omega), psI_other (by omega), psI_other (by omega)]
    exact rt u hu
  · rw [hcell _ (by omega), psI_other (by omega)]
    exact rb d hd
theorem RX_tentCell (hR : RX σ i S) (h36 : S 1 * S 1 ≤ 36) (h2 : S 2 ≤ 6) {t : Nat} (ht : t < S 2) (v : Nat) : RX (psI σ (i + 1) t (nI v)) i (un S (13 + 4 * t) v) := by
  obtain ⟨r0, r1, r2, r3, r4, r5, r6, rt, rb⟩ := hR
  have hcell : ∀ j, j ≠ 13 + 4 * t → un S (13 + 4 * t) v j = S j := fun j h1 => un_ne _ _ h1
  have e1 := hcell 1 (by omega)
  have e2 := hcell 2 (by omega)
  have e10 := hcell 10 (by omega)
  have e11 := hcell 11 (by omega)
  have e12 := hcell 12 (by omega)
  have eb : bm (un S (13 + 4 * t) v) = bm S := bm_congr h36 e1 (fun c hc => hcell _ (by omega))
  have n1 : i ≠ i + 1 := by omega
  refine ⟨?_, ?_, ?_, ?_, ?_, ?_, ?_, fun u hu => ?_, fun d hd => ?_⟩
  · rw [psI_other n1, e1]; exact r0
  · rw [psI_other n1, e1]; exact r1
  · rw [psI_other n1, e11]; exact r2
  · rw [psI_other n1, e10]; exact r3
  · rw [psI_other n1, e12]; exact r4
  · rw [psI_other n1, e2]; exact r5
  · rw [eb]; exact r6
  · rw [e2] at hu
    rw [hcell (13 + 4 * u + 1) (by omega), hcell (13 + 4 * u + 2) (by omega), hcell (13 + 4 * u + 3) (by omega), psI_other (show i + 2 ≠ i + 1 by omega), psI_other (show i + 3 ≠ i + 1 by omega), psI_other (show i + 4 ≠ i + 1 by omega), psI_eq]
    have := rt u hu
    refine ⟨?_, this.2⟩
    by_cases q : u = t
    · subst q; rw [if_pos rfl, un_eq]
    · rw [if_neg q, hcell _ (by omega)]; exact this.1
  · rw [hcell _ (by omega), psI_other (by omega)]
    exact rb d hd
theorem RX_nerve (hR : RX σ i S) (h36 : S 1 * S 1 ≤ 36) (h2 : S 2 ≤ 6) {t : Nat} (ht : t < S 2) (v : Nat) : RX (psI σ (i + 2) t (nI v)) i (un S (13 + 4 * t + 1) v) := by
  obtain ⟨r0, r1, r2, r3, r4, r5, r6, rt, rb⟩ := hR
  have hcell : ∀ j, j ≠ 13 + 4 * t + 1 → un S (13 + 4 * t + 1) v j = S j := fun j h1 => un_ne _ _ h1
  have e1 := hcell 1 (by omega)
  have e2 := hcell 2 (by omega)
  have e10 := hcell 10 (by omega)
  have e11 := hcell 11 (by omega)
  have e12 := hcell 12 (by omega)
  have eb : bm (un S (13 + 4 * t + 1) v) = bm S := bm_congr h36 e1 (fun c hc => hcell _ (by omega))
  have n1 : i ≠ i + 2 := by omega
  refine ⟨?_, ?_, ?_, ?_, ?_, ?_, ?_, fun u hu => ?_, fun d hd => ?_⟩
  · rw [psI_other n1, e1]; exact r0
  · rw [psI_other n1, e1]; exact r1
  · rw [psI_other n1, e11]; exact r2
  · rw [psI_other n1, e10]; exact r3
  · rw [psI_other n1, e12]; exact r4
  · rw [psI_other n1, e2]; exact r5
  · rw [eb]; exact r6
  · rw [e2] at hu
    rw [hcell (13 + 4 * u) (by omega), hcell (13 + 4 * u + 2) (by omega), hcell (13 + 4 * u + 3) (by omega), psI_other (show i + 1 ≠ i + 2 by omega), psI_other (show i + 3 ≠ i + 2 by omega), psI_other (show i + 4 ≠ i + 2 by omega), psI_eq]
    have := rt u hu
    refine ⟨this.1, ?_, this.2.2⟩
    by_cases q : u = t
    · subst q; rw [if_pos rfl, un_eq]
    · rw [if_neg q, hcell _ (by omega)]; exact this.2.1
  · rw [hcell _ (by omega), psI_other (by omega)]
    exact rb d hd
theorem RX_bush (hR : RX σ i S) (h36 : S 1 * S 1 ≤ 36) (h2 : S 2 ≤ 6) {c : Nat} (hc : c < S 1 * S 1) (h1 : S (37 + c) ≤ 1) : RX (psJ σ i 6 (lN (bm S ^^^ 2 ^ c))) i (un S (37 + c) (1 - S (37 + c))) := by
  obtain ⟨r0, r1, r2, r3, r4, r5, r6, rt, rb⟩ := hR
  have hcell : ∀ j, j ≠ 37 + c → un S (37 + c) (1 - S (37 + c)) j = S j := fun j h1 => un_ne _ _ h1
  have e1 := hcell 1 (by omega)
  have e2 := hcell 2 (by omega)
  have e10 := hcell 10 (by omega)
  have e11 := hcell 11 (by omega)
  have e12 := hcell 12 (by omega)
  refine ⟨?_, ?_, ?_, ?_, ?_, ?_, ?_, fun u hu => ?_, fun d hd => ?_⟩
  · rw [psJ_I, e1]; exact r0
  · rw [psJ_I, e1]; exact r1
  · rw [psJ_I, e11]; exact r2
  · rw [psJ_I, e10]; exact r3
  · rw [psJ_I, e12]; exact r4
  · rw [psJ_I, e2]; exact r5
  · rw [psJ_eq, if_pos rfl, bm_flip hc h1]
  · rw [e2] at hu
    rw [psJ_I, hcell _ (by omega), hcell _ (by omega), hcell _ (by omega), hcell _ (by omega)]
    exact rt u hu
  · rw [psJ_I, hcell _ (by omega)]
    exact rb d hd
end XW
