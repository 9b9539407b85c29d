/-! The calls that read alone: both sides answer alike. -/
/-- whether x is one of the first m -/
def isI (m : Nat) (x : Int32) : Int32 := if x < 0 then 0 else if nI m ≤ x then 0 else 1
theorem isI_one {m : Nat} {x : Int32} (hm : m < 2 ^ 31) (h : ¬ isI m x = 0) : ∃ k, k < m ∧ x = nI k ∧ isI m x = 1 := by
  have h' : isI m x = if x < 0 then 0 else if nI m ≤ x then 0 else 1 := rfl
  by_cases e : x < 0
  · rw [h', if_pos e] at h; exact absurd rfl h
  · obtain ⟨k, hk, rfl⟩ := nI_of e
    rw [if_neg e] at h'
    by_cases q : nI m ≤ nI k
    · rw [h', if_pos q] at h; exact absurd rfl h
    · rw [if_neg q] at h'
      refine ⟨k, ?_, rfl, h'⟩
      by_cases z : k < m
      · exact z
      · exact absurd (nI_le (by omega) hk) q
section OT
variable {n i : Nat} {S : Nat → Nat} {σ : PS}
theorem X_hasTent (hR : RX σ i S) (x : Int32) : F_X10_hasTent n i x σ = some (isI (S 2) x, σ) := by
  unfold F_X10_hasTent isI
  rw [hR.2.2.2.2.2.1]
  split
  · rfl
  · split <;> rfl
theorem M_isTent (hS : rowN σ 259 S) (x : Int32) : F_X12_isTent n x σ = some (isI (S 2) x, σ) := by
  unfold F_X12_isTent isI
  rw [rowN_get hS]
  split
  · rfl
  · split <;> rfl
theorem X_hasCell (hR : RX σ i S) (x : Int32) : F_X10_hasCell n i x σ = some (isI (S 1 * S 1) x, σ) := by
  unfold F_X10_hasCell isI
  rw [hR.2.1]
  split
  · rfl
  · split <;> rfl
theorem M_isCell (hS : rowN σ 259 S) (x : Int32) : F_X12_isCell n x σ = some (isI (S 1 * S 1) x, σ) := by
  unfold F_X12_isCell isI
  split
  · rfl
  · rw [M_cells hS, Option.bind_some]
    split <;> rfl
theorem M_in_neg {x : Int32} (h : x < 0) {lo hi : Nat} (hl : lo < 2 ^ 31) : F_X12_in n x.toInt64 (lN lo) (lN hi) σ = some (0, σ) := by
  unfold F_X12_in
  rw [if_pos ((lg_cmp_lt _ _).mpr ?_)]
  rw [Int64.lt_iff_toInt_lt, Int32.toInt_toInt64, lN_toInt hl]
  have : x.toInt < (0 : Int32).toInt := Int32.lt_iff_toInt_lt.mp h
  have z : (0 : Int32).toInt = 0 := by decide
  omega
theorem M_in {k lo hi : Nat} (hk : k < 2 ^ 31) (hl : lo < 2 ^ 31) (hh : hi < 2 ^ 31) : F_X12_in n (nI k).toInt64 (lN lo) (lN hi) σ = some (if lo ≤ k ∧ k ≤ hi then 1 else 0, σ) := by
  unfold F_X12_in
  rw [nI_l hk]
  by_cases e : k < lo
  · rw [if_pos ((lg_cmp_lt _ _).mpr ((lN_lt hk hl).mpr e)), if_neg (by omega)]
  · rw [if_neg (fun q => e ((lN_lt hk hl).mp ((lg_cmp_lt _ _).mp q)))]
    by_cases e2 : hi < k
    · rw [if_pos ((lg_cmp_gt _ _).mpr ((lN_lt hh hk).mpr e2)), if_neg (by omega)]
    · rw [if_neg (fun q => e2 ((lN_lt hh hk).mp ((lg_cmp_gt _ _).mp q))), if_pos (by omega)]
end OT
section OP
variable {n : Nat} {S : Nat → Nat}
theorem O_tent (h2 : S 2 ≤ 6) (a1 a2 : Int32) : ∃ v, (∀ σ, RX σ 25 S → F_X11_tent n a1 a2 σ = some (v, σ)) ∧ (∀ τ, rowN τ 259 S → F_X12_tent n a1 a2 τ = some (v, τ)) := by
  by_cases e : isI (S 2) a1 = 0
  · refine ⟨-1, fun σ hR => ?_, fun τ hS => ?_⟩
    · unfold F_X11_tent
      rw [X_hasTent hR, Option.bind_some]
      simp only [e, if_true]
    · unfold F_X12_tent
      rw [M_isTent hS, Option.bind_some]
      simp only [e, if_true]
  · obtain ⟨t, ht, rfl, e1⟩ := isI_one (by omega) e
    by_cases ev : a2 < 0
    · refine ⟨-1, fun σ hR => ?_, fun τ hS => ?_⟩
      · unfold F_X11_tent
        rw [X_hasTent hR, Option.bind_some, e1, if_neg (show ¬ (1 : Int32) = 0 by decide)]
        rw [if_neg (fun q => by subst q; exact absurd ev (by decide)), if_neg (fun q => by subst q; exact absurd ev (by decide)), if_neg (fun q => by subst q; exact absurd ev (by decide)), if_neg (fun q => by subst q; exact absurd ev (by decide))]
      · unfold F_X12_tent
        rw [M_isTent hS, Option.bind_some, e1, if_neg (show ¬ (1 : Int32) = 0 by decide), show (0 : Int64) = lN 0 from rfl, show (3 : Int64) = lN 3 from rfl, M_in_neg ev (by decide), Option.bind_some, if_pos rfl]
    · obtain ⟨w, hw, rfl⟩ := nI_of ev
      by_cases hw4 : w < 4
      · refine ⟨nI (S (13 + 4 * t + w)), fun σ hR => ?_, fun τ hS => ?_⟩
        · have hr := RX_tent hR ht
          unfold F_X11_tent
          rw [X_hasTent hR, Option.bind_some, e1, if_neg (show ¬ (1 : Int32) = 0 by decide)]
          simp (disch := omega) only [nI_lit, nI_eq, nI_ge0, nI_clamp, true_and]
          rw [if_pos (show t < 6 by omega)]
          have : w = 0 ∨ w = 1 ∨ w = 2 ∨ w = 3 := by omega
          rcases this with q | q | q | q <;> subst q
          · rw [if_pos rfl]; exact congrArg (fun z => some (z, σ)) hr.1
          · rw [if_neg (by decide), if_pos rfl, if_pos (show t < 6 by omega)]; exact congrArg (fun z => some (z, σ)) hr.2.1
          · rw [if_neg (by decide), if_neg (by decide), if_pos rfl, if_pos (show t < 6 by omega)]; exact congrArg (fun z => some (z, σ)) hr.2.2.1
          · rw [if_neg (by decide), if_neg (by decide), if_neg (by decide), if_pos rfl, if_pos (show t < 6 by omega)]; exact congrArg (fun z => some (z, σ)) hr.2.2.2
        · unfold F_X12_tent
          rw [M_isTent hS, Option.bind_some, e1, if_neg (show ¬ (1 : Int32) = 0 by decide), show (0 : Int64) = lN 0 from rfl, show (3 : Int64) = lN 3 from rfl, M_in hw (by decide) (by decide), Option.bind_some, if_pos (show 0 ≤ w ∧ w ≤ 3 by omega), if_neg (show ¬ (1 : Int32) = 0 by decide)]
          simp (disch := omega) only [nI_lit, nI_mul, nI_add, nI_ge0, nI_clamp, true_and]
          rw [if_pos (by omega), rowN_get hS]
      · refine ⟨-1, fun σ hR => ?_, fun τ hS => ?_⟩
        · unfold F_X11_tent
          rw [X_hasTent hR, Option.bind_some, e1, if_neg (show ¬ (1 : Int32) = 0 by decide)]
          simp (disch := omega) only [nI_lit, nI_eq]
          rw [if_neg (by omega), if_neg (by omega), if_neg (by omega), if_neg (by omega)]
        · unfold F_X12_tent
          rw [M_isTent hS, Option.bind_some, e1, if_neg (show ¬ (1 : Int32) = 0 by decide), show (0 : Int64) = lN 0 from rfl, show (3 : Int64) = lN 3 from rfl, M_in hw (by decide) (by decide), Option.bind_some, if_neg (show ¬ (0 ≤ w ∧ w ≤ 3) by omega), if_pos rfl]
end OP
