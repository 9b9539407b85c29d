/-! A value: which word, which number; both sides. -/
def wkF (l : List Nat) : Nat → Nat → Nat
  | 0, _ => 11
  | k + 1, j => if l = wS (8 + j) then j else wkF l k (j + 1)
def wk (l : List Nat) : Nat := wkF l 11 0
theorem wkF_le (l : List Nat) : ∀ k j, j + k = 11 → wkF l k j ≤ 11 := by
  intro k
  induction k with
  | zero => intro j _; exact Nat.le_refl _
  | succ k ih =>
    intro j h
    unfold wkF
    split
    · omega
    · exact ih (j + 1) (by omega)
theorem wk_le (l : List Nat) : wk l ≤ 11 := wkF_le l 11 0 rfl
def wkC (l : List Nat) : Int32 := if wk l = 11 then 0 else wcd (wk l)
def wkN (l : List Nat) : Int32 := if wk l = 11 then -1 else nI (wk l)
theorem wk_lt_iff {l : List Nat} (h : wk l ≠ 11) : wk l < 11 := by have := wk_le l; omega
theorem wk_val : ∀ j, j < 11 → wkF (wS (8 + j)) 11 0 = j := by decide +kernel
section VW
variable {n : Nat} {B : Nat → Int32} {sz : Nat}
theorem X_ofWord (hn : 1000 ≤ n) {q : Nat} {f : Int32} {σ : PS} (h : TX σ B sz (q + (wl B sz q).length) q f) : F_X3_ofWord n σ = some (wkC (wl B sz q), σ) := by
  unfold F_X3_ofWord wkC wk
  rw [X_wordIs hn (a := 8) (by decide) h, Option.bind_some]
  by_cases e0 : wl B sz q = wS 8
  · simp only [e0, if_true]
    rw [if_neg (by decide), show wkF (wS 8) 11 0 = 0 from wk_val 0 (by decide), if_neg (by decide)]
    rfl
  rw [if_neg e0, if_pos rfl]
  rw [X_wordIs hn (a := 9) (by decide) h, Option.bind_some]
  by_cases e1 : wl B sz q = wS 9
  · simp only [e1, if_true]
    rw [if_neg (by decide), show wkF (wS 9) 11 0 = 1 from wk_val 1 (by decide), if_neg (by decide)]
    rfl
  rw [if_neg e1, if_pos rfl]
  rw [X_wordIs hn (a := 10) (by decide) h, Option.bind_some]
  by_cases e2 : wl B sz q = wS 10
  · simp only [e2, if_true]
    rw [if_neg (by decide), show wkF (wS 10) 11 0 = 2 from wk_val 2 (by decide), if_neg (by decide)]
    rfl
  rw [if_neg e2, if_pos rfl]
  rw [X_wordIs hn (a := 11) (by decide) h, Option.bind_some]
  by_cases e3 : wl B sz q = wS 11
  · simp only [e3, if_true]
    rw [if_neg (by decide), show wkF (wS 11) 11 0 = 3 from wk_val 3 (by decide), if_neg (by decide)]
    rfl
  rw [if_neg e3, if_pos rfl]
  rw [X_wordIs hn (a := 12) (by decide) h, Option.bind_some]
  by_cases e4 : wl B sz q = wS 12
  · simp only [e4, if_true]
    rw [if_neg (by decide), show wkF (wS 12) 11 0 = 4 from wk_val 4 (by decide), if_neg (by decide)]
    rfl
  rw [if_neg e4, if_pos rfl]
  rw [X_wordIs hn (a := 13) (by decide) h, Option.bind_some]
  by_cases e5 : wl B sz q = wS 13
  · simp only [e5, if_true]
    rw [if_neg (by decide), show wkF (wS 13) 11 0 = 5 from wk_val 5 (by decide), if_neg (by decide)]
    rfl
  rw [if_neg e5, if_pos rfl]
  rw [X_wordIs hn (a := 14) (by decide) h, Option.bind_some]
  by_cases e6 : wl B sz q = wS 14
  · simp only [e6, if_true]
    rw [if_neg (by decide), show wkF (wS 14) 11 0 = 6 from wk_val 6 (by decide), if_neg (by decide)]
    rfl
  rw [if_neg e6, if_pos rfl]
  rw [X_wordIs hn (a := 15) (by decide) h, Option.bind_some]
  by_cases e7 : wl B sz q = wS 15
  · simp only [e7, if_true]
    rw [if_neg (by decide), show wkF (wS 15) 11 0 = 7 from wk_val 7 (by decide), if_neg (by decide)]
    rfl
  rw [if_neg e7, if_pos rfl]
  rw [X_wordIs hn (a := 16) (by decide) h, Option.bind_some]
  by_cases e8 : wl B sz q = wS 16
  · simp only [e8, if_true]
    rw [if_neg (by decide), show wkF (wS 16) 11 0 = 8 from wk_val 8 (by decide), if_neg (by decide)]
    rfl
  rw [if_neg e8, if_pos rfl]
  rw [X_wordIs hn (a := 17) (by decide) h, Option.bind_some]
  by_cases e9 : wl B sz q = wS 17
  · simp only [e9, if_true]
    rw [if_neg (by decide), show wkF (wS 17) 11 0 = 9 from wk_val 9 (by decide), if_neg (by decide)]
    rfl
  rw [if_neg e9, if_pos rfl]
  rw [X_wordIs hn (a := 18) (by decide) h, Option.bind_some]
  by_cases e10 : wl B sz q = wS 18
  · simp only [e10, if_true]
    rw [if_neg (by decide), show wkF (wS 18) 11 0 = 10 from wk_val 10 (by decide), if_neg (by decide)]
    rfl
  rw [if_neg e10, if_pos rfl]
  have hk : wkF (wl B sz q) 11 0 = 11 := by
    unfold wkF; rw [if_neg (show ¬ wl B sz q = wS (8 + 0) from e0)]
    unfold wkF; rw [if_neg (show ¬ wl B sz q = wS (8 + 1) from e1)]
    unfold wkF; rw [if_neg (show ¬ wl B sz q = wS (8 + 2) from e2)]
    unfold wkF; rw [if_neg (show ¬ wl B sz q = wS (8 + 3) from e3)]
    unfold wkF; rw [if_neg (show ¬ wl B sz q = wS (8 + 4) from e4)]
    unfold wkF; rw [if_neg (show ¬ wl B sz q = wS (8 + 5) from e5)]
    unfold wkF; rw [if_neg (show ¬ wl B sz q = wS (8 + 6) from e6)]
    unfold wkF; rw [if_neg (show ¬ wl B sz q = wS (8 + 7) from e7)]
    unfold wkF; rw [if_neg (show ¬ wl B sz q = wS (8 + 8) from e8)]
    unfold wkF; rw [if_neg (show ¬ wl B sz q = wS (8 + 9) from e9)]
    unfold wkF; rw [if_neg (show ¬ wl B sz q = wS (8 + 10) from e10)]
    rfl
  rw [hk, if_pos rfl]
theorem M_wordHere (hn : 1000 ≤ n) {q : Nat} {f : Int32} {σ : PS} (h : TM σ B sz q f) (hs : sk B sz q = q) : F_X12_wordHere n σ = some (wkN (wl B sz q), σ) := by
  unfold F_X12_wordHere wkN wk
  rw [M_isWord' hn h hs (l := wS 8) (wS_mem 8 (by decide)) (by decide) (by decide) (by decide +kernel), Option.bind_some]
  by_cases e0 : wl B sz q = wS 8
  · simp only [e0, if_true]
    rw [if_neg (by decide), show wkF (wS 8) 11 0 = 0 from wk_val 0 (by decide), if_neg (by decide)]
    rfl
  rw [if_neg e0, if_pos rfl]
  rw [M_isWord' hn h hs (l := wS 9) (wS_mem 9 (by decide)) (by decide) (by decide) (by decide +kernel), Option.bind_some]
  by_cases e1 : wl B sz q = wS 9
  · simp only [e1, if_true]
    rw [if_neg (by decide), show wkF (wS 9) 11 0 = 1 from wk_val 1 (by decide), if_neg (by decide)]
    rfl
  rw [if_neg e1, if_pos rfl]
  rw [M_isWord' hn h hs (l := wS 10) (wS_mem 10 (by decide)) (by decide) (by decide) (by decide +kernel), Option.bind_some]
  by_cases e2 : wl B sz q = wS 10
  · simp only [e2, if_true]
    rw [if_neg (by decide), show wkF (wS 10) 11 0 = 2 from wk_val 2 (by decide), if_neg (by decide)]
    rfl
  rw [if_neg e2, if_pos rfl]
  rw [M_isWord' hn h hs (l := wS 11) (wS_mem 11 (by decide)) (by decide) (by decide) (by decide +kernel), Option.bind_some]
  by_cases e3 : wl B sz q = wS 11
  · simp only [e3, if_true]
    rw [if_neg (by decide), show wkF (wS 11) 11 0 = 3 from wk_val 3 (by decide), if_neg (by decide)]
    rfl
  rw [if_neg e3, if_pos rfl]
  rw [M_isWord' hn h hs (l := wS 12) (wS_mem 12 (by decide)) (by decide) (by decide) (by decide +kernel), Option.bind_some]
  by_cases e4 : wl B sz q = wS 12
  · simp only [e4, if_true]
    rw [if_neg (by decide), show wkF (wS 12) 11 0 = 4 from wk_val 4 (by decide), if_neg (by decide)]
    rfl
  rw [if_neg e4, if_pos rfl]
  rw [M_isWord' hn h hs (l := wS 13) (wS_mem 13 (by decide)) (by decide) (by decide) (by decide +kernel), Option.bind_some]
  by_cases e5 : wl B sz q = wS 13
  · simp only [e5, if_true]
    rw [if_neg (by decide), show wkF (wS 13) 11 0 = 5 from wk_val 5 (by decide), if_neg (by decide)]
    rfl
  rw [if_neg e5, if_pos rfl]
  rw [M_isWord' hn h hs (l := wS 14) (wS_mem 14 (by decide)) (by decide) (by decide) (by decide +kernel), Option.bind_some]
  by_cases e6 : wl B sz q = wS 14
  · simp only [e6, if_true]
    rw [if_neg (by decide), show wkF (wS 14) 11 0 = 6 from wk_val 6 (by decide), if_neg (by decide)]
    rfl
  rw [if_neg e6, if_pos rfl]
  rw [M_isWord' hn h hs (l := wS 15) (wS_mem 15 (by decide)) (by decide) (by decide) (by decide +kernel), Option.bind_some]
  by_cases e7 : wl B sz q = wS 15
  · simp only [e7, if_true]
    rw [if_neg (by decide), show wkF (wS 15) 11 0 = 7 from wk_val 7 (by decide), if_neg (by decide)]
    rfl
  rw [if_neg e7, if_pos rfl]
  rw [M_isWord' hn h hs (l := wS 16) (wS_mem 16 (by decide)) (by decide) (by decide) (by decide +kernel), Option.bind_some]
  by_cases e8 : wl B sz q = wS 16
  · simp only [e8, if_true]
    rw [if_neg (by decide), show wkF (wS 16) 11 0 = 8 from wk_val 8 (by decide), if_neg (by decide)]
    rfl
  rw [if_neg e8, if_pos rfl]
  rw [M_isWord' hn h hs (l := wS 17) (wS_mem 17 (by decide)) (by decide) (by decide) (by decide +kernel), Option.bind_some]
  by_cases e9 : wl B sz q = wS 17
  · simp only [e9, if_true]
    rw [if_neg (by decide), show wkF (wS 17) 11 0 = 9 from wk_val 9 (by decide), if_neg (by decide)]
    rfl
  rw [if_neg e9, if_pos rfl]
  rw [M_isWord' hn h hs (l := wS 18) (wS_mem 18 (by decide)) (by decide) (by decide) (by decide +kernel), Option.bind_some]
  by_cases e10 : wl B sz q = wS 18
  · simp only [e10, if_true]
    rw [if_neg (by decide), show wkF (wS 18) 11 0 = 10 from wk_val 10 (by decide), if_neg (by decide)]
    rfl
  rw [if_neg e10, if_pos rfl]
  have hk : wkF (wl B sz q) 11 0 = 11 := by
    unfold wkF; rw [if_neg (show ¬ wl B sz q = wS (8 + 0) from e0)]
    unfold wkF; rw [if_neg (show ¬ wl B sz q = wS (8 + 1) from e1)]
    unfold wkF; rw [if_neg (show ¬ wl B sz q = wS (8 + 2) from e2)]
    unfold wkF; rw [if_neg (show ¬ wl B sz q = wS (8 + 3) from e3)]
    unfold wkF; rw [if_neg (show ¬ wl B sz q = wS (8 + 4) from e4)]
    unfold wkF; rw [if_neg (show ¬ wl B sz q = wS (8 + 5) from e5)]
    unfold wkF; rw [if_neg (show ¬ wl B sz q = wS (8 + 6) from e6)]
    unfold wkF; rw [if_neg (show ¬ wl B sz q = wS (8 + 7) from e7)]
    unfold wkF; rw [if_neg (show ¬ wl B sz q = wS (8 + 8) from e8)]
    unfold wkF; rw [if_neg (show ¬ wl B sz q = wS (8 + 9) from e9)]
    unfold wkF; rw [if_neg (show ¬ wl B sz q = wS (8 + 10) from e10)]
    rfl
  rw [hk, if_pos rfl]
end VW
