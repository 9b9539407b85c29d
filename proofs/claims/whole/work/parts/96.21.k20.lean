/-! the game: ways out in the order of the cells. -/
section K20
variable {B : Nat → Int32} {sz z h p : Nat} {cs : Nat → List CL} {S S' : Nat → Nat} {H : Nat → Nat → Nat} {fo x : Int32} {im : Nat → Option IMG} {σ τ : PS} {n : Nat}
abbrev canC (S : Nat → Nat) (w : Bool) (c v : Nat) : Prop := v = cd S w c 2 ∨ v = cd S w c 0 ∨ v = cd S w c 4 ∨ v = cd S w c 1 ∨ v = cd S w c 3
def fcK (S : Nat → Nat) (w : Bool) (V : Nat → Int32) (c : Nat) : Nat → Int32 × Int32
  | 0 => (-1, 0)
  | k + 1 => if canC S w c k then gst w (fcK S w V c k) (V k) (nI k) else fcK S w V c k
def xs (w : Bool) (V : Nat → Int32) (acc : Int32 × Int32) (y k : Nat) : Int32 × Int32 := if y < k then gst w acc (V y) (nI y) else acc
def xg (S : Nat → Nat) (w : Bool) (V : Nat → Int32) (c k : Nat) : Int32 × Int32 := xs w V (xs w V (xs w V (xs w V (xs w V (-1, 0) (cd S w c 2) k) (cd S w c 0) k) (cd S w c 4) k) (cd S w c 1) k) (cd S w c 3) k
theorem xs_ne {w : Bool} {V : Nat → Int32} {acc : Int32 × Int32} {y k : Nat} (h : y ≠ k) : xs w V acc y (k + 1) = xs w V acc y k := by
  unfold xs
  by_cases e : y < k
  · rw [if_pos e, if_pos (by omega)]
  · rw [if_neg e, if_neg (by omega)]
theorem xs_eq {w : Bool} {V : Nat → Int32} {acc : Int32 × Int32} {y k : Nat} (h : y = k) : xs w V acc y (k + 1) = gst w acc (V k) (nI k) := by
  unfold xs
  rw [if_pos (by omega), h]
theorem xs_gt {w : Bool} {V : Nat → Int32} {acc : Int32 × Int32} {y k : Nat} (h : k ≤ y) : xs w V acc y k = acc := by
  unfold xs
  rw [if_neg (by omega)]
theorem cd_nb (S : Nat → Nat) (w : Bool) (c d : Nat) (hd : d < 4) : cd S w c d = 99 ∨ cd S w c d = nb (S 1) c d := by
  unfold cd
  rw [if_neg (by omega)]
  by_cases y : w = true
  · rw [if_pos y]
    rcases ps_cases S c d with e | e
    · exact Or.inl e
    · exact Or.inr e.1
  · rw [if_neg y]; exact Or.inr rfl
theorem fc_xg {w : Bool} {V : Nat → Int32} {c : Nat} (h1 : 2 ≤ S 1) : ∀ k, k ≤ 99 → fcK S w V c k = xg S w V c k
  | 0, _ => by
    show (-1, 0) = _
    unfold xg
    rw [xs_gt (by omega), xs_gt (by omega), xs_gt (by omega), xs_gt (by omega), xs_gt (by omega)]
  | k + 1, hk => by
    have ih := fc_xg (w := w) (V := V) (c := c) h1 k (by omega)
    obtain ⟨o2, o0, o1, o3⟩ := nb_ord (c := c) h1
    have c2 := cd_nb S w c 2 (by decide)
    have c0 := cd_nb S w c 0 (by decide)
    have c1 := cd_nb S w c 1 (by decide)
    have c3 := cd_nb S w c 3 (by decide)
    have c4 : cd S w c 4 = c := if_pos rfl
    show (if canC S w c k then gst w (fcK S w V c k) (V k) (nI k) else fcK S w V c k) = _
    rw [ih]
    unfold canC xg
    generalize cd S w c 2 = y2 at *
    generalize cd S w c 0 = y0 at *
    generalize cd S w c 4 = y4 at *
    generalize cd S w c 1 = y1 at *
    generalize cd S w c 3 = y3 at *
    by_cases e2 : k = y2
    · rw [if_pos (Or.inl e2), xs_eq e2.symm, xs_gt (y := y0) (k := k + 1) (by omega), xs_gt (y := y4) (k := k + 1) (by omega), xs_gt (y := y1) (k := k + 1) (by omega), xs_gt (y := y3) (k := k + 1) (by omega), xs_gt (y := y2) (k := k) (by omega), xs_gt (y := y0) (k := k) (by omega), xs_gt (y := y4) (k := k) (by omega), xs_gt (y := y1) (k := k) (by omega), xs_gt (y := y3) (k := k) (by omega)]
    · rw [xs_ne (y := y2) (fun w => e2 w.symm)]
      by_cases e0 : k = y0
      · rw [if_pos (Or.inr (Or.inl e0)), xs_eq e0.symm, xs_gt (y := y4) (k := k + 1) (by omega), xs_gt (y := y1) (k := k + 1) (by omega), xs_gt (y := y3) (k := k + 1) (by omega), xs_gt (y := y0) (k := k) (by omega), xs_gt (y := y4) (k := k) (by omega), xs_gt (y := y1) (k := k) (by omega), xs_gt (y := y3) (k := k) (by omega)]
      · rw [xs_ne (y := y0) (fun w => e0 w.symm)]
        by_cases e4 : k = y4
        · rw [if_pos (Or.inr (Or.inr (Or.inl e4))), xs_eq e4.symm, xs_gt (y := y1) (k := k + 1) (by omega), xs_gt (y := y3) (k := k + 1) (by omega), xs_gt (y := y4) (k := k) (by omega), xs_gt (y := y1) (k := k) (by omega), xs_gt (y := y3) (k := k) (by omega)]
        · rw [xs_ne (y := y4) (fun w => e4 w.symm)]
          by_cases e1 : k = y1
          · rw [if_pos (Or.inr (Or.inr (Or.inr (Or.inl e1)))), xs_eq e1.symm, xs_gt (y := y3) (k := k + 1) (by omega), xs_gt (y := y1) (k := k) (by omega), xs_gt (y := y3) (k := k) (by omega)]
          · rw [xs_ne (y := y1) (fun w => e1 w.symm)]
            by_cases e3 : k = y3
            · rw [if_pos (Or.inr (Or.inr (Or.inr (Or.inr e3)))), xs_eq e3.symm, xs_gt (y := y3) (k := k) (by omega)]
            · rw [xs_ne (y := y3) (fun w => e3 w.symm), if_neg (by omega)]
theorem xs_gsx {b : Nat} (cw : okW S b) {w : Bool} {V : Nat → Int32} {acc : Int32 × Int32} {c d : Nat} (hc : c < S 1 * S 1) : xs w V acc (cd S w c d) (S 1 * S 1) = gsx w V acc (cd S w c d) := by
  have h36 := okW_36 cw
  unfold xs gsx
  by_cases e : cd S w c d = 99
  · rw [if_pos e, if_neg (by omega)]
  · rw [if_neg e, if_pos (cd_lt cw hc e)]
theorem fc_g5 {b : Nat} (cw : okW S b) {w : Bool} {V : Nat → Int32} {c : Nat} (hc : c < S 1 * S 1) : fcK S w V c (S 1 * S 1) = g5 S w V c := by
  have h36 := okW_36 cw
  rw [fc_xg cw.1 _ (by omega)]
  unfold xg g5
  rw [xs_gsx cw hc, xs_gsx cw hc, xs_gsx cw hc, xs_gsx cw hc, xs_gsx cw hc]
def nn1 (a : Int32) : Prop := a = -1 ∨ 0 ≤ a
theorem gst_pos {w : Bool} {acc : Int32 × Int32} {v c : Int32} (ha : nn1 acc.1) (hv : 0 ≤ v) : 0 ≤ (gst w acc v c).1 := by
  unfold gst
  by_cases e : acc.1 = -1
  · rw [if_pos e]; exact hv
  · have h0 : 0 ≤ acc.1 := ha.resolve_left e
    rw [if_neg e]
    split
    · split
      · exact hv
      · exact h0
    · split
      · exact hv
      · exact h0
theorem gsx_nn {w : Bool} {V : Nat → Int32} {acc : Int32 × Int32} {y : Nat} (ha : nn1 acc.1) (hv : y ≠ 99 → 0 ≤ V y) : nn1 (gsx w V acc y).1 := by
  unfold gsx
  by_cases e : y = 99
  · rw [if_pos e]; exact ha
  · rw [if_neg e]; exact Or.inr (gst_pos ha (hv e))
theorem gsx_pos {w : Bool} {V : Nat → Int32} {acc : Int32 × Int32} {y : Nat} (ha : 0 ≤ acc.1) (hv : y ≠ 99 → 0 ≤ V y) : 0 ≤ (gsx w V acc y).1 := by
  unfold gsx
  by_cases e : y = 99
  · rw [if_pos e]; exact ha
  · rw [if_neg e]; exact gst_pos (Or.inr ha) (hv e)
theorem g5_pos {b : Nat} (cw : okW S b) {w : Bool} {V : Nat → Int32} {c : Nat} (hc : c < S 1 * S 1) (hV : ∀ y, y < S 1 * S 1 → 0 ≤ V y) : 0 ≤ (g5 S w V c).1 := by
  have h36 := okW_36 cw
  have hv : ∀ d, cd S w c d ≠ 99 → 0 ≤ V (cd S w c d) := fun d h => hV _ (cd_lt cw hc h)
  have c4 : cd S w c 4 ≠ 99 := by rw [show cd S w c 4 = c from if_pos rfl]; omega
  unfold g5
  apply gsx_pos _ (hv 3)
  apply gsx_pos _ (hv 1)
  have a : nn1 (gsx w V (gsx w V (-1, 0) (cd S w c 2)) (cd S w c 0)).1 := gsx_nn (gsx_nn (Or.inl rfl) (hv 2)) (hv 0)
  rw [show gsx w V (gsx w V (gsx w V (-1, 0) (cd S w c 2)) (cd S w c 0)) (cd S w c 4) = gst w (gsx w V (gsx w V (-1, 0) (cd S w c 2)) (cd S w c 0)) (V (cd S w c 4)) (nI (cd S w c 4)) from if_neg c4]
  exact gst_pos a (hv 4 c4)
theorem gv_pos {b : Nat} (cw : okW S b) : ∀ (t : Nat) (w : Bool) (q c : Nat), q < S 1 * S 1 → c < S 1 * S 1 → 0 ≤ (gv S t w q c).1
  | 0, w, q, c, hq, hc => by
    have := (gp_is (S 1) (by have := cw.2.1; omega) cw.1 q hq c hc).2.2
    exact nI_pos' (by omega)
  | t + 1, true, q, c, hq, hc => g5_pos cw hq (fun y hy => gv_pos cw t false y c hy hc)
  | t + 1, false, q, c, hq, hc => g5_pos cw hc (fun y hy => gv_pos cw t true q y hq hy)
theorem fcK_nn {w : Bool} {V : Nat → Int32} {c m : Nat} (hV : ∀ y, y < m → 0 ≤ V y) : ∀ k, k ≤ m → nn1 (fcK S w V c k).1
  | 0, _ => Or.inl rfl
  | k + 1, hk => by
    have ih := fcK_nn (w := w) (c := c) hV k (by omega)
    unfold fcK
    split
    · exact Or.inr (gst_pos ih (hV k (by omega)))
    · exact ih
theorem canC_iff {b : Nat} (cw : okW S b) {w : Bool} {c v : Nat} (hv : v < S 1 * S 1) : canC S w c v ↔ v = c ∨ (bes (S 1) c v ∧ (w = true → S (37 + v) = 0)) := by
  have h36 := okW_36 cw
  have h9 : v ≠ 99 := by omega
  have one : ∀ d, d < 4 → (v = cd S w c d ↔ nb (S 1) c d = v ∧ (w = true → S (37 + v) = 0)) := by
    intro d hd
    unfold cd
    rw [if_neg (by omega)]
    by_cases y : w = true
    · rw [if_pos y]
      constructor
      · intro e
        rcases ps_cases S c d with q | ⟨q1, q2, q3⟩
        · rw [q] at e; exact absurd e h9
        · rw [e, q1]; exact ⟨rfl, fun _ => q3⟩
      · rintro ⟨e1, e2⟩
        unfold ps
        rw [e1, if_neg h9, if_pos (e2 y)]
    · rw [if_neg y]
      exact ⟨fun e => ⟨e.symm, fun q => absurd q y⟩, fun e => e.1.symm⟩
  have c4 : cd S w c 4 = c := if_pos rfl
  unfold canC bes
  rw [one 2 (by decide), one 0 (by decide), one 1 (by decide), one 3 (by decide), c4]
  constructor
  · rintro (⟨e, k⟩ | ⟨e, k⟩ | e | ⟨e, k⟩ | ⟨e, k⟩)
    · exact Or.inr ⟨Or.inr (Or.inr (Or.inl e)), k⟩
    · exact Or.inr ⟨Or.inl e, k⟩
    · exact Or.inl e
    · exact Or.inr ⟨Or.inr (Or.inl e), k⟩
    · exact Or.inr ⟨Or.inr (Or.inr (Or.inr e)), k⟩
  · rintro (e | ⟨e | e | e | e, k⟩)
    · exact Or.inr (Or.inr (Or.inl e))
    · exact Or.inr (Or.inl ⟨e, k⟩)
    · exact Or.inr (Or.inr (Or.inr (Or.inl ⟨e, k⟩)))
    · exact Or.inl ⟨e, k⟩
    · exact Or.inr (Or.inr (Or.inr (Or.inr ⟨e, k⟩)))
theorem M_apart {b : Nat} (hS : rowN σ 259 S) (cw : okW S b) {q c : Nat} (hq : q < S 1 * S 1) (hc : c < S 1 * S 1) : F_X12_apart n (nI q) (nI c) σ = some (nI (gpN (S 1) q c), σ) := by
  have h1 := cw.1
  have h2 := cw.2.1
  have e1 : ¬ nI (S 1) = 0 := nI_nz (by omega) (by omega)
  have hg := (gp_is (S 1) (by omega) h1 q hq c hc).2.1
  unfold F_X12_apart
  rw [rowN_get hS, if_neg e1, ← hg]
  unfold gpM
  split
  · split <;> rfl
  · split <;> rfl
theorem par {k : Nat} (hk : k < 5) : nI k - nI k / (2 : Int32) * (2 : Int32) = nI (k % 2) := nI_rem (b := 2) (by omega) (by decide)
theorem M_canGo {b : Nat} (hn : 100 ≤ n) (hS : rowN σ 259 S) (cw : okW S b) {k q c v : Nat} (hk : k < 5) (h6 : σ.1 266 k = nI q) (h7 : σ.1 267 k = nI c) (h8 : σ.1 268 k = nI v) (hq : q < S 1 * S 1) (hc : c < S 1 * S 1) (hv : v < S 1 * S 1) : F_X12_canGo n (nI k) σ = some (if canC S (decide (k % 2 = 0)) (if k % 2 = 0 then q else c) v then 1 else 0, σ) := by
  have h36 := okW_36 cw
  have hb := (cw.2.2.2.2.2.2.1 v (by omega)).1
  have ci := canC_iff cw (w := decide (k % 2 = 0)) (c := if k % 2 = 0 then q else c) hv
  unfold F_X12_canGo
  rw [par hk, nI_clamp (by omega), h6, h7, h8]
  by_cases e : k % 2 = 0
  · rw [if_pos e] at ci ⊢
    rw [decide_eq_true e] at ci ⊢
    rw [e, if_pos (show nI 0 = 0 from rfl), if_pos ⟨nI_pos' (by omega), hk⟩]
    by_cases y : q = v
    · rw [if_pos (by rw [y]), if_pos (ci.mpr (Or.inl y.symm))]
    · rw [if_neg (fun z => y (nI_inj (by omega) (by omega) z))]
      rcases M_areBeside hn hS cw.1 cw.2.1 hq hv with ⟨z, f⟩ | ⟨z, f⟩
      · rw [f, Option.bind_some, if_neg ne10, if_neg (show ¬ nI 0 = (1 : Int32) by decide)]
        show (F_X12_isBush n (nI v) σ).bind _ = _
        rw [M_isBush hS (by omega) (by omega), Option.bind_some]
        by_cases u : S (37 + v) = 0
        · rw [if_pos (show (if S (37 + v) = 0 then (0 : Int32) else 1) = 0 from if_pos u), if_pos (ci.mpr (Or.inr ⟨z, fun _ => u⟩))]
        · have nc : ¬ canC S true q v := fun s => by rcases ci.mp s with t | t; exact y t.symm; exact u (t.2 rfl)
          rw [if_neg (show ¬ (if S (37 + v) = 0 then (0 : Int32) else 1) = 0 by rw [if_neg u]; decide), if_neg nc]
      · rw [f, Option.bind_some, if_pos rfl, if_neg (fun s => by rcases ci.mp s with t | t; exact y t.symm; exact z t.1)]
  · have e1 : k % 2 = 1 := by omega
    rw [if_neg e] at ci ⊢
    rw [decide_eq_false e] at ci ⊢
    rw [e1, if_neg (show ¬ nI 1 = (0 : Int32) by decide), if_pos ⟨nI_pos' (by omega), hk⟩]
    by_cases y : c = v
    · rw [if_pos (by rw [y]), if_pos (ci.mpr (Or.inl y.symm))]
    · rw [if_neg (fun z => y (nI_inj (by omega) (by omega) z))]
      rcases M_areBeside hn hS cw.1 cw.2.1 hc hv with ⟨z, f⟩ | ⟨z, f⟩
      · rw [f, Option.bind_some, if_neg ne10, if_pos (show nI 1 = (1 : Int32) from rfl), if_pos (ci.mpr (Or.inr ⟨z, fun q => absurd q (by decide)⟩))]
      · rw [f, Option.bind_some, if_pos rfl, if_neg (fun s => by rcases ci.mp s with t | t; exact y t.symm; exact z t.1)]
end K20
