/-! the game: the class's half. -/
section K19
variable {B : Nat → Int32} {sz z h p : Nat} {cs : Nat → List CL} {S S' : Nat → Nat} {H : Nat → Nat → Nat} {fo x : Int32} {im : Nat → Option IMG} {σ τ : PS} {n : Nat}
/-- how far apart -/
def gpN (s a b : Nat) : Nat := ((a / s - b / s) + (b / s - a / s)) + ((a % s - b % s) + (b % s - a % s))
def gpX (s a b : Int32) : Int32 := (if 0 ≤ (a / s - b / s) then (a / s - b / s) else 0 - (a / s - b / s)) + (if 0 ≤ ((a - a / s * s) - (b - b / s * s)) then ((a - a / s * s) - (b - b / s * s)) else 0 - ((a - a / s * s) - (b - b / s * s)))
def gpM (s a b : Int32) : Int32 := (if 0 ≤ (a / s - b / s) then (if 0 ≤ ((a - a / s * s) - (b - b / s * s)) then (a / s - b / s) + ((a - a / s * s) - (b - b / s * s)) else (a / s - b / s) + -((a - a / s * s) - (b - b / s * s))) else (if 0 ≤ ((a - a / s * s) - (b - b / s * s)) then -(a / s - b / s) + ((a - a / s * s) - (b - b / s * s)) else -(a / s - b / s) + -((a - a / s * s) - (b - b / s * s))))
theorem gp_is : ∀ s, s < 7 → 2 ≤ s → ∀ a, a < s * s → ∀ b, b < s * s → gpX (nI s) (nI a) (nI b) = nI (gpN s a b) ∧ gpM (nI s) (nI a) (nI b) = nI (gpN s a b) ∧ gpN s a b < 12 := by decide +kernel
theorem X_gap {b i : Nat} (hR : RX σ i S) (cw : okW S b) {q c : Nat} (hq : q < S 1 * S 1) (hc : c < S 1 * S 1) : F_X10_gapBetween n i (nI q) (nI c) σ = some (nI (gpN (S 1) q c), σ) := by
  have h1 := cw.1
  have h2 := cw.2.1
  have e0 : ¬ nI (S 1) ≤ 0 := nI_ge (a := 0) (by omega) (by omega)
  have e1 : ¬ nI (S 1) = 0 := nI_nz (by omega) (by omega)
  have rw1 : ∀ a, F_X10_rowOf n i a σ = some (a / nI (S 1), σ) := fun a => by unfold F_X10_rowOf; rw [hR.1, if_neg e0, if_neg e1]
  have cw1 : ∀ a, F_X10_columnOf n i a σ = some (a - a / nI (S 1) * nI (S 1), σ) := fun a => by unfold F_X10_columnOf; rw [hR.1, if_neg e0, if_neg e1]
  unfold F_X10_gapBetween
  rw [rw1, Option.bind_some]
  show (F_X10_rowOf n i (nI c) σ).bind _ = _
  rw [rw1, Option.bind_some]
  show (F_X10_columnOf n i (nI q) σ).bind _ = _
  rw [cw1, Option.bind_some]
  show (F_X10_columnOf n i (nI c) σ).bind _ = _
  rw [cw1, Option.bind_some]
  show some (gpX (nI (S 1)) (nI q) (nI c), σ) = _
  rw [(gp_is (S 1) (by omega) h1 q hq c hc).1]
/-- where one comes by a way out; 99 nowhere -/
def cd (S : Nat → Nat) (w : Bool) (c d : Nat) : Nat := if d = 4 then c else if w = true then ps S c d else nb (S 1) c d
theorem cd_lt {b : Nat} (cw : okW S b) {w : Bool} {c d : Nat} (hc : c < S 1 * S 1) (h : cd S w c d ≠ 99) : cd S w c d < S 1 * S 1 := by
  unfold cd at h ⊢
  by_cases e : d = 4
  · rw [if_pos e]; exact hc
  · rw [if_neg e] at h ⊢
    by_cases y : w = true
    · rw [if_pos y] at h ⊢; exact (ps_lt hc (okW_36 cw)).mpr h
    · rw [if_neg y] at h ⊢; exact nb_lt hc h
theorem X_cdB {b i : Nat} (hR : RX σ i S) (cw : okW S b) {c d : Nat} (hc : c < S 1 * S 1) (hd : d < 5) : F_X10_beside n i (nI c) (nI d) σ = some (oI (cd S false c d), σ) := by
  have h1 := cw.1
  have h2 := cw.2.1
  have h36 := okW_36 cw
  unfold cd
  by_cases e : d = 4
  · subst e
    have e0 : ¬ nI (S 1) ≤ 0 := nI_ge (a := 0) (by omega) (by omega)
    have e1 : ¬ nI (S 1) = 0 := nI_nz (by omega) (by omega)
    unfold F_X10_beside oI
    rw [hR.1, if_neg e0, if_neg e1, if_neg (by decide), if_neg (by decide), if_neg (by decide), if_neg (by decide), if_pos rfl, if_neg (by omega)]
  · rw [if_neg e, if_neg (by decide)]
    exact X_beside hR h1 h2 hc (by omega)
theorem X_cdP {b i : Nat} (hR : RX σ i S) (cw : okW S b) {c d : Nat} (hc : c < S 1 * S 1) (hd : d < 5) : F_X10_passable n i (nI c) (nI d) σ = some (oI (cd S true c d), σ) := by
  have h36 := okW_36 cw
  by_cases e : d = 4
  · subst e
    have hb := X_cdB (n := n) hR cw hc (show 4 < 5 by decide)
    have e4 : ∀ w, cd S w c 4 = c := fun w => if_pos rfl
    rw [e4] at hb ⊢
    have eo : oI c = nI c := by unfold oI; rw [if_neg (by omega)]
    rw [eo] at hb ⊢
    unfold F_X10_passable
    rw [hb, Option.bind_some, if_neg (show ¬ nI c = -1 from m1_ne (by omega))]
    show (F_X10_isFree n i (nI c) σ).bind _ = _
    rw [X_isFree hR h36 hc, Option.bind_some]
    by_cases y : S (37 + c) = 0
    · rw [if_neg (show ¬ (if S (37 + c) = 0 then (1 : Int32) else 0) = 0 by rw [if_pos y]; decide)]
    · rw [if_pos (show (if S (37 + c) = 0 then (1 : Int32) else 0) = 0 by rw [if_neg y]), if_pos (show nI 4 = (4 : Int32) from rfl)]
  · have : cd S true c d = ps S c d := by unfold cd; rw [if_neg e, if_pos rfl]
    rw [this]
    exact X_passable hR cw.1 cw.2.1 hc (by omega)
/-- the better of what is held and what is new -/
def gst (w : Bool) (acc : Int32 × Int32) (v c : Int32) : Int32 × Int32 := if acc.1 = -1 then (v, c) else if w = true then (if v < acc.1 then (v, c) else acc) else (if acc.1 < v then (v, c) else acc)
theorem gst_f (acc : Int32 × Int32) (v c : Int32) : gst false acc v c = if acc.1 = -1 then (v, c) else if acc.1 < v then (v, c) else acc := by
  unfold gst
  simp only [Bool.false_eq_true, if_false]
theorem gst_t (acc : Int32 × Int32) (v c : Int32) : gst true acc v c = if acc.1 = -1 then (v, c) else if v < acc.1 then (v, c) else acc := by
  unfold gst
  simp only [if_true]
/-- one way out more -/
def gsx (w : Bool) (V : Nat → Int32) (acc : Int32 × Int32) (y : Nat) : Int32 × Int32 := if y = 99 then acc else gst w acc (V y) (nI y)
def g5 (S : Nat → Nat) (w : Bool) (V : Nat → Int32) (c : Nat) : Int32 × Int32 := gsx w V (gsx w V (gsx w V (gsx w V (gsx w V (-1, 0) (cd S w c 2)) (cd S w c 0)) (cd S w c 4)) (cd S w c 1)) (cd S w c 3)
/-- the game's worth with so many turns left; w: the question is on turn -/
def gv (S : Nat → Nat) : Nat → Bool → Nat → Nat → Int32 × Int32
  | 0, _, q, c => (nI (gpN (S 1) q c), 0)
  | t + 1, true, q, c => g5 S true (fun y => (gv S t false y c).1) q
  | t + 1, false, q, c => g5 S false (fun y => (gv S t true q y).1) c
theorem gst_cases (w : Bool) (acc : Int32 × Int32) (v c : Int32) : (gst w acc v c).1 = acc.1 ∨ (gst w acc v c).1 = v := by
  unfold gst
  split
  · exact Or.inr rfl
  · split
    · split
      · exact Or.inr rfl
      · exact Or.inl rfl
    · split
      · exact Or.inr rfl
      · exact Or.inl rfl
def wN (w : Bool) : Int32 := if w = true then 1 else 0
theorem pT_get : ∀ i, i < 5 → ∃ d, d < 5 ∧ pTb1.getD i 0 = nI d := by decide +kernel
theorem X_endF {b i K d k : Nat} {rc : Int32 → Int32 → Int32 → Int32 → PS → Option (Int32 × PS)} (hR : RX σ i S) (cw : okW S b) {q c : Nat} (hc : c < S 1 * S 1) {x3 : Int32} {V : Nat → Int32} (hrc : ∀ y, y < S 1 * S 1 → rc (nI q) (nI y) (x3 - 1) 1 σ = some (V y, σ)) (hk : k < 5) (hd : d < 5) (hT : pTb1.getD k 0 = nI d) (acc : Int32 × Int32) : L_X7_ended_22 n i rc (K + 1) (nI q) (nI c) x3 0 acc.1 (nI k) σ = L_X7_ended_22 n i rc K (nI q) (nI c) x3 0 (gsx false V acc (cd S false c d)).1 (nI (k + 1)) σ := by
  have h36 := okW_36 cw
  rw [L_X7_ended_22, if_neg (show ¬ (5 : Int32) ≤ nI k from nI_ge (show k < 5 from hk) (by decide)), nI_clamp (by omega), if_pos ⟨nI_pos' (by omega), hk⟩, if_pos rfl, hT, X_cdB hR cw hc hd, Option.bind_some]
  unfold gsx
  by_cases e : cd S false c d = 99
  · rw [if_pos e, e, if_pos (show oI 99 = (-1 : Int32) from rfl), nI_1]
  · have hy := cd_lt cw hc e
    have eo : oI (cd S false c d) = nI (cd S false c d) := by unfold oI; rw [if_neg e]
    rw [if_neg e, eo, if_neg (show ¬ nI (cd S false c d) = -1 from m1_ne (by omega)), if_pos rfl]
    show (rc (nI q) (nI (cd S false c d)) (x3 - 1) 1 σ).bind _ = _
    rw [hrc _ hy, Option.bind_some, nI_1]
    rw [gst_f]
    by_cases a1 : acc.1 = -1
    · rw [if_pos a1, if_pos a1]
    · rw [if_neg a1, if_neg a1, if_pos rfl, if_pos rfl]
      by_cases a2 : acc.1 < V (cd S false c d)
      · rw [if_pos a2, if_neg (Int32.not_le.mpr a2)]
      · rw [if_neg a2, if_pos (Int32.not_lt.mp a2)]
theorem X_endT {b i K d k : Nat} {rc : Int32 → Int32 → Int32 → Int32 → PS → Option (Int32 × PS)} (hR : RX σ i S) (cw : okW S b) {q c : Nat} (hq : q < S 1 * S 1) {x3 : Int32} {V : Nat → Int32} (hrc : ∀ y, y < S 1 * S 1 → rc (nI y) (nI c) (x3 - 1) 0 σ = some (V y, σ)) (hk : k < 5) (hd : d < 5) (hT : pTb1.getD k 0 = nI d) (acc : Int32 × Int32) : L_X7_ended_22 n i rc (K + 1) (nI q) (nI c) x3 1 acc.1 (nI k) σ = L_X7_ended_22 n i rc K (nI q) (nI c) x3 1 (gsx true V acc (cd S true q d)).1 (nI (k + 1)) σ := by
  have h36 := okW_36 cw
  rw [L_X7_ended_22, if_neg (show ¬ (5 : Int32) ≤ nI k from nI_ge (show k < 5 from hk) (by decide)), nI_clamp (by omega), if_pos ⟨nI_pos' (by omega), hk⟩, if_neg ne10, hT, X_cdP hR cw hq hd, Option.bind_some]
  unfold gsx
  by_cases e : cd S true q d = 99
  · rw [if_pos e, e, if_pos (show oI 99 = (-1 : Int32) from rfl), nI_1]
  · have hy := cd_lt cw hq e
    have eo : oI (cd S true q d) = nI (cd S true q d) := by unfold oI; rw [if_neg e]
    rw [if_neg e, eo, if_neg (show ¬ nI (cd S true q d) = -1 from m1_ne (by omega)), if_neg ne10]
    show (rc (nI (cd S true q d)) (nI c) (x3 - 1) 0 σ).bind _ = _
    rw [hrc _ hy, Option.bind_some, nI_1]
    rw [gst_t]
    by_cases a1 : acc.1 = -1
    · rw [if_pos a1, if_pos a1]
    · rw [if_neg a1, if_neg a1, if_neg ne10, if_neg ne10]
      by_cases a2 : V (cd S true q d) < acc.1
      · rw [if_pos a2, if_pos a2]
      · rw [if_neg a2, if_neg a2]
theorem X_ended {b i : Nat} (hn : 100 ≤ n) (hR : RX σ i S) (cw : okW S b) : ∀ (t d : Nat) (w : Bool) (q c : Nat), t ≤ 4 → t < d → q < S 1 * S 1 → c < S 1 * S 1 → F_X7_ended n i d (nI q) (nI c) (nI t) (wN w) σ = some ((gv S t w q c).1, σ)
  | _, 0, w, q, c, h4, hd, hq, hc => by omega
  | 0, d + 1, w, q, c, h4, hd, hq, hc => by
    unfold F_X7_ended
    rw [if_pos (show nI 0 ≤ 0 by decide), X_gap hR cw hq hc, Option.bind_some]
    rfl
  | t + 1, d + 1, w, q, c, h4, hd, hq, hc => by
    have ih := X_ended hn hR cw t d
    obtain ⟨nn, hnn⟩ : ∃ nn, n = nn + 1 + 1 + 1 + 1 + 1 + 1 := ⟨n - 6, by omega⟩
    have e5 : ∀ K y x4 x5, L_X7_ended_22 n i (F_X7_ended n i d) (K + 1) (nI q) (nI c) y x4 x5 (nI 5) σ = some (x5, σ) := fun K y x4 x5 => by rw [L_X7_ended_22, if_pos (by decide)]
    have pr : nI (t + 1) - 1 = nI t := nI_pred _
    unfold F_X7_ended
    rw [if_neg (show ¬ nI (t + 1) ≤ (0 : Int32) from nI_ge (a := 0) (by omega) (by omega)), if_pos (show nI (t + 1) ≤ (4 : Int32) from nI_le (show t + 1 ≤ 4 from h4) (by decide))]
    cases w with
    | false =>
      have hrc : ∀ y, y < S 1 * S 1 → F_X7_ended n i d (nI q) (nI y) (nI (t + 1) - 1) 1 σ = some ((gv S t true q y).1, σ) := fun y hy => by rw [pr]; exact ih true q y (by omega) (by omega) hq hy
      have st := fun (K k dd : Nat) (hk : k < 5) (hdd : dd < 5) (hT : pTb1.getD k 0 = nI dd) (acc : Int32 × Int32) => X_endF (n := n) (i := i) (K := K) (rc := F_X7_ended n i d) hR cw hc (V := fun y => (gv S t true q y).1) hrc hk hdd hT acc
      have l5 : L_X7_ended_22 n i (F_X7_ended n i d) (nn + 1 + 1 + 1 + 1 + 1 + 1) (nI q) (nI c) (nI (t + 1)) 0 (-1) (nI 0) σ = some ((gv S (t + 1) false q c).1, σ) := by
        rw [show (-1 : Int32) = ((-1, 0) : Int32 × Int32).1 from rfl, st _ 0 2 (by decide) (by decide) rfl, st _ 1 0 (by decide) (by decide) rfl, st _ 2 4 (by decide) (by decide) rfl, st _ 3 1 (by decide) (by decide) rfl, st _ 4 3 (by decide) (by decide) rfl, e5]
        rfl
      rw [← hnn] at l5
      rw [show L_X7_ended_22 n i (F_X7_ended n i d) n (nI q) (nI c) (nI (t + 1)) (wN false) (-1) (0 : Int32) σ = _ from l5, Option.bind_some]
    | true =>
      have hrc : ∀ y, y < S 1 * S 1 → F_X7_ended n i d (nI y) (nI c) (nI (t + 1) - 1) 0 σ = some ((gv S t false y c).1, σ) := fun y hy => by rw [pr]; exact ih false y c (by omega) (by omega) hy hc
      have st := fun (K k dd : Nat) (hk : k < 5) (hdd : dd < 5) (hT : pTb1.getD k 0 = nI dd) (acc : Int32 × Int32) => X_endT (n := n) (i := i) (K := K) (rc := F_X7_ended n i d) hR cw hq (c := c) (V := fun y => (gv S t false y c).1) hrc hk hdd hT acc
      have l5 : L_X7_ended_22 n i (F_X7_ended n i d) (nn + 1 + 1 + 1 + 1 + 1 + 1) (nI q) (nI c) (nI (t + 1)) 1 (-1) (nI 0) σ = some ((gv S (t + 1) true q c).1, σ) := by
        rw [show (-1 : Int32) = ((-1, 0) : Int32 × Int32).1 from rfl, st _ 0 2 (by decide) (by decide) rfl, st _ 1 0 (by decide) (by decide) rfl, st _ 2 4 (by decide) (by decide) rfl, st _ 3 1 (by decide) (by decide) rfl, st _ 4 3 (by decide) (by decide) rfl, e5]
        rfl
      rw [← hnn] at l5
      rw [show L_X7_ended_22 n i (F_X7_ended n i d) n (nI q) (nI c) (nI (t + 1)) (wN true) (-1) (0 : Int32) σ = _ from l5, Option.bind_some]
/-- one way out of the first turn -/
theorem X_play1 {b K d k : Nat} (hn : 100 ≤ n) (cw : okW S b) {u t : Nat} (hu : u < S 2) (ht : t < 4) (hk : k < 5) (hd : d < 5) (hT : pTb1.getD k 0 = nI d) (acc : Int32 × Int32) (hR : RX σ 25 S) (h2 : σ.1 240 2 = acc.1) (h3 : acc.1 ≠ -1 → σ.1 240 3 = acc.2) : ∃ τ, L_X7_play_8 n 25 (K + 1) (nI u) (nI (t + 1)) (nI k) σ = L_X7_play_8 n 25 K (nI u) (nI (t + 1)) (nI (k + 1)) τ ∧ RX τ 25 S ∧ τ.1 240 2 = (gsx true (fun y => (gv S t false y (S (13 + 4 * u))).1) acc (cd S true (S 11) d)).1 ∧ ((gsx true (fun y => (gv S t false y (S (13 + 4 * u))).1) acc (cd S true (S 11) d)).1 ≠ -1 → τ.1 240 3 = (gsx true (fun y => (gv S t false y (S (13 + 4 * u))).1) acc (cd S true (S 11) d)).2) ∧ agr [240] σ τ := by
  have h36 := okW_36 cw
  have h6 := cw.2.2.1
  have hc := (cw.2.2.2.2.1 u hu).1
  rw [L_X7_play_8, if_neg (show ¬ (5 : Int32) ≤ nI k from nI_ge (show k < 5 from hk) (by decide)), nI_clamp (show k < 2 ^ 31 by omega), if_pos ⟨nI_pos' (by omega), hk⟩, hT, hR.2.2.1, X_cdP hR cw cw.2.2.2.1 hd, Option.bind_some]
  unfold gsx
  by_cases e : cd S true (S 11) d = 99
  · rw [if_pos e, e, if_pos (show oI 99 = (-1 : Int32) from rfl), nI_1]
    exact ⟨σ, rfl, hR, h2, h3, agr_refl⟩
  · have hy := cd_lt cw cw.2.2.2.1 e
    have eo : oI (cd S true (S 11) d) = nI (cd S true (S 11) d) := by unfold oI; rw [if_neg e]
    rw [if_neg e, eo, if_neg (show ¬ nI (cd S true (S 11) d) = -1 from m1_ne (by omega)), nI_clamp (show u < 2 ^ 31 by omega), if_pos ⟨nI_pos' (by omega), by omega⟩]
    have he := X_ended (n := n) (i := 25) hn hR cw t 6 false (cd S true (S 11) d) (S (13 + 4 * u)) (by omega) (by omega) hy hc
    show ∃ τ, (F_X7_ended n 25 6 (nI (cd S true (S 11) d)) (σ.1 26 u) (nI (t + 1) - 1) 0 σ).bind _ = _ ∧ _
    rw [(RX_tent hR hu).1, show nI (t + 1) - 1 = nI t from nI_pred _, show F_X7_ended n 25 6 (nI (cd S true (S 11) d)) (nI (S (13 + 4 * u))) (nI t) 0 σ = _ from he, Option.bind_some]
    show ∃ τ, (if σ.1 240 2 = (-1 : Int32) then L_X7_play_8 n 25 K (nI u) (nI (t + 1)) (nI k + 1) (psI (psI σ 240 2 (gv S t false (cd S true (S 11) d) (S (13 + 4 * u))).1) 240 3 (nI (cd S true (S 11) d))) else (if σ.1 240 2 ≤ (gv S t false (cd S true (S 11) d) (S (13 + 4 * u))).1 then L_X7_play_8 n 25 K (nI u) (nI (t + 1)) (nI k + 1) σ else L_X7_play_8 n 25 K (nI u) (nI (t + 1)) (nI k + 1) (psI (psI σ 240 2 (gv S t false (cd S true (S 11) d) (S (13 + 4 * u))).1) 240 3 (nI (cd S true (S 11) d))))) = _ ∧ _
    rw [nI_1, h2]
    dsimp only
    generalize (gv S t false (cd S true (S 11) d) (S (13 + 4 * u))).1 = v
    have ag : agr [240] σ (psI (psI σ 240 2 v) 240 3 (nI (cd S true (S 11) d))) := agr_trans (agr_psI (by simp)) (agr_psI (by simp))
    have t2 : (psI (psI σ 240 2 v) 240 3 (nI (cd S true (S 11) d))).1 240 2 = v := by rw [psI_eq, if_neg (by decide), psI_eq, if_pos rfl]
    have t3 : (psI (psI σ 240 2 v) 240 3 (nI (cd S true (S 11) d))).1 240 3 = nI (cd S true (S 11) d) := by rw [psI_eq, if_pos rfl]
    rw [gst_t]
    by_cases a1 : acc.1 = -1
    · rw [if_pos a1, if_pos a1]
      exact ⟨_, rfl, RX_agr hR ag (by decide), t2, fun _ => t3, ag⟩
    · rw [if_neg a1, if_neg a1]
      by_cases a2 : v < acc.1
      · rw [if_pos a2, if_neg (Int32.not_le.mpr a2)]
        exact ⟨_, rfl, RX_agr hR ag (by decide), t2, fun _ => t3, ag⟩
      · rw [if_neg a2, if_pos (Int32.not_lt.mp a2)]
        exact ⟨σ, rfl, hR, h2, h3, agr_refl⟩
end K19
