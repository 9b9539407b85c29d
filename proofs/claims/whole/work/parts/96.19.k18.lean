/-! look: both sides alike. -/
section K18
variable {B : Nat → Int32} {sz z h p : Nat} {cs : Nat → List CL} {S S' : Nat → Nat} {H : Nat → Nat → Nat} {fo x : Int32} {im : Nat → Option IMG} {σ τ : PS} {n : Nat}
/-- how many are where one is -/
noncomputable def crw (cs : Nat → List CL) (S : Nat → Nat) (z r i : Nat) : Nat → Nat
  | 0 => 0
  | k + 1 => if flB cs S z k = true ∧ nI (plN cs S k i) = nI (plN cs S r i) then crw cs S z r i k + 1 else crw cs S z r i k
noncomputable def gcK (cs : Nat → List CL) (S : Nat → Nat) (z i : Nat) : Nat → Nat
  | 0 => 0
  | k + 1 => if flB cs S z k = true ∧ gcK cs S z i k < crw cs S z k i 7 then crw cs S z k i 7 else gcK cs S z i k
theorem crw_le {r i : Nat} : ∀ k, crw cs S z r i k ≤ k
  | 0 => Nat.le_refl _
  | k + 1 => by
    have := crw_le (r := r) (i := i) k
    unfold crw
    split <;> omega
theorem gcK_le {i : Nat} : ∀ k, gcK cs S z i k ≤ 7
  | 0 => by show 0 ≤ 7; omega
  | k + 1 => by
    have := gcK_le (i := i) k
    have := crw_le (cs := cs) (S := S) (z := z) (r := k) (i := i) 7
    unfold gcK
    split <;> omega
theorem crw_hi {r i : Nat} : ∀ k, z + 1 ≤ k → crw cs S z r i k = crw cs S z r i (z + 1)
  | 0, h => by omega
  | k + 1, h => by
    by_cases e : k = z
    · rw [e]
    · have ih := crw_hi (r := r) (i := i) k (by omega)
      show (if flB cs S z k = true ∧ _ then _ else crw cs S z r i k) = _
      rw [if_neg (fun w => by rw [fl_hi (by omega)] at w; exact absurd w.1 (by decide))]
      exact ih
theorem gcK_hi {i : Nat} : ∀ k, z + 1 ≤ k → gcK cs S z i k = gcK cs S z i (z + 1)
  | 0, h => by omega
  | k + 1, h => by
    by_cases e : k = z
    · rw [e]
    · have ih := gcK_hi (i := i) k (by omega)
      show (if flB cs S z k = true ∧ _ then _ else gcK cs S z i k) = _
      rw [if_neg (fun w => by rw [fl_hi (by omega)] at w; exact absurd w.1 (by decide))]
      exact ih
theorem cnF_0 : ∀ k, cnF cs S z k = 0 ↔ ∀ r, r < k → ¬ flB cs S z r = true
  | 0 => ⟨fun _ r hr => by omega, fun _ => rfl⟩
  | k + 1 => by
    have ih := cnF_0 k
    show (if flB cs S z k = true then cnF cs S z k + 1 else cnF cs S z k) = 0 ↔ _
    by_cases q : flB cs S z k = true
    · rw [if_pos q]
      exact ⟨fun w => by omega, fun w => absurd q (w k (by omega))⟩
    · rw [if_neg q, ih]
      exact ⟨fun w r hr => by by_cases e : r = k; exact e ▸ q; exact w r (by omega), fun w r hr => w r (by omega)⟩
theorem crw_one {r i : Nat} (hf : flB cs S z r = true) : ∀ k, r < k → 1 ≤ crw cs S z r i k
  | 0, h => by omega
  | k + 1, h => by
    unfold crw
    by_cases e : k = r
    · rw [if_pos ⟨by rw [e]; exact hf, by rw [e]⟩]; omega
    · have := crw_one hf (i := i) k (by omega)
      split <;> omega
theorem gcK_none {i : Nat} : ∀ k, (∀ r, r < k → ¬ flB cs S z r = true) → gcK cs S z i k = 0
  | 0, _ => rfl
  | k + 1, h => by
    have ih := gcK_none (i := i) k (fun r hr => h r (by omega))
    show (if flB cs S z k = true ∧ _ then _ else gcK cs S z i k) = _
    rw [if_neg (fun w => h k (by omega) w.1)]
    exact ih
theorem gcK_some {i r : Nat} (hf : flB cs S z r = true) (hr : r < 7) : ∀ k, r < k → 1 ≤ gcK cs S z i k
  | 0, h => by omega
  | k + 1, h => by
    have c1 := crw_one (i := i) hf 7 hr
    unfold gcK
    by_cases e : k = r
    · subst e
      split
      · exact c1
      · rename_i w
        apply Classical.byContradiction
        intro q
        exact w ⟨hf, by omega⟩
    · have := gcK_some hf hr (i := i) k (by omega)
      split
      · rename_i w; omega
      · exact this
theorem gcK_0 {i : Nat} : gcK cs S z i 7 = 0 ↔ cnF cs S z 7 = 0 := by
  constructor
  · intro h
    rw [cnF_0]
    intro r hr hf
    have := gcK_some (i := i) hf hr 7 hr
    omega
  · intro h
    exact gcK_none 7 ((cnF_0 7).mp h)
theorem X_gc16 (hI : trI cs S z 7 σ) {r i : Nat} (hr : r < 7) (hi : i < 61) {x2 : Int32} : ∀ (m K k : Nat) (x4 : Int32), k + m = 7 → m < K → (flB cs S z r = true → x4 = nI (crw cs S z r i k)) → ∃ c, L_X8_greatestCrowd_16 n K (nI i) x2 (nI r) x4 (nI k) σ = some (nI i, x2, nI r, c, σ) ∧ (flB cs S z r = true → c = nI (crw cs S z r i 7))
  | _, 0, k, x4, hk, hK, h4 => by omega
  | 0, K + 1, k, x4, hk, hK, h4 => by
    rw [L_X8_greatestCrowd_16, if_pos (show (7 : Int32) ≤ nI k from nI_le (show 7 ≤ k by omega) (by omega))]
    exact ⟨x4, rfl, by rw [show 7 = k by omega]; exact h4⟩
  | m + 1, K + 1, k, x4, hk, hK, h4 => by
    have ec : crw cs S z r i (k + 1) = if flB cs S z k = true ∧ nI (plN cs S k i) = nI (plN cs S r i) then crw cs S z r i k + 1 else crw cs S z r i k := rfl
    rw [L_X8_greatestCrowd_16, if_neg (show ¬ (7 : Int32) ≤ nI k from nI_ge (show k < 7 by omega) (by decide)), nI_clamp (show k < 2 ^ 31 by omega), if_pos ⟨nI_pos' (by omega), by omega⟩, hI.1 k (by omega), nI_1]
    by_cases q : flB cs S z k = true
    · rw [if_neg (fun w => flI_0.mp w q), nI_clamp (show i < 2 ^ 31 by omega), nI_clamp (show r < 2 ^ 31 by omega), if_pos ⟨nI_pos' (by omega), hi⟩, if_pos ⟨nI_pos' (by omega), hr⟩]
      have kz : k ≤ z := by
        apply Classical.byContradiction
        intro w
        rw [fl_hi (by omega)] at q
        exact absurd q (by decide)
      rw [hI.2 k (by omega) kz i hi]
      by_cases y : nI (plN cs S k i) = σ.1 (232 + r) i
      · rw [if_pos y]
        exact X_gc16 hI hr hi m K (k + 1) (x4 + 1) (by omega) (by omega) (fun hf => by
          have rz : r ≤ z := by
            apply Classical.byContradiction
            intro w
            rw [fl_hi (by omega)] at hf
            exact absurd hf (by decide)
          rw [hI.2 r (by omega) rz i hi] at y
          rw [ec, if_pos ⟨q, y⟩, h4 hf, nI_1])
      · rw [if_neg y]
        exact X_gc16 hI hr hi m K (k + 1) x4 (by omega) (by omega) (fun hf => by
          have rz : r ≤ z := by
            apply Classical.byContradiction
            intro w
            rw [fl_hi (by omega)] at hf
            exact absurd hf (by decide)
          rw [hI.2 r (by omega) rz i hi] at y
          rw [ec, if_neg (fun w => y w.2), h4 hf])
    · rw [if_pos (flI_0.mpr q)]
      exact X_gc16 hI hr hi m K (k + 1) x4 (by omega) (by omega) (fun hf => by rw [ec, if_neg (fun w => q w.1), h4 hf])
theorem X_gc4 (hn : 100 ≤ n) (hI : trI cs S z 7 σ) {i : Nat} (hi : i < 61) : ∀ (m K r : Nat), r + m = 7 → m < K → L_X8_greatestCrowd_4 n K (nI i) (nI (gcK cs S z i r)) (nI r) σ = some (nI (gcK cs S z i 7), σ)
  | _, 0, r, hr, hK => by omega
  | 0, K + 1, r, hr, hK => by
    rw [L_X8_greatestCrowd_4, if_pos (show (7 : Int32) ≤ nI r from nI_le (show 7 ≤ r by omega) (by omega)), show r = 7 by omega]
  | m + 1, K + 1, r, hr, hK => by
    have ih := X_gc4 hn hI hi m K (r + 1) (by omega) (by omega)
    rw [show gcK cs S z i (r + 1) = if flB cs S z r = true ∧ gcK cs S z i r < crw cs S z r i 7 then crw cs S z r i 7 else gcK cs S z i r from rfl] at ih
    obtain ⟨c, c1, c2⟩ := X_gc16 (n := n) hI (r := r) (i := i) (by omega) hi (x2 := nI (gcK cs S z i r)) 7 n 0 0 (by omega) (by omega) (fun _ => rfl)
    have g7 := gcK_le (cs := cs) (S := S) (z := z) (i := i) r
    have w7 := crw_le (cs := cs) (S := S) (z := z) (r := r) (i := i) 7
    rw [L_X8_greatestCrowd_4, if_neg (show ¬ (7 : Int32) ≤ nI r from nI_ge (show r < 7 by omega) (by decide)), show L_X8_greatestCrowd_16 n n (nI i) (nI (gcK cs S z i r)) (nI r) (0 : Int32) (0 : Int32) σ = _ from c1, Option.bind_some]
    show (if 0 ≤ nI r ∧ (nI r).toNatClampNeg < 7 then (if σ.1 239 ((nI r).toNatClampNeg) = 0 then L_X8_greatestCrowd_4 n K (nI i) (nI (gcK cs S z i r)) (nI r + 1) σ else (if c ≤ nI (gcK cs S z i r) then L_X8_greatestCrowd_4 n K (nI i) (nI (gcK cs S z i r)) (nI r + 1) σ else L_X8_greatestCrowd_4 n K (nI i) c (nI r + 1) σ)) else none) = _
    rw [nI_clamp (by omega), if_pos ⟨nI_pos' (by omega), by omega⟩, hI.1 r (by omega), nI_1]
    by_cases q : flB cs S z r = true
    · rw [if_neg (fun w => flI_0.mp w q), c2 q]
      by_cases y : gcK cs S z i r < crw cs S z r i 7
      · rw [if_pos ⟨q, y⟩] at ih
        rw [if_neg (nI_ge y (by omega))]
        exact ih
      · rw [if_neg (fun w => y w.2)] at ih
        rw [if_pos (nI_le (by omega) (by omega))]
        exact ih
    · rw [if_neg (fun w => q w.1)] at ih
      rw [if_pos (flI_0.mpr q)]
      exact ih
theorem X_gc (hn : 100 ≤ n) (hI : trI cs S z 7 σ) {i : Nat} (hi : i < 61) : F_X8_greatestCrowd n (nI i) σ = some (nI (gcK cs S z i 7), σ) := by
  unfold F_X8_greatestCrowd
  rw [show L_X8_greatestCrowd_4 n n (nI i) (0 : Int32) (0 : Int32) σ = _ from X_gc4 hn hI hi 7 n 0 (by omega) (by omega), Option.bind_some]
theorem M_al18 (hz : z ≤ 6) (hI : ffI cs S z (z + 1) σ) (h2 : σ.1 249 2 = nI z) {r i : Nat} (hr : r ≤ z) (hi : i < 61) (hf : flB cs S z r = true) {x2 : Int32} : ∀ (m K k : Nat), k + m = z + 1 → m < K → L_X12_alikeAt_18 n K (nI i) x2 (nI r) (nI (crw cs S z r i k)) (nI k) σ = some (nI i, x2, nI r, nI (crw cs S z r i (z + 1)), σ)
  | _, 0, k, hk, hK => by omega
  | 0, K + 1, k, hk, hK => by
    rw [L_X12_alikeAt_18, h2, if_pos (nI_lt (show z < k by omega) (by omega)), show z + 1 = k by omega]
  | m + 1, K + 1, k, hk, hK => by
    have ih := M_al18 hz hI h2 hr hi hf (x2 := x2) m K (k + 1) (by omega) (by omega)
    rw [show crw cs S z r i (k + 1) = if flB cs S z k = true ∧ nI (plN cs S k i) = nI (plN cs S r i) then crw cs S z r i k + 1 else crw cs S z r i k from rfl] at ih
    rw [L_X12_alikeAt_18, h2, if_neg (nI_nlt (show k ≤ z by omega) (by omega)), nI_clamp (show r < 2 ^ 31 by omega), nI_clamp (show k < 2 ^ 31 by omega), if_pos ⟨nI_pos' (by omega), by omega⟩, hI.1 r (by omega), if_neg (fun w => flI_0.mp w hf), if_pos ⟨nI_pos' (by omega), by omega⟩, hI.1 k (by omega), nI_1, Int32.add_zero, show nI (crw cs S z r i k) + (1 : Int32) = nI (crw cs S z r i k + 1) from nI_1 _]
    by_cases q : flB cs S z k = true
    · have m1 := Nat.mul_le_mul_left 61 (show r ≤ 6 by omega)
      have m2 := Nat.mul_le_mul_left 61 (show k ≤ 6 by omega)
      rw [if_neg (fun w => flI_0.mp w q), spot_is, Option.bind_some]
      show (if 0 ≤ nI (61 * r + i) ∧ (nI (61 * r + i)).toNatClampNeg < 427 then (F_X12_spot n (nI k) (nI i) σ).bind _ else none) = _
      rw [nI_clamp (by omega), if_pos ⟨nI_pos' (by omega), by omega⟩, spot_is, Option.bind_some]
      show (if 0 ≤ nI (61 * k + i) ∧ (nI (61 * k + i)).toNatClampNeg < 427 then (if σ.1 272 (61 * r + i) = σ.1 272 ((nI (61 * k + i)).toNatClampNeg) then L_X12_alikeAt_18 n K (nI i) x2 (nI r) (nI (crw cs S z r i k + 1)) (nI (k + 1)) σ else L_X12_alikeAt_18 n K (nI i) x2 (nI r) (nI (crw cs S z r i k)) (nI (k + 1)) σ) else none) = _
      rw [nI_clamp (show 61 * k + i < 2 ^ 31 by omega), if_pos ⟨nI_pos' (by omega), by omega⟩, hI.2 r (by omega) i hi, hI.2 k (by omega) i hi]
      by_cases y : nI (plN cs S k i) = nI (plN cs S r i)
      · rw [if_pos ⟨q, y⟩] at ih
        rw [if_pos y.symm]
        exact ih
      · rw [if_neg (fun w => y w.2)] at ih
        rw [if_neg (fun w => y w.symm)]
        exact ih
    · rw [if_neg (fun w => q w.1)] at ih
      rw [if_pos (flI_0.mpr q)]
      exact ih
theorem M_al4 (hn : 100 ≤ n) (hz : z ≤ 6) (hI : ffI cs S z (z + 1) σ) (h2 : σ.1 249 2 = nI z) {i : Nat} (hi : i < 61) : ∀ (m K r : Nat), r + m = z + 1 → m < K → L_X12_alikeAt_4 n K (nI i) (nI (gcK cs S z i r)) (nI r) σ = some (nI (gcK cs S z i (z + 1)), σ)
  | _, 0, r, hr, hK => by omega
  | 0, K + 1, r, hr, hK => by
    rw [L_X12_alikeAt_4, h2, if_pos (nI_lt (show z < r by omega) (by omega)), show z + 1 = r by omega]
  | m + 1, K + 1, r, hr, hK => by
    have ih := M_al4 hn hz hI h2 hi m K (r + 1) (by omega) (by omega)
    rw [show gcK cs S z i (r + 1) = if flB cs S z r = true ∧ gcK cs S z i r < crw cs S z r i 7 then crw cs S z r i 7 else gcK cs S z i r from rfl] at ih
    have g7 := gcK_le (cs := cs) (S := S) (z := z) (i := i) r
    have w7 := crw_le (cs := cs) (S := S) (z := z) (r := r) (i := i) 7
    rw [L_X12_alikeAt_4, h2, if_neg (nI_nlt (show r ≤ z by omega) (by omega))]
    by_cases q : flB cs S z r = true
    · rw [show L_X12_alikeAt_18 n n (nI i) (nI (gcK cs S z i r)) (nI r) (0 : Int32) (0 : Int32) σ = _ from M_al18 (n := n) hz hI h2 (r := r) (by omega) hi q (z + 1) n 0 (by omega) (by omega), Option.bind_some, ← crw_hi (cs := cs) (S := S) (z := z) (r := r) (i := i) 7 (by omega)]
      show (if nI (crw cs S z r i 7) ≤ nI (gcK cs S z i r) then L_X12_alikeAt_4 n K (nI i) (nI (gcK cs S z i r)) (nI r + 1) σ else L_X12_alikeAt_4 n K (nI i) (nI (crw cs S z r i 7)) (nI r + 1) σ) = _
      rw [nI_1]
      by_cases y : gcK cs S z i r < crw cs S z r i 7
      · rw [if_pos ⟨q, y⟩] at ih
        rw [if_neg (nI_ge y (by omega))]
        exact ih
      · rw [if_neg (fun w => y w.2)] at ih
        rw [if_pos (nI_le (by omega) (by omega))]
        exact ih
    · rw [if_neg (fun w => q w.1)] at ih
      have e0 : L_X12_alikeAt_18 n n (nI i) (nI (gcK cs S z i r)) (nI r) (0 : Int32) (0 : Int32) σ = some (nI i, nI (gcK cs S z i r), nI r, 0, σ) := by
        obtain ⟨nn, hnn⟩ : ∃ nn, n = nn + 1 := ⟨n - 1, by omega⟩
        have : L_X12_alikeAt_18 n (nn + 1) (nI i) (nI (gcK cs S z i r)) (nI r) (0 : Int32) (0 : Int32) σ = some (nI i, nI (gcK cs S z i r), nI r, 0, σ) := by
          rw [L_X12_alikeAt_18, h2, if_neg (show ¬ nI z < (0 : Int32) from nI_n0 (by omega)), nI_clamp (show r < 2 ^ 31 by omega), if_pos ⟨nI_pos' (by omega), by omega⟩, hI.1 r (by omega), if_pos (flI_0.mpr q)]
        exact (congrArg (fun q => L_X12_alikeAt_18 n q (nI i) (nI (gcK cs S z i r)) (nI r) (0 : Int32) (0 : Int32) σ) hnn).trans this
      rw [e0, Option.bind_some]
      show (if (0 : Int32) ≤ nI (gcK cs S z i r) then L_X12_alikeAt_4 n K (nI i) (nI (gcK cs S z i r)) (nI r + 1) σ else _) = _
      rw [if_pos (nI_pos' (by omega)), nI_1]
      exact ih
theorem M_al (hn : 100 ≤ n) (hz : z ≤ 6) (hI : ffI cs S z (z + 1) σ) (h2 : σ.1 249 2 = nI z) {i : Nat} (hi : i < 61) : F_X12_alikeAt n (nI i) σ = some (nI (gcK cs S z i 7), σ) := by
  unfold F_X12_alikeAt
  rw [show L_X12_alikeAt_4 n n (nI i) (0 : Int32) (0 : Int32) σ = _ from M_al4 hn hz hI h2 hi (z + 1) n 0 (by omega) (by omega), Option.bind_some, gcK_hi (cs := cs) (S := S) (z := z) 7 (by omega)]
/-- the step at which they part most -/
noncomputable def pwK (cs : Nat → List CL) (S : Nat → Nat) (z : Nat) : Nat → Nat
  | 0 => 0
  | k + 1 => if gcK cs S z k 7 < gcK cs S z (pwK cs S z k) 7 then k else pwK cs S z k
theorem pwK_lt : ∀ k, pwK cs S z k ≤ k
  | 0 => Nat.le_refl _
  | k + 1 => by
    have := pwK_lt k
    unfold pwK
    split <;> omega
theorem pwK_1 : pwK cs S z 1 = 0 := by
  show (if gcK cs S z 0 7 < gcK cs S z 0 7 then 0 else 0) = 0
  split <;> rfl
theorem X_fp22 (hn : 100 ≤ n) : ∀ (m K k : Nat) (σ : PS), trI cs S z 7 σ → (k ≠ 0 → σ.1 224 0 = nI (pwK cs S z k) ∧ σ.1 224 1 = nI (gcK cs S z (pwK cs S z k) 7)) → (k = 0 → σ.1 224 0 = -2) → k + m = 61 → m < K → ∃ τ, L_X8_findParting_22 n K (nI k) σ = some τ ∧ τ.1 224 0 = nI (pwK cs S z 61) ∧ τ.1 224 1 = nI (gcK cs S z (pwK cs S z 61) 7) ∧ agr [224] σ τ
  | _, 0, k, σ, hI, h1, h0, hk, hK => by omega
  | 0, K + 1, k, σ, hI, h1, h0, hk, hK => by
    have : k = 61 := by omega
    subst this
    rw [L_X8_findParting_22, if_pos (by decide)]
    exact ⟨σ, rfl, (h1 (by decide)).1, (h1 (by decide)).2, agr_refl⟩
  | m + 1, K + 1, k, σ, hI, h1, h0, hk, hK => by
    have g7 := gcK_le (cs := cs) (S := S) (z := z) (i := k) 7
    have g7' := gcK_le (cs := cs) (S := S) (z := z) (i := pwK cs S z k) 7
    rw [L_X8_findParting_22, if_neg (show ¬ (60 : Int32) < nI k from nI_nlt (show k ≤ 60 by omega) (by decide)), X_gc hn hI (by omega), Option.bind_some]
    show ∃ τ, (if σ.1 224 0 = (-2 : Int32) then L_X8_findParting_22 n K (nI k + 1) (psI (psI σ 224 0 (nI k)) 224 1 (nI (gcK cs S z k 7))) else (if σ.1 224 1 ≤ nI (gcK cs S z k 7) then L_X8_findParting_22 n K (nI k + 1) σ else L_X8_findParting_22 n K (nI k + 1) (psI (psI σ 224 0 (nI k)) 224 1 (nI (gcK cs S z k 7))))) = some τ ∧ _
    rw [nI_1]
    have ag : agr [224] σ (psI (psI σ 224 0 (nI k)) 224 1 (nI (gcK cs S z k 7))) := agr_trans (agr_psI (by simp)) (agr_psI (by simp))
    have take : pwK cs S z (k + 1) = k → ∃ τ, L_X8_findParting_22 n K (nI (k + 1)) (psI (psI σ 224 0 (nI k)) 224 1 (nI (gcK cs S z k 7))) = some τ ∧ τ.1 224 0 = nI (pwK cs S z 61) ∧ τ.1 224 1 = nI (gcK cs S z (pwK cs S z 61) 7) ∧ agr [224] σ τ := by
      intro e
      obtain ⟨τ, t1, t2, t3, t4⟩ := X_fp22 hn m K (k + 1) _ ⟨fun q hq => by rw [(ag 239 (by decide)).1]; exact hI.1 q hq, fun q hq hq2 i hi => by rw [(ag (232 + q) (by simp; omega)).1]; exact hI.2 q hq hq2 i hi⟩ (fun _ => ⟨by rw [psI_eq, if_neg (by decide), psI_eq, if_pos rfl, e], by rw [psI_eq, if_pos rfl, e]⟩) (fun w => by omega) (by omega) (by omega)
      exact ⟨τ, t1, t2, t3, agr_trans ag t4⟩
    by_cases k0 : k = 0
    · subst k0
      rw [if_pos (h0 rfl)]
      exact take pwK_1
    · obtain ⟨e1, e2⟩ := h1 k0
      have pl := pwK_lt (cs := cs) (S := S) (z := z) k
      have ep : pwK cs S z (k + 1) = if gcK cs S z k 7 < gcK cs S z (pwK cs S z k) 7 then k else pwK cs S z k := rfl
      rw [if_neg (show ¬ σ.1 224 0 = -2 by
        rw [e1]
        intro q
        have := congrArg Int32.toInt q
        rw [nI_toInt (by omega), show (-2 : Int32).toInt = -2 by decide] at this
        omega), e2]
      by_cases y : gcK cs S z k 7 < gcK cs S z (pwK cs S z k) 7
      · rw [if_neg (nI_ge y (by omega))]
        exact take (by rw [ep, if_pos y])
      · rw [if_neg y] at ep
        rw [if_pos (nI_le (by omega) (by omega))]
        exact X_fp22 hn m K (k + 1) σ hI (fun _ => by rw [ep]; exact ⟨e1, e2⟩) (fun w => by omega) (by omega) (by omega)
theorem M_look27 (hn : 100 ≤ n) (hz : z ≤ 6) (hI : ffI cs S z (z + 1) σ) (h2 : σ.1 249 2 = nI z) {w : Int32} : ∀ (m K k : Nat), 1 ≤ k → k + m = 61 → m < K → L_X12_look_27 n K w (nI (pwK cs S z k)) (nI k) σ = some (w, nI (pwK cs S z 61), σ)
  | _, 0, k, h1, hk, hK => by omega
  | 0, K + 1, k, h1, hk, hK => by
    rw [L_X12_look_27, if_pos (show (60 : Int32) < nI k from nI_lt (show 60 < k by omega) (by omega)), show 61 = k by omega]
  | m + 1, K + 1, k, h1, hk, hK => by
    have ih := M_look27 hn hz hI h2 (w := w) m K (k + 1) (by omega) (by omega) (by omega)
    have g7 := gcK_le (cs := cs) (S := S) (z := z) (i := k) 7
    have g7' := gcK_le (cs := cs) (S := S) (z := z) (i := pwK cs S z k) 7
    have pl := pwK_lt (cs := cs) (S := S) (z := z) k
    rw [L_X12_look_27, if_neg (show ¬ (60 : Int32) < nI k from nI_nlt (show k ≤ 60 by omega) (by decide)), M_al hn hz hI h2 (by omega), Option.bind_some]
    show (F_X12_alikeAt n (nI (pwK cs S z k)) σ).bind _ = _
    rw [M_al hn hz hI h2 (by omega), Option.bind_some]
    show (if nI (gcK cs S z (pwK cs S z k) 7) ≤ nI (gcK cs S z k 7) then L_X12_look_27 n K w (nI (pwK cs S z k)) (nI k + 1) σ else L_X12_look_27 n K w (nI k) (nI k + 1) σ) = _
    rw [nI_1]
    rw [show pwK cs S z (k + 1) = if gcK cs S z k 7 < gcK cs S z (pwK cs S z k) 7 then k else pwK cs S z k from rfl] at ih
    by_cases y : gcK cs S z k 7 < gcK cs S z (pwK cs S z k) 7
    · rw [if_pos y] at ih
      rw [if_neg (nI_ge y (by omega))]
      exact ih
    · rw [if_neg y] at ih
      rw [if_pos (nI_le (by omega) (by omega))]
      exact ih
theorem K_look (hn : 3000 ≤ n) (a : Int32) (hi : Inv σ) : Kok (F_X11_look n a) (F_X12_look n a) σ := by
  obtain ⟨B, sz, z, cs, S, h, p, H, fo, x, im, hg, hx, hm⟩ := hi
  rcases id hg.2.2.1 with q | hc
  · refine K_noC hg hx hm (-1) (fun τ hr => ?_) (fun τ hr => ?_)
    · unfold F_X11_look; rw [X_pitched hr (by rw [q]; decide), Option.bind_some, if_pos (q 1), if_pos rfl]
    · unfold F_X12_look; rw [M_isCamp hr (by rw [q]; decide), Option.bind_some, if_neg (show ¬ S 0 = 1 by rw [q]; decide), if_pos rfl]
  obtain ⟨c0, cw, cb, c10, c178, cnt, chi⟩ := id hc
  have h1 := cw.1
  have h1' := cw.2.1
  have hs1 : ¬ S 1 = 0 := by omega
  have hz := hg.2.1
  rcases rng a 0 1 (by decide) with ⟨w, _, hw2, hw31, e⟩ | hout | q
  rotate_left
  · refine K_noC hg hx hm (-1) (fun τ hr => ?_) (fun τ hr => ?_)
    · unfold F_X11_look
      rw [X_pitched hr (by omega), Option.bind_some, if_neg hs1, if_neg ne10]
      by_cases w : a < 0
      · rw [if_pos w]
      · rw [if_neg w, if_neg (show ¬ a ≤ (1 : Int32) from Int32.not_le.mpr (lt_of_out hout w))]
    · unfold F_X12_look
      rw [M_isCamp hr (by omega), Option.bind_some, if_pos c0, if_neg ne10, show (0 : Int64) = lN 0 from rfl, show (1 : Int64) = lN 1 from rfl, M_in_out (by decide) (by decide) hout, Option.bind_some, if_pos rfl]
  · exact absurd q (by decide)
  subst e
  have pc1 : ¬ nI w < (0 : Int32) := nI_n0 (by omega)
  have pc2 : nI w ≤ (1 : Int32) := nI_le (show w ≤ 1 from hw2) (by decide)
  have hR := hx.2.2.2.1.1
  obtain ⟨τ1, a1, a2, a3⟩ := X_trace (n := n) hn hg hx hc
  generalize hV : psI (psI τ1 224 0 (-2 : Int32)) 224 1 (-2 : Int32) = V
  have v0 : V.1 224 0 = -2 := by rw [← hV, psI_eq, if_neg (by decide), psI_eq, if_pos rfl]
  have v1 : V.1 224 1 = -2 := by rw [← hV, psI_eq, if_pos rfl]
  have ag0 : agr [224] τ1 V := by rw [← hV]; exact agr_trans (agr_psI (by simp)) (agr_psI (by simp))
  have hI : trI cs S z 7 V := ⟨fun q hq => by rw [(ag0 239 (by decide)).1]; exact a2.1 q hq, fun q hq hq2 i hi => by rw [(ag0 (232 + q) (by simp; omega)).1]; exact a2.2 q hq hq2 i hi⟩
  have pl := pwK_lt (cs := cs) (S := S) (z := z) 60
  have pl61 : pwK cs S z 61 ≤ 60 := by
    show (if gcK cs S z 60 7 < gcK cs S z (pwK cs S z 60) 7 then 60 else pwK cs S z 60) ≤ 60
    split <;> omega
  have g7 := gcK_le (cs := cs) (S := S) (z := z) (i := pwK cs S z 61) 7
  have preX : F_X11_look n (nI w) σ = (F_X8_findParting n τ1).bind (fun q8 => (if nI w = 0 then some ((q8.1 224 0), q8) else some ((q8.1 224 1), q8))) := by
    unfold F_X11_look
    rw [X_pitched hR (by omega), Option.bind_some, if_neg hs1, if_neg ne10, if_neg pc1, if_pos pc2]
    show (F_X8_trace n 18 σ).bind _ = _
    rw [a1, Option.bind_some]
  have preM : ∀ τ, IM τ B sz z cs S h H fo x im → ∃ υ, ffI cs S z (z + 1) υ ∧ υ.1 249 2 = nI z ∧ sM τ υ ∧ F_X12_look n (nI w) τ = (if nI (gcK cs S z (pwK cs S z 61) 7) = 0 then some ((-2 : Int32), υ) else (if nI w = 0 then some (nI (pwK cs S z 61), υ) else some (nI (gcK cs S z (pwK cs S z 61) 7), υ))) := by
    intro τ hm1
    obtain ⟨υ, b1, b2, b3, b4⟩ := M_fills (n := n) hn hg hc hm1
    refine ⟨υ, b2, b3, b4, ?_⟩
    unfold F_X12_look
    rw [M_isCamp hm1.2.2.2.1 (by omega), Option.bind_some, if_pos c0, if_neg ne10, show (0 : Int64) = lN 0 from rfl, show (1 : Int64) = lN 1 from rfl, M_in_in (by decide) (by decide) hw31 (by omega) hw2, Option.bind_some, if_neg ne10]
    show (F_X12_fillsFits n τ).bind _ = _
    rw [b1, Option.bind_some]
    have lp := M_look27 (n := n) (w := nI w) (cs := cs) (S := S) (z := z) (σ := υ) (by omega) hz b2 b3 60 n 1 (by omega) (by omega) (by omega)
    rw [pwK_1] at lp
    rw [show L_X12_look_27 n n (nI w) (0 : Int32) (1 : Int32) υ = _ from lp, Option.bind_some]
    show (F_X12_alikeAt n (nI (pwK cs S z 61)) υ).bind _ = _
    have ha := M_al (n := n) (by omega) hz b2 b3 (show pwK cs S z 61 < 61 by omega)
    rw [ha, Option.bind_some]
    by_cases q : nI (gcK cs S z (pwK cs S z 61) 7) = 0
    · rw [if_pos q, if_pos q]
    · rw [if_neg q, if_neg q]
      by_cases w0 : nI w = 0
      · rw [if_pos w0, if_pos w0]
      · rw [if_neg w0, if_neg w0]
        show (F_X12_alikeAt n (nI (pwK cs S z 61)) υ).bind _ = _
        rw [ha, Option.bind_some]
  have hfit := X_fitting (n := n) (σ := V) (by omega) hI.1
  by_cases c7 : cnF cs S z 7 = 0
  · refine K_ask hg hx hm (-2) ⟨V, ?_, sX_trans (sX_agx a3 (by decide)) (sX_agr ag0 (by decide))⟩ (fun τ hm1 => ?_)
    · rw [preX]
      unfold F_X8_findParting
      rw [hV, hfit, Option.bind_some, c7, if_pos (show nI 0 = 0 from rfl), Option.bind_some, v0, v1]
      split <;> rfl
    · obtain ⟨υ, u1, u2, u3, u4⟩ := preM τ hm1
      refine ⟨υ, ?_, u3⟩
      rw [u4, gcK_0.mpr c7, if_pos (show nI 0 = 0 from rfl)]
  · obtain ⟨τ2, d1, d2, d3, d4⟩ := X_fp22 (n := n) (by omega) 61 n 0 V hI (fun w => absurd rfl w) (fun _ => v0) (by omega) (by omega)
    have cle : cnF cs S z 7 < 2 ^ 31 := by
      have : ∀ k, cnF cs S z k ≤ k := by
        intro k
        induction k with
        | zero => exact Nat.le_refl _
        | succ k ih =>
          show (if flB cs S z k = true then cnF cs S z k + 1 else cnF cs S z k) ≤ k + 1
          split <;> omega
      have := this 7
      omega
    refine K_ask hg hx hm (if nI w = 0 then nI (pwK cs S z 61) else nI (gcK cs S z (pwK cs S z 61) 7)) ⟨τ2, ?_, sX_trans (sX_agx a3 (by decide)) (sX_agr (agr_trans ag0 d4) (by decide))⟩ (fun τ hm1 => ?_)
    · rw [preX]
      unfold F_X8_findParting
      rw [hV, hfit, Option.bind_some, if_neg (show ¬ nI (cnF cs S z 7) = (0 : Int32) from nI_nz (by omega) cle)]
      show ((L_X8_findParting_22 n n (nI 0) V).bind _).bind _ = _
      rw [d1, Option.bind_some, Option.bind_some, d2, d3]
      by_cases w0 : nI w = 0
      · rw [if_pos w0, if_pos w0]
      · rw [if_neg w0, if_neg w0]
    · obtain ⟨υ, u1, u2, u3, u4⟩ := preM τ hm1
      refine ⟨υ, ?_, u3⟩
      have : gcK cs S z (pwK cs S z 61) 7 ≠ 0 := fun w => c7 (gcK_0.mp w)
      rw [u4, if_neg (show ¬ nI (gcK cs S z (pwK cs S z 61) 7) = (0 : Int32) from nI_nz (by omega) (by omega))]
      by_cases w0 : nI w = 0
      · rw [if_pos w0, if_pos w0]
      · rw [if_neg w0, if_neg w0]
end K18
