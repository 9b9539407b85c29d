/-! count, pence: both sides alike. -/
section K7
variable {B : Nat → Int32} {sz z h p : Nat} {cs : Nat → List CL} {S S' : Nat → Nat} {H : Nat → Nat → Nat} {fo x : Int32} {im : Nat → Option IMG} {σ τ : PS} {n : Nat}
theorem M_count128 (h2 : S 2 ≤ 6) (ha : ∀ t, t < S 2 → S (13 + 4 * t + 2) < 2 ^ 31) : ∀ (k t : Nat) (σ : PS), rowN σ 259 S → t ≤ S 2 → 7 ≤ k + t → L_X12_count_128 n k (nI (eaK S t)) (nI t) σ = some (nI (eaK S (S 2)), σ)
  | 0, t, σ, hS, ht, hk => by omega
  | k + 1, t, σ, hS, ht, hk => by
    rw [L_X12_count_128, rowN_get hS]
    by_cases e : S 2 ≤ t
    · have : t = S 2 := by omega
      subst this
      rw [if_pos (nI_le (Nat.le_refl _) (by omega))]
    · have ih := M_count128 h2 ha k (t + 1) σ hS (by omega) (by omega)
      rw [show eaK S (t + 1) = (if S (13 + 4 * t + 2) = 0 then eaK S t else eaK S t ||| 2 ^ t) from rfl] at ih
      have ha' := ha t (by omega)
      rw [if_neg (nI_ge (by omega) (by omega)), M_askedOf hS (by omega), Option.bind_some, nI_1]
      by_cases ea : S (13 + 4 * t + 2) = 0
      · rw [if_pos ea] at ih
        rw [if_pos (show nI (S (13 + 4 * t + 2)) ≤ 0 by rw [ea]; decide), show nI (eaK S t) ||| (0 : Int32) = nI (eaK S t) from Int32.or_zero]
        exact ih
      · rw [if_neg ea] at ih
        rw [if_neg (show ¬ nI (S (13 + 4 * t + 2)) ≤ (0 : Int32) from nI_ge (a := 0) (b := S (13 + 4 * t + 2)) (by omega) (by omega)), show ((1 : Int32) <<< (nI t &&& 31)) = nI (2 ^ t) from shl1 t (by omega), nI_or]
        exact ih
/-- the bushes, counted -/
def sbK (S : Nat → Nat) : Nat → Nat
  | 0 => 0
  | k + 1 => sbK S k + S (37 + k)
theorem M_count171 (h36 : S 1 * S 1 ≤ 36) : ∀ (k c : Nat) (σ : PS), rowN σ 259 S → c ≤ S 1 * S 1 → 37 ≤ k + c → L_X12_count_171 n k (nI (sbK S c)) (nI c) σ = some (nI (sbK S (S 1 * S 1)), σ)
  | 0, c, σ, hS, hc, hk => by omega
  | k + 1, c, σ, hS, hc, hk => by
    rw [L_X12_count_171, M_cells hS, Option.bind_some]
    by_cases e : S 1 * S 1 ≤ c
    · have : c = S 1 * S 1 := by omega
      rw [this, if_pos (show nI (S 1 * S 1) ≤ nI (S 1 * S 1) from nI_le (Nat.le_refl _) (by omega))]
    · have ih := M_count171 h36 k (c + 1) σ hS (by omega) (by omega)
      rw [if_neg (show ¬ nI (S 1 * S 1) ≤ nI c from nI_ge (by omega) (by omega)), show (37 : Int32) + nI c = nI (37 + c) from nI_add 37 c, nI_clamp (by omega), if_pos ⟨nI_pos' (by omega), by omega⟩, nI_1]
      show L_X12_count_171 n k (nI (sbK S c) + σ.1 259 (37 + c)) (nI (c + 1)) σ = _
      rw [rowN_get hS, nI_add]
      exact ih
theorem popK_sb (hb : ∀ c, c < S 1 * S 1 → S (37 + c) ≤ 1) : ∀ k, popK (bm S) k = sbK S (min k (S 1 * S 1))
  | 0 => by rw [Nat.zero_min]; rfl
  | k + 1 => by
    have ih := popK_sb hb k
    have hbit := bm_bit (S := S) (c := k)
    rw [Nat.testBit_eq_decide_div_mod_eq, decide_eq_true_iff] at hbit
    show popK (bm S) k + bm S / 2 ^ k % 2 = _
    rw [ih]
    by_cases q : k < S 1 * S 1
    · rw [show min k (S 1 * S 1) = k by omega, show min (k + 1) (S 1 * S 1) = k + 1 by omega]
      show _ = sbK S k + S (37 + k)
      have := hb k q
      by_cases w : S (37 + k) = 0
      · have : ¬ bm S / 2 ^ k % 2 = 1 := fun e => (hbit.mp e).2 w
        omega
      · have : bm S / 2 ^ k % 2 = 1 := hbit.mpr ⟨q, w⟩
        omega
    · rw [show min k (S 1 * S 1) = S 1 * S 1 by omega, show min (k + 1) (S 1 * S 1) = S 1 * S 1 by omega]
      have : ¬ bm S / 2 ^ k % 2 = 1 := fun e => q (hbit.mp e).1
      omega
theorem okS_b (hg : okS S) : (∀ c, c < 36 → S (37 + c) ≤ 1) ∧ ∀ t, t < S 2 → S (13 + 4 * t + 2) < 2 ^ 31 := by
  rcases hg with w | ⟨_, cw, _, c10, _⟩
  · exact ⟨fun c _ => by rw [w]; omega, fun t _ => by rw [w]; omega⟩
  · exact ⟨fun c hc => (cw.2.2.2.2.2.2.1 c hc).1, fun t ht => by have := (cw.2.2.2.2.1 t ht).2.2.1; omega⟩
theorem K_count (hn : 3000 ≤ n) (a : Int32) (hi : Inv σ) : Kok (F_X11_count n a) (F_X12_count n a) σ := by
  obtain ⟨B, sz, z, cs, S, h, p, H, fo, x, im, hg, hx, hm⟩ := hi
  have o2 := okS_2 hg.2.2.1
  have ob := okS_b hg.2.2.1
  have hR := hx.2.2.2.1.1
  have go : ∀ v, F_X11_count n a σ = some (v, σ) → (∀ τ, IM τ B sz z cs S h H fo x im → F_X12_count n a τ = some (v, τ)) → Kok (F_X11_count n a) (F_X12_count n a) σ := fun v h1 h2 => K_ask hg hx hm v ⟨σ, h1, sX_refl⟩ (fun τ ht => ⟨τ, h2 τ ht, sM_refl⟩)
  by_cases q0 : a = (0 : Int32)
  · subst q0
    refine go (nI (S 1)) ?_ (fun τ ht => ?_)
    · unfold F_X11_count
      rw [if_pos rfl]
      rw [hR.1]
    · unfold F_X12_count
      rw [if_pos rfl]
      rw [if_pos (by decide)]
      show some (τ.1 259 1, τ) = _
      rw [rowN_get ht.2.2.2.1]
  by_cases q1 : a = (1 : Int32)
  · subst q1
    refine go (nI (S 2)) ?_ (fun τ ht => ?_)
    · unfold F_X11_count
      rw [if_neg (by decide), if_pos rfl]
      rw [hR.2.2.2.2.2.1]
    · unfold F_X12_count
      rw [if_neg (by decide), if_pos rfl]
      rw [if_pos (by decide)]
      show some (τ.1 259 2, τ) = _
      rw [rowN_get ht.2.2.2.1]
  by_cases q2 : a = (2 : Int32)
  · subst q2
    refine go (nI z) ?_ (fun τ ht => ?_)
    · unfold F_X11_count
      rw [if_neg (by decide), if_neg (by decide), if_pos rfl]
      rw [hx.2.1]
    · unfold F_X12_count
      rw [if_neg (by decide), if_neg (by decide), if_pos rfl]
      rw [ht.2.1]
  by_cases q3 : a = (3 : Int32)
  · subst q3
    refine go (fo) ?_ (fun τ ht => ?_)
    · unfold F_X11_count
      rw [if_neg (by decide), if_neg (by decide), if_neg (by decide), if_pos rfl]
      rw [hx.2.2.2.1.2.2.2.1]
    · unfold F_X12_count
      rw [if_neg (by decide), if_neg (by decide), if_neg (by decide), if_pos rfl]
      rw [ht.2.2.2.2.1]
  by_cases q4 : a = (4 : Int32)
  · subst q4
    refine go (nI (S 10)) ?_ (fun τ ht => ?_)
    · unfold F_X11_count
      rw [if_neg (by decide), if_neg (by decide), if_neg (by decide), if_neg (by decide), if_pos rfl]
      rw [hR.2.2.2.1]
    · unfold F_X12_count
      rw [if_neg (by decide), if_neg (by decide), if_neg (by decide), if_neg (by decide), if_pos rfl]
      rw [rowN_get ht.2.2.2.1]
  by_cases q5 : a = (5 : Int32)
  · subst q5
    rcases hg.2.2.1 with w | hc
    · refine go (-1) ?_ (fun τ ht => ?_)
      · unfold F_X11_count
        rw [if_neg (by decide), if_neg (by decide), if_neg (by decide), if_neg (by decide), if_neg (by decide), if_pos rfl, X_pitched hR (by rw [w]; decide), Option.bind_some, if_pos (w 1), if_pos rfl]
      · unfold F_X12_count
        rw [if_neg (by decide), if_neg (by decide), if_neg (by decide), if_neg (by decide), if_neg (by decide), if_pos rfl, M_isCamp ht.2.2.2.1 (by rw [w]; decide), Option.bind_some, if_neg (show ¬ S 0 = 1 by rw [w]; decide), if_pos rfl]
    · have h1 := hc.2.1.1
      have h1' := hc.2.1.2.1
      have hc0 := hc.1
      refine go (nI (S 11)) ?_ (fun τ ht => ?_)
      · unfold F_X11_count
        rw [if_neg (by decide), if_neg (by decide), if_neg (by decide), if_neg (by decide), if_neg (by decide), if_pos rfl, X_pitched hR (by omega), Option.bind_some, if_neg (show ¬ S 1 = 0 by omega), if_neg ne10]
        show some (σ.1 25 2, σ) = _
        rw [hR.2.2.1]
      · unfold F_X12_count
        rw [if_neg (by decide), if_neg (by decide), if_neg (by decide), if_neg (by decide), if_neg (by decide), if_pos rfl, M_isCamp ht.2.2.2.1 (by omega), Option.bind_some, if_pos hc0, if_neg ne10]
        show some (τ.1 259 11, τ) = _
        rw [rowN_get ht.2.2.2.1]
  by_cases q6 : a = (6 : Int32)
  · subst q6
    refine go (nI (S 12)) ?_ (fun τ ht => ?_)
    · unfold F_X11_count
      rw [if_neg (by decide), if_neg (by decide), if_neg (by decide), if_neg (by decide), if_neg (by decide), if_neg (by decide), if_pos rfl]
      rw [hR.2.2.2.2.1]
    · unfold F_X12_count
      rw [if_neg (by decide), if_neg (by decide), if_neg (by decide), if_neg (by decide), if_neg (by decide), if_neg (by decide), if_pos rfl]
      rw [rowN_get ht.2.2.2.1]
  by_cases q7 : a = (7 : Int32)
  · subst q7
    refine go (nI (eaK S (S 2))) ?_ (fun τ ht => ?_)
    · unfold F_X11_count
      rw [if_neg (by decide), if_neg (by decide), if_neg (by decide), if_neg (by decide), if_neg (by decide), if_neg (by decide), if_neg (by decide), if_pos rfl]
      rw [X_everAsked (by omega) hR o2.1 ob.2, Option.bind_some]
    · unfold F_X12_count
      rw [if_neg (by decide), if_neg (by decide), if_neg (by decide), if_neg (by decide), if_neg (by decide), if_neg (by decide), if_neg (by decide), if_pos rfl]
      rw [show L_X12_count_128 n n (0 : Int32) (0 : Int32) τ = _ from M_count128 (n := n) o2.1 ob.2 n 0 τ ht.2.2.2.1 (by omega) (by omega), Option.bind_some]
  by_cases q8 : a = (8 : Int32)
  · subst q8
    refine go (nI (aAll S (S 2))) ?_ (fun τ ht => ?_)
    · unfold F_X11_count
      rw [if_neg (by decide), if_neg (by decide), if_neg (by decide), if_neg (by decide), if_neg (by decide), if_neg (by decide), if_neg (by decide), if_neg (by decide), if_pos rfl]
      rw [X_askedInAll (by omega) hR o2.1, Option.bind_some]
    · unfold F_X12_count
      rw [if_neg (by decide), if_neg (by decide), if_neg (by decide), if_neg (by decide), if_neg (by decide), if_neg (by decide), if_neg (by decide), if_neg (by decide), if_pos rfl]
      rw [M_askedAll (by omega) ht.2.2.2.1 o2.1, Option.bind_some]
  by_cases q9 : a = (9 : Int32)
  · subst q9
    refine go (nI (popK (bm S) 40)) ?_ (fun τ ht => ?_)
    · unfold F_X11_count
      rw [if_neg (by decide), if_neg (by decide), if_neg (by decide), if_neg (by decide), if_neg (by decide), if_neg (by decide), if_neg (by decide), if_neg (by decide), if_neg (by decide), if_pos rfl]
      rw [hR.2.2.2.2.2.2.1, J_bitCount (by have := bm_lt (S := S) o2.2; omega), Option.bind_some]
    · unfold F_X12_count
      rw [if_neg (by decide), if_neg (by decide), if_neg (by decide), if_neg (by decide), if_neg (by decide), if_neg (by decide), if_neg (by decide), if_neg (by decide), if_neg (by decide), if_pos rfl]
      rw [show L_X12_count_171 n n (0 : Int32) (0 : Int32) τ = _ from M_count171 (n := n) o2.2 n 0 τ ht.2.2.2.1 (by omega) (by omega), Option.bind_some, popK_sb (fun c hc => ob.1 c (by omega)) 40, show min 40 (S 1 * S 1) = S 1 * S 1 by omega]
  by_cases q10 : a = (10 : Int32)
  · subst q10
    refine go (nI (S 178)) ?_ (fun τ ht => ?_)
    · unfold F_X11_count
      rw [if_neg (by decide), if_neg (by decide), if_neg (by decide), if_neg (by decide), if_neg (by decide), if_neg (by decide), if_neg (by decide), if_neg (by decide), if_neg (by decide), if_neg (by decide), if_pos rfl]
      rw [hx.2.2.2.1.2.2.1]
    · unfold F_X12_count
      rw [if_neg (by decide), if_neg (by decide), if_neg (by decide), if_neg (by decide), if_neg (by decide), if_neg (by decide), if_neg (by decide), if_neg (by decide), if_neg (by decide), if_neg (by decide), if_pos rfl]
      rw [rowN_get ht.2.2.2.1]
  by_cases q11 : a = (11 : Int32)
  · subst q11
    refine go (nI h) ?_ (fun τ ht => ?_)
    · unfold F_X11_count
      rw [if_neg (by decide), if_neg (by decide), if_neg (by decide), if_neg (by decide), if_neg (by decide), if_neg (by decide), if_neg (by decide), if_neg (by decide), if_neg (by decide), if_neg (by decide), if_neg (by decide), if_pos rfl]
      rw [hx.2.2.2.2.1.2.2.1]
    · unfold F_X12_count
      rw [if_neg (by decide), if_neg (by decide), if_neg (by decide), if_neg (by decide), if_neg (by decide), if_neg (by decide), if_neg (by decide), if_neg (by decide), if_neg (by decide), if_neg (by decide), if_neg (by decide), if_pos rfl]
      rw [ht.2.2.2.2.2.2.1.2.1]
  by_cases q12 : a = (12 : Int32)
  · subst q12
    refine go (x) ?_ (fun τ ht => ?_)
    · unfold F_X11_count
      rw [if_neg (by decide), if_neg (by decide), if_neg (by decide), if_neg (by decide), if_neg (by decide), if_neg (by decide), if_neg (by decide), if_neg (by decide), if_neg (by decide), if_neg (by decide), if_neg (by decide), if_neg (by decide), if_pos rfl]
      rw [hx.2.2.2.1.2.2.2.2.1]
    · unfold F_X12_count
      rw [if_neg (by decide), if_neg (by decide), if_neg (by decide), if_neg (by decide), if_neg (by decide), if_neg (by decide), if_neg (by decide), if_neg (by decide), if_neg (by decide), if_neg (by decide), if_neg (by decide), if_neg (by decide), if_pos rfl]
      rw [ht.2.2.2.2.2.1]
  by_cases q13 : a = (13 : Int32)
  · subst q13
    refine go (nI sz) ?_ (fun τ ht => ?_)
    · unfold F_X11_count
      rw [if_neg (by decide), if_neg (by decide), if_neg (by decide), if_neg (by decide), if_neg (by decide), if_neg (by decide), if_neg (by decide), if_neg (by decide), if_neg (by decide), if_neg (by decide), if_neg (by decide), if_neg (by decide), if_neg (by decide), if_pos rfl]
      rw [hx.1.2.1]
    · unfold F_X12_count
      rw [if_neg (by decide), if_neg (by decide), if_neg (by decide), if_neg (by decide), if_neg (by decide), if_neg (by decide), if_neg (by decide), if_neg (by decide), if_neg (by decide), if_neg (by decide), if_neg (by decide), if_neg (by decide), if_neg (by decide), if_pos rfl]
      rw [ht.1.2.1]
  exact go (-1) (by unfold F_X11_count; rw [if_neg q0, if_neg q1, if_neg q2, if_neg q3, if_neg q4, if_neg q5, if_neg q6, if_neg q7, if_neg q8, if_neg q9, if_neg q10, if_neg q11, if_neg q12, if_neg q13]) (fun τ ht => by unfold F_X12_count; rw [if_neg q0, if_neg q1, if_neg q2, if_neg q3, if_neg q4, if_neg q5, if_neg q6, if_neg q7, if_neg q8, if_neg q9, if_neg q10, if_neg q11, if_neg q12, if_neg q13])
/-- the pence's loop -/
def pcL (A : Nat → Int32) (x1 x3 lo : Int32) (wh : Nat) : Nat → Int32 × Int32
  | 0 => (x1, 0)
  | k + 1 => ((pcL A x1 x3 lo wh k).1 - x1 * A k / x3, if lo < x1 * A k - x1 * A k / x3 * x3 then (pcL A x1 x3 lo wh k).2 + 1 else if x1 * A k - x1 * A k / x3 * x3 = lo then (if wh ≤ k then (pcL A x1 x3 lo wh k).2 else (pcL A x1 x3 lo wh k).2 + 1) else (pcL A x1 x3 lo wh k).2)
theorem X_pence32 {i : Nat} {x1 x3 lo : Int32} {wh : Nat} (h6 : S 2 ≤ 6) (hw : wh < 6) (hR : RX σ i S) (h3 : ¬ x3 = 0) : ∀ m k, k ≤ S 2 → 7 ≤ m + k → L_X10_penceOf_32 n i m x1 (nI wh) x3 (pcL (fun t => nI (S (13 + 4 * t + 2))) x1 x3 lo wh k).1 (pcL (fun t => nI (S (13 + 4 * t + 2))) x1 x3 lo wh k).2 lo (nI k) σ = some (x1, nI wh, x3, (pcL (fun t => nI (S (13 + 4 * t + 2))) x1 x3 lo wh (S 2)).1, (pcL (fun t => nI (S (13 + 4 * t + 2))) x1 x3 lo wh (S 2)).2, σ)
  | 0, k, hk, hm => by omega
  | m + 1, k, hk, hm => by
    rw [L_X10_penceOf_32, hR.2.2.2.2.2.1]
    by_cases e : S 2 ≤ k
    · have : k = S 2 := by omega
      subst this
      rw [if_pos (nI_le (Nat.le_refl _) (by omega))]
    · have ih := X_pence32 (x1 := x1) (lo := lo) h6 hw hR h3 m (k + 1) (by omega) (by omega)
      rw [if_neg (nI_ge (by omega) (by omega)), nI_clamp (by omega), if_pos ⟨nI_pos' (by omega), by omega⟩, if_neg h3, (RX_tent hR (show k < S 2 by omega)).2.2.1, nI_1, ← ih]
      show _ = L_X10_penceOf_32 n i m x1 (nI wh) x3 (_ - _) (if lo < _ then _ else _) lo (nI (k + 1)) σ
      by_cases q1 : lo < x1 * nI (S (13 + 4 * k + 2)) - x1 * nI (S (13 + 4 * k + 2)) / x3 * x3
      · rw [if_pos q1, if_pos q1]
      · rw [if_neg q1, if_neg q1]
        by_cases q2 : x1 * nI (S (13 + 4 * k + 2)) - x1 * nI (S (13 + 4 * k + 2)) / x3 * x3 = lo
        · rw [if_pos q2, if_pos q2]
          by_cases q3 : wh ≤ k
          · rw [if_pos q3, if_pos (nI_le q3 (by omega))]
          · rw [if_neg q3, if_neg (nI_ge (by omega) (by omega))]
        · rw [if_neg q2, if_neg q2]
theorem M_pence51 {x1 x3 x4 : Int32} {wh : Nat} (h6 : S 2 ≤ 6) (hw : wh < 6) (hS : rowN σ 259 S) (h3 : ¬ x3 = 0) : ∀ m k, k ≤ S 2 → 7 ≤ m + k → L_X12_pence_51 n m x1 (nI wh) x3 x4 (pcL (fun t => nI (S (13 + 4 * t + 2))) x1 x3 (x4 - x4 / x3 * x3) wh k).1 (pcL (fun t => nI (S (13 + 4 * t + 2))) x1 x3 (x4 - x4 / x3 * x3) wh k).2 (nI k) σ = some (x3, x4, (pcL (fun t => nI (S (13 + 4 * t + 2))) x1 x3 (x4 - x4 / x3 * x3) wh (S 2)).1, (pcL (fun t => nI (S (13 + 4 * t + 2))) x1 x3 (x4 - x4 / x3 * x3) wh (S 2)).2, σ)
  | 0, k, hk, hm => by omega
  | m + 1, k, hk, hm => by
    rw [L_X12_pence_51, rowN_get hS]
    by_cases e : S 2 ≤ k
    · have : k = S 2 := by omega
      subst this
      rw [if_pos (nI_le (Nat.le_refl _) (by omega))]
    · have ih := M_pence51 (x1 := x1) (x4 := x4) h6 hw hS h3 m (k + 1) (by omega) (by omega)
      rw [if_neg (nI_ge (by omega) (by omega)), M_askedOf hS (by omega), Option.bind_some, if_neg h3, nI_1, ← ih]
      simp only [Int32.add_zero]
      show _ = L_X12_pence_51 n m x1 (nI wh) x3 x4 (_ - _) (if x4 - x4 / x3 * x3 < _ then _ else _) (nI (k + 1)) σ
      by_cases q1 : x4 - x4 / x3 * x3 < x1 * nI (S (13 + 4 * k + 2)) - x1 * nI (S (13 + 4 * k + 2)) / x3 * x3
      · rw [if_pos q1, if_pos q1]
      · rw [if_neg q1, if_neg q1]
        by_cases q2 : x1 * nI (S (13 + 4 * k + 2)) - x1 * nI (S (13 + 4 * k + 2)) / x3 * x3 = x4 - x4 / x3 * x3
        · rw [if_pos q2, if_pos q2]
          by_cases q3 : wh ≤ k
          · rw [if_pos q3, if_pos (nI_le q3 (by omega))]
          · rw [if_neg q3, if_neg (nI_ge (by omega) (by omega))]
        · rw [if_neg q2, if_neg q2]
theorem K_pence (hn : 3000 ≤ n) (a b : Int32) (hi : Inv σ) : Kok (F_X11_pence n a b) (F_X12_pence n a b) σ := by
  obtain ⟨B, sz, z, cs, S, h, p, H, fo, x, im, hg, hx, hm⟩ := hi
  have o2 := okS_2 hg.2.2.1
  by_cases q1 : isI (S 2) b = 0
  · exact K_noC hg hx hm (-1) (fun τ hr => by unfold F_X11_pence; rw [X_hasTent hr, Option.bind_some, if_pos q1]) (fun τ hr => by unfold F_X12_pence; rw [M_isTent hr, Option.bind_some, if_pos q1])
  obtain ⟨t, ht, e⟩ := isI_of (by omega) q1
  subst e
  rcases rng a 0 9999 (by decide) with ⟨m, _, hm2, hm31, e⟩ | hout | q
  rotate_left
  · refine K_noC hg hx hm (-1) (fun τ hr => ?_) (fun τ hr => ?_)
    · unfold F_X11_pence
      rw [X_hasTent hr, Option.bind_some, if_neg q1]
      by_cases w : a < 0
      · rw [if_pos w]
      · rw [if_neg w, if_neg (show ¬ a ≤ (9999 : Int32) from Int32.not_le.mpr (lt_of_out hout w))]
    · unfold F_X12_pence
      rw [M_isTent hr, Option.bind_some, if_neg q1, show (0 : Int64) = lN 0 from rfl, show (9999 : Int64) = lN 9999 from rfl, M_in_out (by decide) (by decide) hout, Option.bind_some, if_pos rfl]
  · exact absurd q (by decide)
  subst e
  have pa1 : ¬ nI m < (0 : Int32) := nI_n0 (by omega)
  have pa2 : nI m ≤ (9999 : Int32) := nI_le (show m ≤ 9999 from hm2) (by decide)
  generalize hA : nI (aAll S (S 2)) = A
  by_cases a0 : A = 0
  · refine K_noC hg hx hm 0 (fun τ hr => ?_) (fun τ hr => ?_)
    · unfold F_X11_pence F_X10_penceOf
      rw [X_hasTent hr, Option.bind_some, if_neg q1, if_neg pa1, if_pos pa2]
      show ((F_X10_askedInAll n 25 τ).bind _).bind _ = _
      rw [X_askedInAll (by omega) hr o2.1, Option.bind_some, if_pos (show nI (aAll S (S 2)) = 0 from hA.trans a0)]
      rfl
    · unfold F_X12_pence
      rw [M_isTent hr, Option.bind_some, if_neg q1, show (0 : Int64) = lN 0 from rfl, show (9999 : Int64) = lN 9999 from rfl, M_in_in (by decide) (by decide) hm31 (by omega) hm2, Option.bind_some, if_neg ne10]
      show (F_X12_askedAll n τ).bind _ = _
      rw [M_askedAll (by omega) hr o2.1, Option.bind_some, if_pos (show nI (aAll S (S 2)) = 0 from hA.trans a0)]
  · have nz : ¬ nI (aAll S (S 2)) = 0 := fun w => a0 (hA.symm.trans w)
    rw [hA] at nz
    generalize hP : pcL (fun t => nI (S (13 + 4 * t + 2))) (nI m) A (nI m * nI (S (13 + 4 * t + 2)) - nI m * nI (S (13 + 4 * t + 2)) / A * A) t (S 2) = P
    refine K_noC hg hx hm (if P.1 ≤ P.2 then nI m * nI (S (13 + 4 * t + 2)) / A + 0 else nI m * nI (S (13 + 4 * t + 2)) / A + 1) (fun τ hr => ?_) (fun τ hr => ?_)
    · unfold F_X11_pence F_X10_penceOf
      rw [X_hasTent hr, Option.bind_some, if_neg q1, if_neg pa1, if_pos pa2]
      show ((F_X10_askedInAll n 25 τ).bind _).bind _ = _
      have g1 : τ.1 (25 + 3) t = nI (S (13 + 4 * t + 2)) := (RX_tent hr ht).2.2.1
      have lp := X_pence32 (n := n) (x1 := nI m) (lo := nI m * nI (S (13 + 4 * t + 2)) - nI m * nI (S (13 + 4 * t + 2)) / A * A) (wh := t) o2.1 (by omega) hr nz n 0 (by omega) (by omega)
      rw [hP] at lp
      rw [X_askedInAll (by omega) hr o2.1, Option.bind_some, hA, if_neg nz, nI_clamp (by omega), if_pos ⟨nI_pos' (by omega), by omega⟩, if_neg nz]
      simp only [g1]
      rw [show L_X10_penceOf_32 n 25 n (nI m) (nI t) A (nI m) (0 : Int32) (nI m * nI (S (13 + 4 * t + 2)) - nI m * nI (S (13 + 4 * t + 2)) / A * A) (0 : Int32) τ = _ from lp, Option.bind_some]
      simp only [nI_clamp (show t < 2 ^ 31 by omega), g1]
      rw [if_pos ⟨nI_pos' (by omega), by omega⟩, if_neg nz]
      by_cases w : P.1 ≤ P.2
      · rw [if_pos w, if_pos w]; rfl
      · rw [if_neg w, if_neg w]; rfl
    · unfold F_X12_pence
      have lp := M_pence51 (n := n) (x1 := nI m) (x4 := nI m * nI (S (13 + 4 * t + 2))) (wh := t) o2.1 (by omega) hr nz n 0 (by omega) (by omega)
      rw [hP] at lp
      rw [M_isTent hr, Option.bind_some, if_neg q1, show (0 : Int64) = lN 0 from rfl, show (9999 : Int64) = lN 9999 from rfl, M_in_in (by decide) (by decide) hm31 (by omega) hm2, Option.bind_some, if_neg ne10]
      show (F_X12_askedAll n τ).bind _ = _
      rw [M_askedAll (by omega) hr o2.1, Option.bind_some, hA, if_neg nz]
      show (F_X12_askedOf n (nI t) τ).bind _ = _
      rw [M_askedOf hr (by omega), Option.bind_some]
      rw [show L_X12_pence_51 n n (nI m) (nI t) A (nI m * nI (S (13 + 4 * t + 2))) (nI m) (0 : Int32) (0 : Int32) τ = _ from lp, Option.bind_some, if_neg nz]
      by_cases w : P.1 ≤ P.2
      · rw [if_pos w, if_pos w]
      · rw [if_neg w, if_neg w]
end K7
