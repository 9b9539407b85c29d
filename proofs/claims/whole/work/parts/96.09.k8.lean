/-! way, reach, whistle: both sides alike. -/
section K8
variable {B : Nat → Int32} {sz z h p : Nat} {cs : Nat → List CL} {S S' : Nat → Nat} {H : Nat → Nat → Nat} {fo x : Int32} {im : Nat → Option IMG} {σ τ : PS} {n : Nat}
/-- the way from one cell to another -/
noncomputable def wy (S : Nat → Nat) (fr c : Nat) : Nat := dW (S 1) (fun c => S (37 + c)) fr c
theorem wy_is {b : Nat} (cw : okW S b) {fr : Nat} (hf : fr < S 1 * S 1) : isD (S 1) (fun c => S (37 + c)) fr (wy S fr) := dW_ok cw.1 cw.2.1 (fun c hc => by have := (cw.2.2.2.2.2.2.1 c hc).1; omega) hf
theorem wy_rng {b : Nat} (cw : okW S b) {fr c : Nat} (hf : fr < S 1 * S 1) (hc : c < S 1 * S 1) : wy S fr c < 36 ∨ wy S fr c = 99 := by
  by_cases e : wy S fr c = 99
  · exact Or.inr e
  · exact Or.inl ((wy_is cw hf).2.2.2 c hc e)
theorem inQ_one {sd c : Nat} (hc : c < sd * sd) : inQ sd (2 ^ c) := fun d hd => by
  rw [Nat.testBit_two_pow, decide_eq_true_iff] at hd
  omega
theorem X_dist1 {b i : Nat} (hn : 100 ≤ n) (hR : RX σ i S) (cw : okW S b) {fr c : Nat} (hf : fr < S 1 * S 1) (hc : c < S 1 * S 1) : F_X10_distance n i (nI fr) (lN (2 ^ c)) σ = some (oI (wy S fr c), σ) ∧ (wy S fr c < 36 ∨ wy S fr c = 99) := by
  refine ⟨?_, wy_rng cw hf hc⟩
  rcases X_distance hn hR cw.1 cw.2.1 hf (wy_is cw hf) (inQ_one hc) with ⟨k, hk, e, ⟨c', hc', hck⟩, hle⟩ | ⟨e, ha⟩
  · rw [Nat.testBit_two_pow, decide_eq_true_iff] at hc'
    subst hc'
    rw [e, hck]
    unfold oI
    rw [if_neg (by omega)]
  · rw [e, ha c (by rw [Nat.testBit_two_pow, decide_eq_true_iff])]
    rfl
theorem M_wayB {b : Nat} (hn : 100 ≤ n) (hS : rowN σ 259 S) (cw : okW S b) {fr c : Nat} (hf : fr < S 1 * S 1) (hc : c < S 1 * S 1) : ∃ τ, F_X12_wayBetween n (nI fr) (nI c) σ = some (nI (wy S fr c), τ) ∧ agr [260, 261] σ τ := by
  have h36 := okW_36 cw
  obtain ⟨τ, a1, a2, a3, a4⟩ := M_measures hn hS cw.1 cw.2.1 (fun c hc => by have := (cw.2.2.2.2.2.2.1 c hc).1; omega) hf
  refine ⟨τ, ?_, a2⟩
  unfold F_X12_wayBetween
  rw [a1, Option.bind_some, nI_clamp (by omega), if_pos ⟨nI_pos' (by omega), by omega⟩, a4 c hc]
  rfl
theorem K_way (hn : 3000 ≤ n) (a : Int32) (hi : Inv σ) : Kok (F_X11_way n a) (F_X12_way n a) σ := by
  obtain ⟨B, sz, z, cs, S, h, p, H, fo, x, im, hg, hx, hm⟩ := hi
  have o2 := okS_2 hg.2.2.1
  by_cases q1 : isI (S 1 * S 1) a = 0
  · exact K_noC hg hx hm (-1) (fun τ hr => by unfold F_X11_way; rw [X_hasCell hr, Option.bind_some, if_pos q1]) (fun τ hr => by unfold F_X12_way; rw [M_isCell hr, Option.bind_some, if_pos q1])
  obtain ⟨c, hcc, e⟩ := isI_of (by omega) q1
  subst e
  have hc : okC S := okC_of hg.2.2.1 (fun w => by rw [w] at hcc; omega)
  obtain ⟨c0, cw, cb, c10, c178, cnt, chi⟩ := id hc
  have hR := hx.2.2.2.1.1
  have h11 := cw.2.2.2.1
  obtain ⟨d1, d2⟩ := X_dist1 (n := n) (i := 25) (by omega) hR cw h11 hcc
  refine K_ask hg hx hm (if wy S (S 11) c = 99 then -2 else nI (wy S (S 11) c)) ⟨σ, ?_, sX_refl⟩ (fun τ hm1 => ?_)
  · unfold F_X11_way
    rw [X_hasCell hR, Option.bind_some, if_neg q1]
    show (F_X10_distance n 25 (σ.1 25 2) _ σ).bind _ = _
    rw [hR.2.2.1, show (1 : Int64) = lN 1 from rfl, wb_shl 1 (show c < 64 by omega), Nat.one_mul, d1, Option.bind_some]
    by_cases w : wy S (S 11) c = 99
    · rw [if_pos w, w, if_pos (show oI 99 = (-1 : Int32) from rfl)]
    · rw [if_neg w]
      unfold oI
      rw [if_neg w, if_neg (show ¬ nI (wy S (S 11) c) = -1 from m1_ne (by omega))]
  · obtain ⟨υ, b1, b2⟩ := M_wayB (n := n) (by omega) hm1.2.2.2.1 cw h11 hcc
    refine ⟨υ, ?_, sM_agm (agm_of b2 (by decide) (Fs := [])) (by decide) (by simp)⟩
    unfold F_X12_way
    rw [M_isCell hm1.2.2.2.1, Option.bind_some, if_neg q1]
    show (F_X12_wayBetween n (τ.1 259 11) (nI c) τ).bind _ = _
    rw [rowN_get hm1.2.2.2.1, b1, Option.bind_some]
    by_cases w : wy S (S 11) c = 99
    · rw [if_pos w, w, if_pos (show nI 99 = (99 : Int32) from rfl)]
    · rw [if_neg w, if_neg (show ¬ nI (wy S (S 11) c) = (99 : Int32) from fun q => w (nI_inj (b := 99) (by omega) (by decide) q))]
/-- the cells as far as a, counted -/
def rcK (D : Nat → Nat) (a : Nat) : Nat → Nat
  | 0 => 0
  | k + 1 => if D k ≤ a then rcK D a k + 1 else rcK D a k
theorem popK_lvl {sd m a : Nat} {D : Nat → Nat} (hl : lvl sd D a m) (ha : a < 99) : ∀ k, popK m k = rcK D a (min k (sd * sd))
  | 0 => by rw [Nat.zero_min]; rfl
  | k + 1 => by
    have ih := popK_lvl hl ha k
    have hbit := hl k
    rw [Nat.testBit_eq_decide_div_mod_eq, decide_eq_true_iff] at hbit
    show popK m k + m / 2 ^ k % 2 = _
    rw [ih]
    by_cases q : k < sd * sd
    · rw [show min k (sd * sd) = k by omega, show min (k + 1) (sd * sd) = k + 1 by omega]
      show _ = if D k ≤ a then rcK D a k + 1 else rcK D a k
      by_cases w : D k ≤ a
      · rw [if_pos w, hbit.mpr ⟨q, by omega, w⟩]
      · rw [if_neg w]
        have : ¬ m / 2 ^ k % 2 = 1 := fun e => w (hbit.mp e).2.2
        omega
    · rw [show min k (sd * sd) = sd * sd by omega, show min (k + 1) (sd * sd) = sd * sd by omega]
      have : ¬ m / 2 ^ k % 2 = 1 := fun e => q (hbit.mp e).1
      omega
theorem X_reach10 {b i : Nat} (hR : RX σ i S) (cw : okW S b) {fr a : Nat} {D : Nat → Nat} (hD : isD (S 1) (fun c => S (37 + c)) fr D) (ha : a ≤ 36) : ∀ (K k m : Nat), lvl (S 1) D k m → k ≤ a → a < K + k → ∃ m', L_X10_reachedIn_10 n i K (nI a) (lN m) (nI k) σ = some (lN m', σ) ∧ lvl (S 1) D a m'
  | 0, k, m, hl, hk, hK => by omega
  | K + 1, k, m, hl, hk, hK => by
    have h36 := okW_36 cw
    have hml := inQ_lt h36 (lvl_inQ hl)
    have hbl : bm S < 2 ^ (S 1 * S 1) := bmK_lt S _
    have hbl2 : (2 : Nat) ^ (S 1 * S 1) ≤ 2 ^ 36 := Nat.pow_le_pow_right (by decide) h36
    rw [L_X10_reachedIn_10]
    by_cases e : a ≤ k
    · have : k = a := by omega
      subst this
      rw [if_pos (nI_le (Nat.le_refl _) (by omega))]
      exact ⟨m, rfl, hl⟩
    · rw [if_neg (nI_ge (by omega) (by omega)), X_spread hR cw.1 cw.2.1 (lvl_inQ hl)]
      simp only [Option.bind_some]
      rw [hR.2.2.2.2.2.2.1, allO_is, lN_xor]
      have hsl : sprN (S 1) m < 2 ^ 64 := by
        have : sprN (S 1) m < 2 ^ 36 := by unfold sprN; exact Nat.and_lt_two_pow _ (fc_lt (S 1) (by have := cw.2.1; omega)).2
        omega
      rw [wb_and hsl (not_lt (show bm S < 2 ^ 64 by omega)), wb_or (by omega) (and_lt hsl), nI_1]
      have hnew := lvl_step cw.1 cw.2.1 hD (by omega) hl (B := bm S) (fun c => bm_bit) (by omega)
      exact X_reach10 hR cw hD ha K (k + 1) _ hnew (by omega) (by omega)
theorem lvl_0 {sd : Nat} {bu : Nat → Nat} {fr : Nat} {D : Nat → Nat} (hf : fr < sd * sd) (hD : isD sd bu fr D) : lvl sd D 0 (2 ^ fr) := by
  intro c
  rw [Nat.testBit_two_pow, decide_eq_true_iff]
  constructor
  · intro e; subst e; rw [hD.1]; exact ⟨hf, by decide, Nat.le_refl _⟩
  · rintro ⟨hc, h9, hle⟩
    apply Classical.byContradiction
    intro hne
    obtain ⟨_, u, d, _, _, _, _, e⟩ := hD.2.1 c hc (fun q => hne q.symm) h9
    omega
theorem M_reach36 {D : Nat → Nat} {a : Nat} (h36 : S 1 * S 1 ≤ 36) (ha : a ≤ 36) (hD : ∀ c, c < S 1 * S 1 → D c < 100) : ∀ (k c : Nat) (σ : PS), rowN σ 259 S → (∀ c, c < S 1 * S 1 → σ.1 260 c = nI (D c)) → c ≤ S 1 * S 1 → 37 ≤ k + c → L_X12_reach_36 n k (nI a) (nI (rcK D a c)) (nI c) σ = some (nI (rcK D a (S 1 * S 1)), σ)
  | 0, c, σ, hS, h6, hc, hk => by omega
  | k + 1, c, σ, hS, h6, hc, hk => by
    rw [L_X12_reach_36, M_cells hS, Option.bind_some]
    by_cases e : S 1 * S 1 ≤ c
    · have : c = S 1 * S 1 := by omega
      rw [this, if_pos (show nI (S 1 * S 1) ≤ nI (S 1 * S 1) from nI_le (Nat.le_refl _) (by omega))]
    · have ih := M_reach36 h36 ha hD k (c + 1) σ hS h6 (by omega) (by omega)
      have d100 := hD c (by omega)
      rw [if_neg (show ¬ nI (S 1 * S 1) ≤ nI c from nI_ge (by omega) (by omega)), nI_clamp (by omega), if_pos ⟨nI_pos' (by omega), by omega⟩, nI_1, show nI (rcK D a c) + (1 : Int32) = nI (rcK D a c + 1) from nI_1 _, Int32.add_zero]
      show (if nI a < σ.1 260 c then L_X12_reach_36 n k (nI a) (nI (rcK D a c)) (nI (c + 1)) σ else L_X12_reach_36 n k (nI a) (nI (rcK D a c + 1)) (nI (c + 1)) σ) = _
      rw [h6 c (by omega)]
      have er : rcK D a (c + 1) = if D c ≤ a then rcK D a c + 1 else rcK D a c := rfl
      by_cases w : D c ≤ a
      · rw [if_neg (nI_nlt w (by omega))]
        rw [er, if_pos w] at ih
        exact ih
      · rw [if_pos (nI_lt (by omega) (by omega))]
        rw [er, if_neg w] at ih
        exact ih
theorem K_reach (hn : 3000 ≤ n) (a : Int32) (hi : Inv σ) : Kok (F_X11_reach n a) (F_X12_reach n a) σ := by
  obtain ⟨B, sz, z, cs, S, h, p, H, fo, x, im, hg, hx, hm⟩ := hi
  rcases hg.2.2.1 with q | hc
  · refine K_noC hg hx hm (-1) (fun τ hr => ?_) (fun τ hr => ?_)
    · unfold F_X11_reach; rw [X_pitched hr (by rw [q]; decide), Option.bind_some, if_pos (q 1), if_pos rfl]
    · unfold F_X12_reach; rw [M_isCamp hr (by rw [q]; decide), Option.bind_some, if_neg (show ¬ S 0 = 1 by rw [q]; decide), if_pos rfl]
  obtain ⟨c0, cw, cb, c10, c178, cnt, chi⟩ := id hc
  have h1 := cw.1
  have h1' := cw.2.1
  have h36 := okW_36 cw
  have h11 := cw.2.2.2.1
  have hs1 : ¬ S 1 = 0 := by omega
  rcases rng a 0 36 (by decide) with ⟨m, _, hm2, hm31, e⟩ | hout | q
  rotate_left
  · refine K_noC hg hx hm (-1) (fun τ hr => ?_) (fun τ hr => ?_)
    · unfold F_X11_reach
      rw [X_pitched hr (by omega), Option.bind_some, if_neg hs1, if_neg ne10]
      by_cases w : a < 0
      · rw [if_pos w]
      · rw [if_neg w, if_neg (show ¬ a ≤ (36 : Int32) from Int32.not_le.mpr (lt_of_out hout w))]
    · unfold F_X12_reach
      rw [M_isCamp hr (by omega), Option.bind_some, if_pos c0, if_neg ne10, show (0 : Int64) = lN 0 from rfl, show (36 : Int64) = lN 36 from rfl, M_in_out (by decide) (by decide) hout, Option.bind_some, if_pos rfl]
  · exact absurd q (by decide)
  subst e
  have pa1 : ¬ nI m < (0 : Int32) := nI_n0 (by omega)
  have pa2 : nI m ≤ (36 : Int32) := nI_le (show m ≤ 36 from hm2) (by decide)
  have hR := hx.2.2.2.1.1
  have hD := wy_is cw h11
  obtain ⟨m', a1, a2⟩ := X_reach10 (n := n) (i := 25) hR cw hD hm2 n 0 (2 ^ S 11) (lvl_0 h11 hD) (by omega) (by omega)
  have hml := inQ_lt h36 (lvl_inQ a2)
  refine K_ask hg hx hm (nI (rcK (wy S (S 11)) m (S 1 * S 1))) ⟨σ, ?_, sX_refl⟩ (fun τ hm1 => ?_)
  · unfold F_X11_reach F_X10_reachedIn
    rw [X_pitched hR (by omega), Option.bind_some, if_neg hs1, if_neg ne10, if_neg pa1, if_pos pa2]
    show ((L_X10_reachedIn_10 n 25 n (nI m) ((1 : Int64) <<< ((σ.1 25 2).toInt64 &&& 63)) (0 : Int32) σ).bind _).bind _ = _
    rw [hR.2.2.1, show (1 : Int64) = lN 1 from rfl, wb_shl 1 (show S 11 < 64 by omega), Nat.one_mul, show (0 : Int32) = nI 0 from rfl, a1, Option.bind_some, Option.bind_some]
    show (F_J13_bitCount_95d88 n (lN m') σ).bind _ = _
    rw [J_bitCount (by omega), Option.bind_some, popK_lvl a2 (by omega) 40, show min 40 (S 1 * S 1) = S 1 * S 1 by omega]
  · obtain ⟨υ, b1, b2, b3, b4⟩ := M_measures (n := n) (by omega) hm1.2.2.2.1 h1 h1' (fun c hc => by have := (cw.2.2.2.2.2.2.1 c hc).1; omega) h11
    refine ⟨υ, ?_, sM_agm (agm_of b2 (by decide) (Fs := [])) (by decide) (by simp)⟩
    unfold F_X12_reach
    rw [M_isCamp hm1.2.2.2.1 (by omega), Option.bind_some, if_pos c0, if_neg ne10, show (0 : Int64) = lN 0 from rfl, show (36 : Int64) = lN 36 from rfl, M_in_in (by decide) (by decide) hm31 (by omega) hm2, Option.bind_some, if_neg ne10]
    show (F_X12_measures n (τ.1 259 11) τ).bind _ = _
    rw [rowN_get hm1.2.2.2.1, b1, Option.bind_some]
    rw [show L_X12_reach_36 n n (nI m) (0 : Int32) (0 : Int32) υ = _ from M_reach36 (n := n) (D := wy S (S 11)) h36 hm2 (fun c hc => dW_lt b3 hc) n 0 υ (rowN_agr hm1.2.2.2.1 b2 (by decide)) b4 (by omega) (by omega), Option.bind_some]
end K8
