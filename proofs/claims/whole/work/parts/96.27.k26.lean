/-! cut: the class's way between, and whether it is cut. -/
section K26
variable {S : Nat → Nat} {b tg n : Nat} {σ τ : PS}
/-- what leads from a cell to the target, all of it in M -/
def Bk (S : Nat → Nat) (tg y M : Nat) : Prop := ∀ P, chn S P y → ∃ Q : List Nat, chn S (Q ++ P) tg ∧ ∀ x ∈ Q, x = tg ∨ M.testBit x = true
theorem X_cb87 (cw : okW S b) (ht : tg < S 1 * S 1) (h9 : wy S (S 11) tg ≠ 99) (hR : RX σ 242 S) (hm : ∀ i, i < wy S (S 11) tg → ∃ mi, σ.2 248 i = lN mi ∧ lvl (S 1) (wy S (S 11)) i mi) : ∀ (L K y M : Nat), L < K → L < wy S (S 11) tg → wy S (S 11) y = L + 1 → y < S 1 * S 1 → Bk S tg y M → (y = tg ∨ M.testBit y = true) → (∀ x, M.testBit x = true → alw S tg x ∧ S (37 + x) = 0) → M < 2 ^ 36 → ∃ M' y', L_X7_cellsBetween_87 n K (lN M) (lN (2 ^ y)) (nI L) σ = some (lN M', σ) ∧ wy S (S 11) y' = 1 ∧ y' < S 1 * S 1 ∧ Bk S tg y' M' ∧ (y' = tg ∨ M'.testBit y' = true) ∧ (∀ x, M'.testBit x = true → alw S tg x ∧ S (37 + x) = 0) ∧ M' < 2 ^ 36
  | _, 0, y, M, hK, hL, hy, hyc, hB, hyM, hMa, hM => by omega
  | 0, K + 1, y, M, hK, hL, hy, hyc, hB, hyM, hMa, hM => by
    rw [L_X7_cellsBetween_87, if_pos (show nI 0 ≤ (0 : Int32) by decide)]
    exact ⟨M, y, rfl, hy, hyc, hB, hyM, hMa, hM⟩
  | L + 1, K + 1, y, M, hK, hL, hy, hyc, hB, hyM, hMa, hM => by
    have h36 := okW_36 cw
    have hD := wy_is cw cw.2.2.2.1
    have hlt := hD.2.2.2 tg ht h9
    obtain ⟨mL, l1, l2⟩ := hm (L + 1) hL
    have hml := inQ_lt h36 (lvl_inQ l2)
    have hsl : sprN (S 1) (2 ^ y) < 2 ^ 36 := by unfold sprN; exact Nat.and_lt_two_pow _ (fc_lt (S 1) (by have := cw.2.1; omega)).2
    have hq := inQ_one hyc
    have hyq : y ≠ S 11 := fun e => by rw [e, hD.1] at hy; omega
    obtain ⟨yf, u, d, u1, u2, u3, u4, u5⟩ := hD.2.1 y hyc hyq (by rw [hy]; omega)
    have cb : ∀ c, (sprN (S 1) (2 ^ y) &&& mL).testBit c = true ↔ (c < S 1 * S 1 ∧ ∃ d, d < 4 ∧ nb (S 1) c d = y) ∧ wy S (S 11) c ≠ 99 ∧ wy S (S 11) c ≤ L + 1 := by
      intro c
      rw [Nat.testBit_and, Bool.and_eq_true, sprN_bit cw.1 cw.2.1 hq, l2 c]
      constructor
      · rintro ⟨⟨a1, d, a2, a3, a4⟩, a5, a6, a7⟩
        rw [Nat.testBit_two_pow, decide_eq_true_iff] at a4
        exact ⟨⟨a1, d, a2, a4.symm⟩, a6, a7⟩
      · rintro ⟨⟨a1, d, a2, a3⟩, a6, a7⟩
        exact ⟨⟨a1, d, a2, by rw [a3]; omega, by rw [a3, Nat.testBit_two_pow]; simp⟩, a1, a6, a7⟩
    have hne : sprN (S 1) (2 ^ y) &&& mL ≠ 0 := by
      intro e
      have := (cb u).mpr ⟨⟨u1, d, u2, u3⟩, u4, by omega⟩
      rw [e, Nat.zero_testBit] at this
      cases this
    have hCl : sprN (S 1) (2 ^ y) &&& mL < 2 ^ 36 := and_lt hsl
    obtain ⟨x, x1, x2⟩ := low_is hne hCl
    obtain ⟨⟨xc, d', d1, d2⟩, x9, xle⟩ := (cb x).mp x1
    have h3 := hD.2.2.1 x d' xc d1 x9 (by rw [d2]; omega) (by show S (37 + nb (S 1) x d') = 0; rw [d2]; exact yf)
    rw [d2] at h3
    have hx : wy S (S 11) x = L + 1 := by omega
    have x36 : 2 ^ x < 2 ^ 36 := Nat.pow_lt_pow_right (by decide) (by omega)
    have xq : x ≠ S 11 := fun e => by rw [e, hD.1] at hx; omega
    have xt : x ≠ tg := fun e => by rw [e] at hx; omega
    have mb : ∀ c, (M ||| 2 ^ x).testBit c = true ↔ M.testBit c = true ∨ c = x := by
      intro c
      rw [Nat.testBit_or, Bool.or_eq_true, Nat.testBit_two_pow, decide_eq_true_iff]
      exact ⟨fun w => w.imp id Eq.symm, fun w => w.imp id Eq.symm⟩
    obtain ⟨M', y', r1, r2, r3, r4, r5, r6, r7⟩ := X_cb87 cw ht h9 hR hm L K x (M ||| 2 ^ x) (by omega) (by omega) hx xc (fun P hP => by
      obtain ⟨Q, q1, q2⟩ := hB (y :: P) ⟨rfl, x, d', hP, d1, d2, by omega, yf⟩
      refine ⟨Q ++ [y], by rw [List.append_assoc]; exact q1, fun z hz => ?_⟩
      rcases List.mem_append.mp hz with w | w
      · exact (q2 z w).imp id (fun w => (mb z).mpr (Or.inl w))
      · have : z = y := by simpa using w
        rw [this]
        exact hyM.imp id (fun w => (mb y).mpr (Or.inl w))) (Or.inr ((mb x).mpr (Or.inr rfl))) (fun c hc => by
      rcases (mb c).mp hc with w | w
      · exact hMa c w
      · rw [w]; exact ⟨⟨xc, xq, xt⟩, (hD.2.1 x xc xq x9).1⟩) (Nat.or_lt_two_pow hM x36)
    refine ⟨M', y', ?_, r2, r3, r4, r5, r6, r7⟩
    rw [L_X7_cellsBetween_87, if_neg (show ¬ nI (L + 1) ≤ (0 : Int32) from nI_ge (a := 0) (by omega) (by omega)), X_spread hR cw.1 cw.2.1 hq, Option.bind_some]
    dsimp only
    rw [nI_clamp (by omega), if_pos ⟨nI_pos' (by omega), by omega⟩, l1, wb_and (by omega) (by omega), x2, wb_or (by omega) (by omega), m1_p (by omega)]
    exact r1
theorem X_between (hn : 100 ≤ n) (cw : okW S b) (ht : tg < S 1 * S 1) (h9 : wy S (S 11) tg ≠ 99) (hR : RX σ 242 S) : ∃ M τ, F_X7_cellsBetween n (nI tg) σ = some (lN M, τ) ∧ (∃ P, chn S P tg ∧ ∀ x ∈ P, x = tg ∨ M.testBit x = true) ∧ (∀ x, M.testBit x = true → alw S tg x ∧ S (37 + x) = 0) ∧ M < 2 ^ 36 ∧ agr [248] σ τ := by
  have h36 := okW_36 cw
  have h11 := cw.2.2.2.1
  have hD := wy_is cw h11
  have hlt := hD.2.2.2 tg ht h9
  obtain ⟨τ, a1, a2, a3⟩ := X_cb18 (n := n) cw ht h9 n 0 (2 ^ S 11) σ hR (lvl_0 h11 hD) (by omega) (fun i hi => by omega) (by omega)
  have hR1 := RX_agr hR a3 (by decide)
  have pre : F_X7_cellsBetween n (nI tg) σ = (L_X7_cellsBetween_87 n n (lN 0) (lN (2 ^ tg)) (nI (wy S (S 11) tg) - 1) τ).bind (fun o12 => some (o12.1, o12.2)) := by
    unfold F_X7_cellsBetween
    rw [hR.2.2.1, show (1 : Int64) = lN 1 from rfl, wb_shl 1 (show tg < 64 by omega), wb_shl 1 (show S 11 < 64 by omega), Nat.one_mul, Nat.one_mul, show (0 : Int32) = nI 0 from rfl, a1, Option.bind_some]
    rfl
  by_cases e : tg = S 11
  · have e0 : wy S (S 11) tg = 0 := by rw [e]; exact hD.1
    refine ⟨0, τ, ?_, ⟨[], e, fun x hx => (by cases hx)⟩, fun x hx => (by rw [Nat.zero_testBit] at hx; cases hx), by decide, a3⟩
    obtain ⟨nn, hnn⟩ : ∃ nn, n = nn + 1 := ⟨n - 1, by omega⟩
    have : L_X7_cellsBetween_87 n (nn + 1) (lN 0) (lN (2 ^ tg)) (nI 0 - 1) τ = some (lN 0, τ) := by
      rw [L_X7_cellsBetween_87, if_pos (show nI 0 - 1 ≤ 0 by decide)]
    rw [← hnn] at this
    rw [pre, e0, this]
    rfl
  · have e0 : wy S (S 11) tg ≠ 0 := by
      obtain ⟨_, u, d, _, _, _, _, e⟩ := hD.2.1 tg ht e h9
      omega
    obtain ⟨M, y, b1, b2, b3, b4, b5, b6, b7⟩ := X_cb87 (n := n) cw ht h9 hR1 a2 (wy S (S 11) tg - 1) n tg 0 (by omega) (by omega) (by omega) ht (fun P hP => ⟨[], hP, fun x hx => (by cases hx)⟩) (Or.inl rfl) (fun x hx => (by rw [Nat.zero_testBit] at hx; cases hx)) (by decide)
    have yq : y ≠ S 11 := fun w => by rw [w, hD.1] at b2; omega
    obtain ⟨yf, u, d, u1, u2, u3, u4, u5⟩ := hD.2.1 y b3 yq (by omega)
    have uq : u = S 11 := by
      apply Classical.byContradiction
      intro w
      obtain ⟨_, v, d', _, _, _, _, z⟩ := hD.2.1 u u1 w u4
      omega
    obtain ⟨Q, q1, q2⟩ := b4 [y] ⟨rfl, u, d, uq, u2, u3, by omega, yf⟩
    refine ⟨M, τ, ?_, ⟨Q ++ [y], q1, fun x hx => ?_⟩, b6, b7, a3⟩
    · rw [pre, show nI (wy S (S 11) tg) - 1 = nI (wy S (S 11) tg - 1) from nI_sub (b := 1) (by omega), b1]
      rfl
    · rcases List.mem_append.mp hx with w | w
      · exact q2 x w
      · have : x = y := by simpa using w
        rw [this]; exact b5
theorem bm_bs {c : Nat} (hc : c < S 1 * S 1) : bm S ||| 2 ^ c = bm (bs S [c]) := by
  apply eq_of_bits
  intro x
  rw [Nat.testBit_or, Bool.or_eq_true, bm_bit, bm_bit, Nat.testBit_two_pow, decide_eq_true_iff, bs_ne (show 1 < 37 by decide), bs_b]
  constructor
  · rintro (⟨h1, h2⟩ | h)
    · refine ⟨h1, ?_⟩
      split
      · decide
      · exact h2
    · subst h
      exact ⟨hc, by rw [if_pos (by simp)]; decide⟩
  · rintro ⟨h1, h2⟩
    by_cases e : c = x
    · exact Or.inr e
    · rw [if_neg (by simpa using fun w => e w.symm)] at h2
      exact Or.inl ⟨h1, h2⟩
theorem RX_bs {i c : Nat} (hR : RX σ i S) (cw : okW S b) (hc : c < S 1 * S 1) : RX (psJ σ i 6 (lN (bm S ||| 2 ^ c))) i (bs S [c]) := by
  have h36 := okW_36 cw
  have h2 := cw.2.2.1
  obtain ⟨r0, r1, r2, r3, r4, r5, r6, rt, rb⟩ := hR
  have e : ∀ j, j < 37 → bs S [c] j = S j := fun j hj => bs_ne hj
  refine ⟨by rw [e 1 (by omega)]; exact r0, by rw [e 1 (by omega)]; exact r1, by rw [e 11 (by omega)]; exact r2, by rw [e 10 (by omega)]; exact r3, by rw [e 12 (by omega)]; exact r4, by rw [e 2 (by omega)]; exact r5, by rw [psJ_v, bm_bs hc], fun u hu => ?_, fun d hd => ?_⟩
  · rw [e 2 (by omega)] at hu
    rw [e (13 + 4 * u) (by omega), e (13 + 4 * u + 1) (by omega), e (13 + 4 * u + 2) (by omega), e (13 + 4 * u + 3) (by omega)]
    exact rt u hu
  · rw [bs_hi (fun x hx => by simp at hx; omega) (show 73 ≤ 73 + d by omega)]
    exact rb d hd
theorem bm_back {c : Nat} (h36 : S 1 * S 1 ≤ 36) (hc : c < S 1 * S 1) (hf : S (37 + c) = 0) : lN (bm (bs S [c])) &&& ((1 : Int64) <<< ((nI c).toInt64 &&& 63) ^^^ (-1 : Int64)) = lN (bm S) := by
  have e1 : bs S [c] 1 = S 1 := bs_ne (by omega)
  have hb := bm_lt (S := bs S [c]) (by rw [e1]; exact h36)
  have hp : 2 ^ c < 2 ^ 36 := Nat.pow_lt_pow_right (by decide) (by omega)
  rw [allO_is, show (1 : Int64) = lN 1 from rfl, wb_shl 1 (show c < 64 by omega), Nat.one_mul, lN_xor, wb_and (by omega) (not_lt (by omega))]
  congr 1
  apply eq_of_bits
  intro x
  rw [Nat.testBit_and, Bool.and_eq_true, bm_bit, bm_bit, e1, bs_b]
  constructor
  · rintro ⟨⟨h1, h2⟩, h3⟩
    rw [not_bit (by omega)] at h3
    have hx : x ≠ c := fun e => by
      rw [e, Nat.testBit_two_pow_self] at h3
      cases h3
    rw [if_neg (by simpa using hx)] at h2
    exact ⟨h1, h2⟩
  · rintro ⟨h1, h2⟩
    have hx : x ≠ c := fun e => h2 (by rw [e]; exact hf)
    refine ⟨⟨h1, by rw [if_neg (by simpa using hx)]; exact h2⟩, ?_⟩
    rw [not_bit (by omega), Nat.testBit_two_pow_of_ne (Ne.symm hx)]
    rfl
theorem RX_un {i c : Nat} (hR : RX σ i (bs S [c])) (hc : c < 36) (h2 : S 2 ≤ 6) : RX (psJ σ i 6 (lN (bm S))) i S := by
  obtain ⟨r0, r1, r2, r3, r4, r5, r6, rt, rb⟩ := hR
  have e : ∀ j, j < 37 → bs S [c] j = S j := fun j hj => bs_ne hj
  rw [e 1 (by omega)] at r0 r1
  rw [e 11 (by omega)] at r2
  rw [e 10 (by omega)] at r3
  rw [e 12 (by omega)] at r4
  rw [e 2 (by omega)] at r5 rt
  refine ⟨r0, r1, r2, r3, r4, r5, psJ_v, fun u hu => ?_, fun d hd => ?_⟩
  · have := rt u hu
    rw [e (13 + 4 * u) (by omega), e (13 + 4 * u + 1) (by omega), e (13 + 4 * u + 2) (by omega), e (13 + 4 * u + 3) (by omega)] at this
    exact this
  · have := rb d hd
    rw [bs_hi (fun x hx => by simp at hx; omega) (show 73 ≤ 73 + d by omega)] at this
    exact this
theorem X_isCut (hn : 100 ≤ n) : ∀ (d k : Nat) (S : Nat → Nat) (σ : PS), k < d → k ≤ 3 → okW S b → tg < S 1 * S 1 → RX σ 242 S → ∃ r τ, F_X7_isCutBy n d (nI tg) (nI k) σ = some (r, τ) ∧ (r ≠ 0 ↔ Exk S tg k) ∧ RX τ 242 S ∧ agr (248 :: wI 242) σ τ := by
  intro d
  induction d with
  | zero => intro k S σ h; omega
  | succ d ih =>
    intro k S σ hk h3 cw ht hR
    have h36 := okW_36 cw
    have dd := X_dist1 (n := n) (i := 242) hn hR cw cw.2.2.2.1 ht
    have pre : F_X7_isCutBy n (d + 1) (nI tg) (nI k) σ = (if oI (wy S (S 11) tg) = (-1 : Int32) then some ((1 : Int32), σ) else (if nI k ≤ 0 then some ((0 : Int32), σ) else (if nI k ≤ (3 : Int32) then (F_X7_cellsBetween n (nI tg) σ).bind (fun q6 => (L_X7_isCutBy_43 n (F_X7_isCutBy n d) n (nI tg) (nI k) q6.1 (0 : Int32) q6.2).bind (fun o13 => (if o13.1 = 0 then some ((1 : Int32), o13.2) else some ((0 : Int32), o13.2)))) else some ((0 : Int32), σ)))) := by
      show (F_X10_distance n 242 (σ.1 242 2) ((1 : Int64) <<< ((nI tg).toInt64 &&& 63)) σ).bind _ = _
      rw [hR.2.2.1, show (1 : Int64) = lN 1 from rfl, wb_shl 1 (show tg < 64 by omega), Nat.one_mul, dd.1, Option.bind_some]
    rw [pre]
    by_cases w : wy S (S 11) tg = 99
    · rw [w, if_pos (show oI 99 = (-1 : Int32) from rfl)]
      exact ⟨1, σ, rfl, ⟨fun _ => Exk_noW w, fun _ => by decide⟩, hR, agr_refl⟩
    · have eo : oI (wy S (S 11) tg) = nI (wy S (S 11) tg) := by unfold oI; rw [if_neg w]
      rw [eo, if_neg (show ¬ nI (wy S (S 11) tg) = -1 from m1_ne (by have := dd.2; omega))]
      cases k with
      | zero =>
        rw [if_pos (show nI 0 ≤ (0 : Int32) by decide)]
        exact ⟨0, σ, rfl, ⟨fun h => absurd rfl h, fun h => absurd (Exk_0.mp h) w⟩, hR, agr_refl⟩
      | succ k =>
        rw [if_neg (show ¬ nI (k + 1) ≤ (0 : Int32) from nI_ge (a := 0) (by omega) (by omega)), if_pos (show nI (k + 1) ≤ (3 : Int32) from nI_le (show k + 1 ≤ 3 from h3) (by decide))]
        obtain ⟨M, τ0, a1, ⟨P, p1, p2⟩, a3, a4, a5⟩ := X_between (n := n) hn cw ht w hR
        have hR0 := RX_agr hR a5 (by decide)
        rw [a1, Option.bind_some]
        have lp : ∀ (K m c : Nat) (σ : PS), c + m = S 1 * S 1 → m < K → RX σ 242 S → (∀ x, x < c → M.testBit x = true → ¬ Exk (bs S [x]) tg k) → ∃ r τ, L_X7_isCutBy_43 n (F_X7_isCutBy n d) K (nI tg) (nI (k + 1)) (lN M) (nI c) σ = some (r, τ) ∧ (r = 0 ↔ Exk S tg (k + 1)) ∧ RX τ 242 S ∧ agr (248 :: wI 242) σ τ := by
          intro K
          induction K with
          | zero => intro m c σ _ h; omega
          | succ K ihK =>
            intro m c σ hc hm hR hno
            rw [L_X7_isCutBy_43, hR.2.1]
            by_cases e : S 1 * S 1 ≤ c
            · rw [if_pos (nI_le e (by omega))]
              refine ⟨1, σ, rfl, ⟨fun h => absurd h (by decide), fun h => ?_⟩, hR, agr_refl⟩
              obtain ⟨x, x1, x2, x3, x4⟩ := Exk_path cw p1 h
              exact absurd x4 (hno x (by have := x3.1; omega) ((p2 x x1).resolve_left x2))
            · rw [if_neg (nI_ge (by omega) (by omega)), wb_bit (by omega) (by omega)]
              have hz : lg_cmp (lN (M / 2 ^ c % 2)) (0 : Int64) = 0 ↔ ¬ M.testBit c = true := by
                rw [lg_cmp_eq, show (0 : Int64) = lN 0 from rfl, lN_0 (by omega), Nat.testBit_eq_decide_div_mod_eq, decide_eq_true_iff]
                omega
              by_cases q : M.testBit c = true
              · rw [if_neg (fun h => hz.mp h q)]
                obtain ⟨al, fr⟩ := a3 c q
                have cwb : okW (bs S [c]) b := okW_bs cw (fun x hx => by simp at hx; omega)
                have hRb := RX_bs hR cw al.1
                obtain ⟨r, τ1, b1, b2, b3, b4⟩ := ih k (bs S [c]) (psJ σ 242 6 (lN (bm S ||| 2 ^ c))) (by omega) (by omega) cwb (by rw [bs_ne (by omega)]; exact ht) hRb
                have e6 : (σ.2 242 6) ||| ((1 : Int64) <<< ((nI c).toInt64 &&& 63)) = lN (bm S ||| 2 ^ c) := by
                  have hb := bm_lt (S := S) h36
                  have hp : 2 ^ c < 2 ^ 36 := Nat.pow_lt_pow_right (by decide) (by omega)
                  rw [hR.2.2.2.2.2.2.1, show (1 : Int64) = lN 1 from rfl, wb_shl 1 (show c < 64 by omega), Nat.one_mul, wb_or (by omega) (by omega)]
                rw [e6, show nI (k + 1) - (1 : Int32) = nI k from nI_pred _, b1, Option.bind_some]
                dsimp only
                rw [b3.2.2.2.2.2.2.1, bm_back h36 al.1 fr]
                have hRe : RX (psJ τ1 242 6 (lN (bm S))) 242 S := RX_un b3 (by omega) cw.2.2.1
                have age : agr (248 :: wI 242) σ (psJ τ1 242 6 (lN (bm S))) := agr_trans (agr_psJ (by decide)) (agr_trans b4 (agr_psJ (by decide)))
                by_cases y : r = 0
                · rw [if_pos y, nI_1]
                  obtain ⟨r', τ2, f1, f2, f3, f4⟩ := ihK (m - 1) (c + 1) _ (by omega) (by omega) hRe (fun x hx hM => by
                    by_cases ex : x = c
                    · rw [ex]; exact fun h => (b2.mpr h) y
                    · exact hno x (by omega) hM)
                  exact ⟨r', τ2, f1, f2, f3, agr_trans age f4⟩
                · rw [if_neg y]
                  exact ⟨0, _, rfl, ⟨fun _ => Exk_cons al (b2.mp y), fun _ => rfl⟩, hRe, age⟩
              · rw [if_pos (hz.mpr q), nI_1]
                exact ihK (m - 1) (c + 1) σ (by omega) (by omega) hR (fun x hx hM => by
                  by_cases ex : x = c
                  · rw [ex] at hM; exact absurd hM q
                  · exact hno x (by omega) hM)
        obtain ⟨r, τ, t1, t2, t3, t4⟩ := lp n (S 1 * S 1) 0 τ0 (by omega) (by omega) hR0 (fun x hx => by omega)
        dsimp only
        rw [show L_X7_isCutBy_43 n (F_X7_isCutBy n d) n (nI tg) (nI (k + 1)) (lN M) (0 : Int32) τ0 = _ from t1, Option.bind_some]
        have ag := agr_trans (agr_mono a5 (by decide)) t4
        by_cases y : r = 0
        · rw [if_pos (show (r, τ).1 = 0 from y)]
          exact ⟨1, τ, rfl, ⟨fun _ => t2.mp y, fun _ => by decide⟩, t3, ag⟩
        · rw [if_neg (show ¬ (r, τ).1 = 0 from y)]
          exact ⟨0, τ, rfl, ⟨fun h => absurd rfl h, fun h => absurd (t2.mpr h) y⟩, t3, ag⟩
end K26
