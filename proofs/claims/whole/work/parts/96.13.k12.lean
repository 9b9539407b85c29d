/-! wake: both sides alike. -/
section K12
variable {B : Nat → Int32} {sz z h p : Nat} {cs : Nat → List CL} {S S' : Nat → Nat} {H : Nat → Nat → Nat} {fo x : Int32} {im : Nat → Option IMG} {σ τ : PS} {n : Nat}
theorem RX_asked {i : Nat} (hR : RX σ i S) (h36 : S 1 * S 1 ≤ 36) (h2 : S 2 ≤ 6) {t : Nat} (ht : t < S 2) (v : Nat) : RX (psI σ (i + 3) t (nI v)) i (un S (13 + 4 * t + 2) v) := by
  obtain ⟨r0, r1, r2, r3, r4, r5, r6, rt, rb⟩ := hR
  have hcell : ∀ j, j ≠ 13 + 4 * t + 2 → un S (13 + 4 * t + 2) v j = S j := fun j h1 => un_ne _ _ h1
  have e1 := hcell 1 (by omega)
  have e2 := hcell 2 (by omega)
  have e10 := hcell 10 (by omega)
  have e11 := hcell 11 (by omega)
  have e12 := hcell 12 (by omega)
  have eb : bm (un S (13 + 4 * t + 2) v) = bm S := bm_congr h36 e1 (fun c hc => hcell _ (by omega))
  have n1 : i ≠ i + 3 := by omega
  refine ⟨?_, ?_, ?_, ?_, ?_, ?_, ?_, fun u hu => ?_, fun d hd => ?_⟩
  · rw [psI_other n1, e1]; exact r0
  · rw [psI_other n1, e1]; exact r1
  · rw [psI_other n1, e11]; exact r2
  · rw [psI_other n1, e10]; exact r3
  · rw [psI_other n1, e12]; exact r4
  · rw [psI_other n1, e2]; exact r5
  · rw [eb]; exact r6
  · rw [e2] at hu
    rw [hcell (13 + 4 * u) (by omega), hcell (13 + 4 * u + 1) (by omega), hcell (13 + 4 * u + 3) (by omega), psI_other (show i + 1 ≠ i + 3 by omega), psI_other (show i + 2 ≠ i + 3 by omega), psI_other (show i + 4 ≠ i + 3 by omega), psI_eq]
    have := rt u hu
    refine ⟨this.1, this.2.1, ?_, this.2.2.2⟩
    by_cases q : u = t
    · subst q; rw [if_pos rfl, un_eq]
    · rw [if_neg q, hcell _ (by omega)]; exact this.2.2.1
  · rw [hcell _ (by omega), psI_other (by omega)]
    exact rb d hd
theorem okW_asked {b : Nat} (cw : okW S b) {t : Nat} (ht : t < S 2) : okW (un S (13 + 4 * t + 2) (S (13 + 4 * t + 2) + 1)) (b + 1) := by
  obtain ⟨w1, w2, w3, w4, w5, w6, w7, w8⟩ := cw
  have e : ∀ j, j ≠ 13 + 4 * t + 2 → un S (13 + 4 * t + 2) (S (13 + 4 * t + 2) + 1) j = S j := fun j hj => un_ne _ _ hj
  refine ⟨by rw [e 1 (by omega)]; exact w1, by rw [e 1 (by omega)]; exact w2, by rw [e 2 (by omega)]; exact w3, by rw [e 11 (by omega), e 1 (by omega)]; exact w4, fun u hu => ?_, by rw [e 12 (by omega), e 2 (by omega)]; exact w6, fun y hy => by rw [e _ (by omega), e _ (by omega)]; have := w7 y hy; omega, by rw [e 10 (by omega)]; omega⟩
  rw [e 2 (by omega)] at hu
  rw [e 1 (by omega), e 2 (by omega), e (13 + 4 * u) (by omega), e (13 + 4 * u + 1) (by omega), e (13 + 4 * u + 3) (by omega)]
  refine ⟨(w5 u hu).1, (w5 u hu).2.1, ?_, (w5 u hu).2.2.2⟩
  by_cases eu : u = t
  · subst eu; rw [un_eq]; have := (w5 u hu).2.2.1; omega
  · rw [e _ (by omega)]; have := (w5 u hu).2.2.1; omega
theorem andn_is : ∀ a, a < 64 → ∀ b, b < 64 → nI a &&& (nI b ^^^ (-1 : Int32)) = nI (a &&& (63 ^^^ b)) := by decide +kernel
def bitS (x : Nat) : Nat → Nat
  | 0 => 0
  | k + 1 => if x.testBit k = true then bitS x k + 1 else bitS x k
theorem pcn_bits : ∀ x, x < 64 → pcn x = bitS x 6 := by decide +kernel
theorem eaK_bit (S : Nat → Nat) (c : Nat) : ∀ k, (eaK S k).testBit c = true ↔ c < k ∧ S (13 + 4 * c + 2) ≠ 0
  | 0 => by
    unfold eaK
    rw [Nat.zero_testBit]
    exact ⟨fun h => (by cases h), fun ⟨h, _⟩ => (by omega)⟩
  | k + 1 => by
    unfold eaK
    by_cases e : S (13 + 4 * k + 2) = 0
    · rw [if_pos e, eaK_bit S c k]
      constructor
      · rintro ⟨h1, h2⟩
        exact ⟨by omega, h2⟩
      · rintro ⟨h1, h2⟩
        by_cases q : c = k
        · subst q; exact absurd e h2
        · exact ⟨by omega, h2⟩
    · rw [if_neg e, Nat.testBit_or, Bool.or_eq_true, eaK_bit S c k, Nat.testBit_two_pow, decide_eq_true_iff]
      constructor
      · rintro (⟨h1, h2⟩ | h)
        · exact ⟨by omega, h2⟩
        · subst h; exact ⟨by omega, e⟩
      · rintro ⟨h1, h2⟩
        by_cases q : c = k
        · exact Or.inr q.symm
        · exact Or.inl ⟨by omega, h2⟩
theorem eaK_lt (S : Nat → Nat) : ∀ k, eaK S k < 2 ^ k
  | 0 => by show 0 < 1; decide
  | k + 1 => by
    have ih := eaK_lt S k
    have : 2 ^ k < 2 ^ (k + 1) := Nat.pow_lt_pow_right (by decide) (by omega)
    unfold eaK
    split
    · omega
    · exact Nat.or_lt_two_pow (by omega) this
theorem eaK_64 (h2 : S 2 ≤ 6) : eaK S' (S 2) < 64 := by
  have := eaK_lt S' (S 2)
  have p64 : 2 ^ (S 2) ≤ 2 ^ 6 := Nat.pow_le_pow_right (by decide) h2
  omega
/-- those newly asked, counted -/
def nwK (S T : Nat → Nat) : Nat → Nat
  | 0 => 0
  | k + 1 => if S (13 + 4 * k + 2) = 0 ∧ T (13 + 4 * k + 2) ≠ 0 then nwK S T k + 1 else nwK S T k
theorem nw_bits {T : Nat → Nat} {m : Nat} : ∀ k, k ≤ 6 → bitS (eaK T m &&& (63 ^^^ eaK S m)) k = nwK S T (min k m)
  | 0, _ => by rw [Nat.zero_min]; rfl
  | k + 1, hk => by
    have ih := nw_bits (T := T) (m := m) k (by omega)
    have b63 : ∀ k, k < 6 → Nat.testBit 63 k = true := by decide
    have hb : (eaK T m &&& (63 ^^^ eaK S m)).testBit k = true ↔ k < m ∧ S (13 + 4 * k + 2) = 0 ∧ T (13 + 4 * k + 2) ≠ 0 := by
      rw [Nat.testBit_and, Bool.and_eq_true, eaK_bit, Nat.testBit_xor, b63 k (by omega)]
      have := eaK_bit S k m
      cases hq : (eaK S m).testBit k with
      | true =>
        rw [hq] at this
        have := this.mp rfl
        constructor
        · rintro ⟨_, h⟩; cases h
        · rintro ⟨_, h, _⟩; exact absurd h this.2
      | false =>
        rw [hq] at this
        constructor
        · rintro ⟨⟨h1, h2⟩, _⟩
          refine ⟨h1, ?_, h2⟩
          apply Classical.byContradiction
          intro w
          exact absurd (this.mpr ⟨h1, w⟩) (by decide)
        · rintro ⟨h1, _, h2⟩
          exact ⟨⟨h1, h2⟩, rfl⟩
    show (if _ then _ else _) = _
    rw [ih]
    by_cases q : k < m
    · rw [show min k m = k by omega, show min (k + 1) m = k + 1 by omega]
      show _ = if S (13 + 4 * k + 2) = 0 ∧ T (13 + 4 * k + 2) ≠ 0 then nwK S T k + 1 else nwK S T k
      by_cases w : S (13 + 4 * k + 2) = 0 ∧ T (13 + 4 * k + 2) ≠ 0
      · rw [if_pos w, if_pos (hb.mpr ⟨q, w⟩)]
      · rw [if_neg w, if_neg (fun e => w (hb.mp e).2)]
    · rw [show min k m = m by omega, show min (k + 1) m = m by omega, if_neg (fun e => q (hb.mp e).1)]
theorem J_new (h2 : S 2 ≤ 6) {T : Nat → Nat} : F_J6_bitCount_0f7a4 n (nI (eaK T (S 2)) &&& (nI (eaK S (S 2)) ^^^ (-1 : Int32))) σ = some (nI (nwK S T (S 2)), σ) := by
  have hx : eaK T (S 2) &&& (63 ^^^ eaK S (S 2)) < 64 := by
    have : eaK T (S 2) &&& (63 ^^^ eaK S (S 2)) ≤ eaK T (S 2) := Nat.and_le_left
    have := eaK_64 (S' := T) h2
    omega
  rw [andn_is _ (eaK_64 h2) _ (eaK_64 h2), J_bitCount6 _ hx, pcn_bits _ hx, nw_bits 6 (Nat.le_refl _), show min 6 (S 2) = S 2 by omega]
/-- how many are newly asked -/
noncomputable def nwV (T : Nat → Nat) (ru : RU) (m : Nat) : Nat := nwK T (pasN T ru m) (T 2)
theorem nwK_le (S T : Nat → Nat) : ∀ k, nwK S T k ≤ k
  | 0 => Nat.le_refl _
  | k + 1 => by
    have := nwK_le S T k
    unfold nwK
    split <;> omega
theorem X_new {b : Nat} (hn : 3000 ≤ n) {T : Nat → Nat} (cw : okW T b) {m : Nat} (hm : m ≤ 100) (hb : b + 100 < 2 ^ 20) {ru : RU} {fo : Int32} (hR : RX σ 217 T) (hf : foX n σ ru fo) : ∃ τ, F_X4_stride n 217 fo (nI m) σ = some τ ∧ F_X10_everAsked n 217 σ = some (nI (eaK T (T 2)), σ) ∧ F_X10_everAsked n 217 τ = some (nI (eaK (pasN T ru m) (T 2)), τ) ∧ agx (wI 217) σ τ := by
  obtain ⟨τ, b1, b2, b3⟩ := X_walkOn (n := n) (m := m) (by omega) cw (ru := ru) (x := fo) (by omega) (by omega) hR hf
  have cw' := okW_pasN cw ru m
  have e2 := (pasN_2 cw ru m).1
  have ev := X_everAsked (n := n) (by omega) b2 cw'.2.2.1 (fun t ht => by have := (cw'.2.2.2.2.1 t ht).2.2.1; omega)
  rw [e2] at ev
  exact ⟨τ, b1, X_everAsked (by omega) hR cw.2.2.1 (fun t ht => by have := (cw.2.2.2.2.1 t ht).2.2.1; omega), ev, b3⟩
/-- bits of those not asked -/
def ubK (S : Nat → Nat) : Nat → Nat
  | 0 => 0
  | k + 1 => if S (13 + 4 * k + 2) = 0 then ubK S k ||| 2 ^ k else ubK S k
theorem ubK_bit (S : Nat → Nat) (c : Nat) : ∀ k, (ubK S k).testBit c = true ↔ c < k ∧ S (13 + 4 * c + 2) = 0
  | 0 => by
    unfold ubK
    rw [Nat.zero_testBit]
    exact ⟨fun h => (by cases h), fun ⟨h, _⟩ => (by omega)⟩
  | k + 1 => by
    unfold ubK
    by_cases e : S (13 + 4 * k + 2) = 0
    · rw [if_pos e, Nat.testBit_or, Bool.or_eq_true, ubK_bit S c k, Nat.testBit_two_pow, decide_eq_true_iff]
      constructor
      · rintro (⟨h1, h2⟩ | h)
        · exact ⟨by omega, h2⟩
        · subst h; exact ⟨by omega, e⟩
      · rintro ⟨h1, h2⟩
        by_cases q : c = k
        · exact Or.inr q.symm
        · exact Or.inl ⟨by omega, h2⟩
    · rw [if_neg e, ubK_bit S c k]
      constructor
      · rintro ⟨h1, h2⟩
        exact ⟨by omega, h2⟩
      · rintro ⟨h1, h2⟩
        by_cases q : c = k
        · subst q; exact absurd h2 e
        · exact ⟨by omega, h2⟩
theorem ubK_lt (S : Nat → Nat) : ∀ k, ubK S k < 2 ^ k
  | 0 => by show 0 < 1; decide
  | k + 1 => by
    have ih := ubK_lt S k
    have : 2 ^ k < 2 ^ (k + 1) := Nat.pow_lt_pow_right (by decide) (by omega)
    unfold ubK
    split
    · exact Nat.or_lt_two_pow (by omega) this
    · omega
theorem M_newIn7 {T : Nat → Nat} {x1 x3 : Int32} (h2 : T 2 ≤ 6) (ha : ∀ t, t < T 2 → T (13 + 4 * t + 2) < 2 ^ 31) : ∀ (k t : Nat) (σ : PS), rowN σ 259 T → t ≤ T 2 → 7 ≤ k + t → L_X12_newIn_7 n k x1 (nI (ubK T t)) x3 (nI t) σ = some (x1, nI (ubK T (T 2)), x3, σ)
  | 0, t, σ, hS, ht, hk => by omega
  | k + 1, t, σ, hS, ht, hk => by
    rw [L_X12_newIn_7, rowN_get hS]
    by_cases e : T 2 ≤ t
    · have : t = T 2 := by omega
      subst this
      rw [if_pos (nI_le (Nat.le_refl _) (by omega))]
    · have ih := M_newIn7 (x1 := x1) (x3 := x3) h2 ha k (t + 1) σ hS (by omega) (by omega)
      rw [show ubK T (t + 1) = (if T (13 + 4 * t + 2) = 0 then ubK T t ||| 2 ^ t else ubK T t) from rfl] at ih
      have ha' := ha t (by omega)
      rw [if_neg (nI_ge (by omega) (by omega)), M_askedOf hS (by omega), Option.bind_some, nI_1]
      by_cases ea : T (13 + 4 * t + 2) = 0
      · rw [if_pos ea] at ih
        rw [if_pos (show nI (T (13 + 4 * t + 2)) = 0 by rw [ea]; rfl), show ((1 : Int32) <<< (nI t &&& 31)) = nI (2 ^ t) from shl1 t (by omega), nI_or]
        exact ih
      · rw [if_neg ea] at ih
        rw [if_neg (show ¬ nI (T (13 + 4 * t + 2)) = (0 : Int32) from nI_nz (by omega) (by omega)), show nI (ubK T t) ||| (0 : Int32) = nI (ubK T t) from Int32.or_zero]
        exact ih
theorem M_newIn52 {T U : Nat → Nat} (h2 : U 2 ≤ 6) (ha : ∀ t, t < U 2 → U (13 + 4 * t + 2) < 2 ^ 31) : ∀ (k t : Nat) (σ : PS), rowN σ 259 U → t ≤ U 2 → 7 ≤ k + t → L_X12_newIn_52 n k (nI (ubK T (U 2))) (nI (nwK T U t)) (nI t) σ = some (nI (nwK T U (U 2)), σ)
  | 0, t, σ, hS, ht, hk => by omega
  | k + 1, t, σ, hS, ht, hk => by
    have hu : ubK T (U 2) < 64 := by
      have := ubK_lt T (U 2)
      have p64 : 2 ^ (U 2) ≤ 2 ^ 6 := Nat.pow_le_pow_right (by decide) h2
      omega
    rw [L_X12_newIn_52, rowN_get hS]
    by_cases e : U 2 ≤ t
    · have : t = U 2 := by omega
      rw [this, if_pos (nI_le (Nat.le_refl _) (by omega))]
    · have ih := M_newIn52 (T := T) h2 ha k (t + 1) σ hS (by omega) (by omega)
      rw [show nwK T U (t + 1) = (if T (13 + 4 * t + 2) = 0 ∧ U (13 + 4 * t + 2) ≠ 0 then nwK T U t + 1 else nwK T U t) from rfl] at ih
      have ha' := ha t (by omega)
      have hb := ubK_bit T t (U 2)
      rw [if_neg (nI_ge (by omega) (by omega)), M_isOf hu (by omega), Option.bind_some, nI_1, Int32.add_zero, show nI (nwK T U t) + (1 : Int32) = nI (nwK T U t + 1) from nI_1 _]
      by_cases q : (ubK T (U 2)).testBit t = true
      · have q0 := (hb.mp q).2
        rw [if_neg (show ¬ (if (ubK T (U 2)).testBit t = true then (1 : Int32) else 0) = 0 by rw [if_pos q]; decide)]
        show (F_X12_askedOf n (nI t) σ).bind _ = _
        rw [M_askedOf hS (by omega), Option.bind_some]
        by_cases ea : U (13 + 4 * t + 2) = 0
        · rw [if_neg (fun w => w.2 ea)] at ih
          rw [if_pos (show nI (U (13 + 4 * t + 2)) ≤ 0 by rw [ea]; decide)]
          exact ih
        · rw [if_pos ⟨q0, ea⟩] at ih
          rw [if_neg (show ¬ nI (U (13 + 4 * t + 2)) ≤ (0 : Int32) from nI_ge (a := 0) (b := U (13 + 4 * t + 2)) (by omega) (by omega))]
          exact ih
      · rw [if_pos (show (if (ubK T (U 2)).testBit t = true then (1 : Int32) else 0) = 0 by rw [if_neg q])]
        rw [if_neg (fun w => q (hb.mpr ⟨by omega, w.1⟩))] at ih
        exact ih
theorem M_newIn {b : Nat} (hn : 3000 ≤ n) {T : Nat → Nat} (cw : okW T b) (hl : lk S T) {m : Nat} (hm : m ≤ 100) (hb : b + 1000 < 2 ^ 20) {ru : RU} (hS : rowN σ 259 T) (hK : ∀ i, i < 99 → σ.1 263 i = nI (S (10 + i))) (hf : foM n σ ru) : ∃ τ, F_X12_newIn n (nI m) σ = some (nI (nwV T ru m), τ) ∧ rowN τ 259 S ∧ (∀ i, i < 99 → τ.1 263 i = nI (S (10 + i))) ∧ agm [257, 258, 259, 260, 261] [18] σ τ := by
  have cw' := okW_pasN cw ru m
  have e2 := (pasN_2 cw ru m).1
  obtain ⟨τ1, b1, b2, b3⟩ := M_passesAll (n := n) (m := m) (by omega) (b := b) (by omega) cw (ru := ru) (by omega) hS hf
  obtain ⟨τ, d1, d2, d3⟩ := M_lb (n := n) (S := S) hn (τ := τ1) (fun i hi => by rw [(b3.1 263 (by decide) (by decide)).1]; exact hK i hi) b2 (lk_trans hl (pasN_lk cw ru m))
  refine ⟨τ, ?_, d2, fun i hi => by rw [(d3 263 (by decide)).1, (b3.1 263 (by decide) (by decide)).1]; exact hK i hi, agm_trans b3 (agm_mono (agm_of d3 (by decide) (Fs := [])) (by decide) (by simp))⟩
  unfold F_X12_newIn
  rw [show L_X12_newIn_7 n n (nI m) (0 : Int32) (0 : Int32) (0 : Int32) σ = _ from M_newIn7 (n := n) (x1 := nI m) (x3 := 0) cw.2.2.1 (fun t ht => by have := (cw.2.2.2.2.1 t ht).2.2.1; omega) n 0 σ hS (by omega) (by omega), Option.bind_some]
  show (F_X12_passesAll n (nI m) σ).bind _ = _
  rw [b1, Option.bind_some]
  have l5 := M_newIn52 (n := n) (T := T) (U := pasN T ru m) cw'.2.2.1 (fun t ht => by have := (cw'.2.2.2.2.1 t ht).2.2.1; omega) n 0 τ1 b2 (by omega) (by omega)
  rw [e2] at l5
  rw [show L_X12_newIn_52 n n (nI (ubK T (T 2))) (0 : Int32) (0 : Int32) τ1 = _ from l5, Option.bind_some]
  show (F_X12_laysBack n τ1).bind _ = _
  rw [d1, Option.bind_some]
  rfl
noncomputable def wkP (S : Nat → Nat) (ru : RU) (m : Nat) : Nat → Int32 × Int32
  | 0 => (-1, nI (nwV S ru m))
  | k + 1 => if (wkP S ru m k).2 < nI (nwV (un S (13 + 4 * k + 2) (S (13 + 4 * k + 2) + 1)) ru m) then (nI k, nI (nwV (un S (13 + 4 * k + 2) (S (13 + 4 * k + 2) + 1)) ru m)) else wkP S ru m k
theorem X_wake12 {b : Nat} (hn : 3000 ≤ n) (cw : okW S b) {m : Nat} (hm : m ≤ 100) (hb : b + 200 < 2 ^ 20) {ru : RU} {fo : Int32} : ∀ (K k : Nat) (σ : PS), RX σ 25 S → foX n σ ru fo → σ.1 18 5 = fo → σ.1 216 3 = (wkP S ru m k).1 → σ.1 216 4 = (wkP S ru m k).2 → k ≤ S 2 → 7 ≤ K + k → ∃ τ, L_X2_findWhomToWake_12 n 18 K (nI m) (nI k) σ = some τ ∧ τ.1 216 3 = (wkP S ru m (S 2)).1 ∧ τ.1 216 4 = (wkP S ru m (S 2)).2 ∧ agx (216 :: wI 217) σ τ
  | 0, k, σ, hR, hf, h5, h3, h4, hk, hK => by have := cw.2.2.1; omega
  | K + 1, k, σ, hR, hf, h5, h3, h4, hk, hK => by
    have h36 := okW_36 cw
    have h2 := cw.2.2.1
    rw [L_X2_findWhomToWake_12, show σ.1 (18 + 7) 5 = nI (S 2) from hR.2.2.2.2.2.1]
    by_cases e : S 2 ≤ k
    · have : k = S 2 := by omega
      rw [this] at h3 h4
      rw [this, if_pos (nI_le (Nat.le_refl _) (by omega))]
      exact ⟨σ, rfl, h3, h4, agx_refl⟩
    · rw [if_neg (nI_ge (by omega) (by omega))]
      obtain ⟨τ1, a1, a2⟩ := X_copyFrom (n := n) (i := 217) (a := 25) (by omega) (by omega) (σ := σ)
      have hR1 := CP_RX a2 hR h2
      have ga : τ1.1 220 k = nI (S (13 + 4 * k + 2)) := (RX_tent hR1 (by omega)).2.2.1
      have hR2 := RX_asked hR1 h36 h2 (show k < S 2 by omega) (S (13 + 4 * k + 2) + 1)
      have ag1 : agx (216 :: wI 217) σ τ1 := agx_of (agr_mono a2.2.2.2.2 (by decide)) (by decide)
      have ag2 : agx (216 :: wI 217) σ (psI τ1 220 k (nI (S (13 + 4 * k + 2) + 1))) := agx_trans ag1 (agx_of (T := 216 :: wI 217) (agr_psI (by decide)) (by decide))
      have hck := okW_asked cw (show k < S 2 by omega)
      have e2 : un S (13 + 4 * k + 2) (S (13 + 4 * k + 2) + 1) 2 = S 2 := un_ne _ _ (by omega)
      have h52 : (psI τ1 220 k (nI (S (13 + 4 * k + 2) + 1))).1 18 5 = fo := by rw [(ag2.1 18 (by decide) (by decide) (by decide)).1]; exact h5
      obtain ⟨τ2, b1, b2, b2', b3⟩ := X_new (n := n) hn hck (m := m) hm (by omega) (ru := ru) (fo := fo) hR2 (foX_agx hf ag2 (by decide))
      have ag3 : agx (216 :: wI 217) σ τ2 := agx_trans ag2 (agx_mono b3 (by decide))
      have hR25 : RX τ2 25 S := RX_agx hR ag3 (by decide) (by decide)
      have hJ := J_new (n := n) (σ := τ2) hck.2.2.1 (T := pasN (un S (13 + 4 * k + 2) (S (13 + 4 * k + 2) + 1)) ru m)
      have g3 : τ2.1 216 3 = (wkP S ru m k).1 := by rw [(b3.1 216 (by decide) (by decide) (by decide)).1, psI_other (by decide), (a2.2.2.2.2 216 (by decide)).1]; exact h3
      have g4 : τ2.1 216 4 = (wkP S ru m k).2 := by rw [(b3.1 216 (by decide) (by decide) (by decide)).1, psI_other (by decide), (a2.2.2.2.2 216 (by decide)).1]; exact h4
      have h53 : τ2.1 18 5 = fo := by rw [(ag3.1 18 (by decide) (by decide) (by decide)).1]; exact h5
      show ∃ τ, (F_X10_copyFrom n 217 25 σ).bind _ = some τ ∧ _
      rw [a1, Option.bind_some, if_neg (show ¬ nI k = -1 from m1_ne (by omega)), nI_clamp (by omega), if_pos ⟨nI_pos' (by omega), by omega⟩, ga, nI_1, b2, Option.bind_some]
      show ∃ τ, (F_X4_stride n 217 ((psI τ1 220 k (nI (S (13 + 4 * k + 2) + 1))).1 18 5) (nI m) (psI τ1 220 k (nI (S (13 + 4 * k + 2) + 1)))).bind _ = some τ ∧ _
      rw [h52, b1, Option.bind_some, b2', Option.bind_some, hJ, Option.bind_some, nI_1]
      show ∃ τ, (if nI (nwV (un S (13 + 4 * k + 2) (S (13 + 4 * k + 2) + 1)) ru m) ≤ τ2.1 216 4 then L_X2_findWhomToWake_12 n 18 K (nI m) (nI (k + 1)) τ2 else L_X2_findWhomToWake_12 n 18 K (nI m) (nI (k + 1)) (psI (psI τ2 216 3 (nI k)) 216 4 (nI (nwV (un S (13 + 4 * k + 2) (S (13 + 4 * k + 2) + 1)) ru m)))) = some τ ∧ _
      rw [g4]
      have em : wkP S ru m (k + 1) = if (wkP S ru m k).2 < nI (nwV (un S (13 + 4 * k + 2) (S (13 + 4 * k + 2) + 1)) ru m) then (nI k, nI (nwV (un S (13 + 4 * k + 2) (S (13 + 4 * k + 2) + 1)) ru m)) else wkP S ru m k := rfl
      by_cases q : (wkP S ru m k).2 < nI (nwV (un S (13 + 4 * k + 2) (S (13 + 4 * k + 2) + 1)) ru m)
      · rw [if_pos q] at em
        rw [if_neg (Int32.not_le.mpr q)]
        generalize nwV (un S (13 + 4 * k + 2) (S (13 + 4 * k + 2) + 1)) ru m = v at em
        have ag : agr [216] τ2 (psI (psI τ2 216 3 (nI k)) 216 4 (nI v)) := agr_trans (agr_psI (by simp)) (agr_psI (by simp))
        have agx4 : agx (216 :: wI 217) σ (psI (psI τ2 216 3 (nI k)) 216 4 (nI v)) := agx_trans ag3 (agx_of (agr_mono ag (by decide)) (by decide))
        obtain ⟨τ, t1, t2, t3, t4⟩ := X_wake12 hn cw hm hb (ru := ru) (fo := fo) K (k + 1) _ (RX_agr hR25 ag (by decide)) (foX_agx hf agx4 (by decide)) (by rw [(ag 18 (by decide)).1]; exact h53) (by rw [em, psI_eq, if_neg (by decide), psI_eq, if_pos rfl]) (by rw [em, psI_eq, if_pos rfl]) (by omega) (by omega)
        exact ⟨τ, t1, t2, t3, agx_trans agx4 t4⟩
      · rw [if_neg q] at em
        rw [if_pos (Int32.not_lt.mp q)]
        obtain ⟨τ, t1, t2, t3, t4⟩ := X_wake12 hn cw hm hb (ru := ru) (fo := fo) K (k + 1) τ2 hR25 (foX_agx hf ag3 (by decide)) h53 (by rw [em]; exact g3) (by rw [em]; exact g4) (by omega) (by omega)
        exact ⟨τ, t1, t2, t3, agx_trans ag3 t4⟩
theorem M_wake48 {b : Nat} (hn : 3000 ≤ n) (cw : okW S b) {m : Nat} (hm : m ≤ 100) (hb : b + 2000 < 2 ^ 20) {ru : RU} {w : Int32} : ∀ (K k : Nat) (σ : PS), rowN σ 259 S → (∀ i, i < 99 → σ.1 263 i = nI (S (10 + i))) → foM n σ ru → k ≤ S 2 → 7 ≤ K + k → ∃ τ, L_X12_wake_48 n K (nI m) w (wkP S ru m k).1 (wkP S ru m k).2 (nI k) σ = some (w, (wkP S ru m (S 2)).1, (wkP S ru m (S 2)).2, τ) ∧ rowN τ 259 S ∧ agm [257, 258, 259, 260, 261] [18] σ τ
  | 0, k, σ, hS, hK3, hf, hk, hK => by have := cw.2.2.1; omega
  | K + 1, k, σ, hS, hK3, hf, hk, hK => by
    have h2 := cw.2.2.1
    rw [L_X12_wake_48, rowN_get hS]
    by_cases e : S 2 ≤ k
    · have : k = S 2 := by omega
      rw [this, if_pos (nI_le (Nat.le_refl _) (by omega))]
      exact ⟨σ, rfl, hS, agm_refl⟩
    · have ee : ((13 : Int32) + (4 : Int32) * nI k) + (2 : Int32) = nI (13 + 4 * k + 2) := by
        show nI 13 + nI 4 * nI k + nI 2 = _
        rw [nI_mul, nI_add, nI_add]
      have hck := okW_asked cw (show k < S 2 by omega)
      have hS1 := rowN_set (k := 13 + 4 * k + 2) (v := S (13 + 4 * k + 2) + 1) hS
      have ag1 : agm [257, 258, 259, 260, 261] [18] σ (psI σ 259 (13 + 4 * k + 2) (nI (S (13 + 4 * k + 2) + 1))) := agm_psI (by decide) (by decide)
      have hl : lk S (un S (13 + 4 * k + 2) (S (13 + 4 * k + 2) + 1)) := fun j hj => un_ne _ _ (by omega)
      obtain ⟨τ, b1, b2, b3, b4⟩ := M_newIn (n := n) (S := S) hn hck hl (m := m) hm (by omega) (ru := ru) hS1 (fun i hi => by rw [psI_other (by decide)]; exact hK3 i hi) (foM_agm hf ag1 (by decide) (by decide) (by decide) (by decide))
      have ag3 := agm_trans ag1 b4
      rw [if_neg (nI_ge (by omega) (by omega)), ee, nI_clamp (by omega), if_pos ⟨nI_pos' (by omega), by omega⟩, rowN_get hS, show nI (S (13 + 4 * k + 2)) + (1 : Int32) = nI (S (13 + 4 * k + 2) + 1) from nI_1 _, b1, Option.bind_some, nI_1]
      obtain ⟨τ2, t1, t2, t3⟩ := M_wake48 hn cw hm hb (ru := ru) (w := w) K (k + 1) τ b2 b3 (foM_agm hf ag3 (by decide) (by decide) (by decide) (by decide)) (by omega) (by omega)
      rw [show wkP S ru m (k + 1) = if (wkP S ru m k).2 < nI (nwV (un S (13 + 4 * k + 2) (S (13 + 4 * k + 2) + 1)) ru m) then (nI k, nI (nwV (un S (13 + 4 * k + 2) (S (13 + 4 * k + 2) + 1)) ru m)) else wkP S ru m k from rfl] at t1
      refine ⟨τ2, ?_, t2, agm_trans ag3 t3⟩
      by_cases q : (wkP S ru m k).2 < nI (nwV (un S (13 + 4 * k + 2) (S (13 + 4 * k + 2) + 1)) ru m)
      · rw [if_pos q] at t1
        rw [if_pos q]
        exact t1
      · rw [if_neg q] at t1
        rw [if_neg q]
        exact t1
theorem K_wake (hn : 3000 ≤ n) (a b : Int32) (hi : Inv σ) : Kok (F_X11_wake n a b) (F_X12_wake n a b) σ := by
  obtain ⟨B, sz, z, cs, S, h, p, H, fo, x, im, hg, hx, hm⟩ := hi
  rcases hg.2.2.1 with q | hc
  · refine K_noC hg hx hm (-2) (fun τ hr => ?_) (fun τ hr => ?_)
    · unfold F_X11_wake; rw [X_pitched hr (by rw [q]; decide), Option.bind_some, if_pos (q 1), if_pos rfl]
    · unfold F_X12_wake; rw [M_isCamp hr (by rw [q]; decide), Option.bind_some, if_neg (show ¬ S 0 = 1 by rw [q]; decide), if_pos rfl]
  obtain ⟨c0, cw, cb, c10, c178, cnt, chi⟩ := id hc
  have h1 := cw.1
  have h1' := cw.2.1
  have h2 := cw.2.2.1
  have hs1 : ¬ S 1 = 0 := by omega
  rcases rng a 1 30 (by decide) with ⟨m, hm1', hm100, hm31, e⟩ | hout | q
  rotate_left
  · refine K_noC hg hx hm (-2) (fun τ hr => ?_) (fun τ hr => ?_)
    · unfold F_X11_wake
      rw [X_pitched hr (by omega), Option.bind_some, if_neg hs1, if_neg ne10]
      by_cases w : a < (1 : Int32)
      · rw [if_pos w]
      · rw [if_neg w, if_pos (show (30 : Int32) < a from lt_of_out hout w)]
    · unfold F_X12_wake
      rw [M_isCamp hr (by omega), Option.bind_some, if_pos c0, if_neg ne10, show (1 : Int64) = lN 1 from rfl, show (30 : Int64) = lN 30 from rfl, M_in_out (by decide) (by decide) hout, Option.bind_some, if_pos rfl]
  · exact absurd q (by decide)
  subst e
  have pb1 : ¬ nI m < (1 : Int32) := nI_nlt (show 1 ≤ m from hm1') hm31
  have pb2 : ¬ (30 : Int32) < nI m := nI_nlt (show m ≤ 30 from hm100) (by decide)
  rcases rng b 0 1 (by decide) with ⟨w, _, hw2, hw31, e⟩ | hout | q
  rotate_left
  · refine K_noC hg hx hm (-2) (fun τ hr => ?_) (fun τ hr => ?_)
    · unfold F_X11_wake
      rw [X_pitched hr (by omega), Option.bind_some, if_neg hs1, if_neg ne10, if_neg pb1, if_neg pb2]
      by_cases w : b < 0
      · rw [if_pos w]
      · rw [if_neg w, if_neg (show ¬ b ≤ (1 : Int32) from Int32.not_le.mpr (lt_of_out hout w))]
    · unfold F_X12_wake
      rw [M_isCamp hr (by omega), Option.bind_some, if_pos c0, if_neg ne10, show (1 : Int64) = lN 1 from rfl, show (30 : Int64) = lN 30 from rfl, M_in_in (by decide) (by decide) hm31 (by omega) hm100, Option.bind_some, if_neg ne10, show (0 : Int64) = lN 0 from rfl, M_in_out (by decide) (by decide) hout, Option.bind_some, if_pos rfl]
  · exact absurd q (by decide)
  subst e
  have pc1 : ¬ nI w < (0 : Int32) := nI_n0 (by omega)
  have pc2 : nI w ≤ (1 : Int32) := nI_le (show w ≤ 1 from hw2) (by decide)
  have hR := hx.2.2.2.1.1
  generalize hV : psI (psI σ 216 3 (-1 : Int32)) 216 4 (-1 : Int32) = V
  have v3 : V.1 216 3 = -1 := by rw [← hV, psI_eq, if_neg (by decide), psI_eq, if_pos rfl]
  have v4 : V.1 216 4 = -1 := by rw [← hV, psI_eq, if_pos rfl]
  have ag0 : agr [216] σ V := by rw [← hV]; exact agr_trans (agr_psI (by simp)) (agr_psI (by simp))
  have agx0 : agx (216 :: wI 217) σ V := agx_of (agr_mono ag0 (by decide)) (by decide)
  have hRV := RX_agr hR ag0 (by decide)
  have hfV := foX_agx (fo_X (n := n) (by omega) hx hg.2.1 hg.2.2.2.1) agx0 (by decide)
  have h5V : V.1 18 5 = fo := by rw [(ag0 18 (by decide)).1]; exact hx.2.2.2.1.2.2.2.1
  obtain ⟨τ1, a1, a2⟩ := X_copyFrom (n := n) (i := 217) (a := 25) (by omega) (by omega) (σ := V)
  have hR1 := CP_RX a2 hRV h2
  have ag1 : agx (216 :: wI 217) V τ1 := agx_of (agr_mono a2.2.2.2.2 (by decide)) (by decide)
  obtain ⟨τ2, b1, b2, b2', b3⟩ := X_new (n := n) hn cw (m := m) (by omega) (by omega) (ru := ruO cs fo) (fo := fo) hR1 (foX_agx hfV ag1 (by decide))
  have ag2 : agx (216 :: wI 217) V τ2 := agx_trans ag1 (agx_mono b3 (by decide))
  have hJ := J_new (n := n) (σ := τ2) h2 (T := pasN S (ruO cs fo) m)
  have nwl : nwV S (ruO cs fo) m ≤ 6 := by have := nwK_le S (pasN S (ruO cs fo) m) (S 2); show nwK _ _ _ ≤ 6; omega
  have g4 : τ2.1 216 4 = -1 := by rw [(b3.1 216 (by decide) (by decide) (by decide)).1, (a2.2.2.2.2 216 (by decide)).1]; exact v4
  have h51 : τ1.1 18 5 = fo := by rw [(ag1.1 18 (by decide) (by decide) (by decide)).1]; exact h5V
  have h52 : τ2.1 18 5 = fo := by rw [(ag2.1 18 (by decide) (by decide) (by decide)).1]; exact h5V
  have hR2 : RX τ2 25 S := RX_agx hRV ag2 (by decide) (by decide)
  have ag3 : agr [216] τ2 (psI (psI τ2 216 3 (-1 : Int32)) 216 4 (nI (nwV S (ruO cs fo) m))) := agr_trans (agr_psI (by simp)) (agr_psI (by simp))
  have agx3 : agx (216 :: wI 217) V (psI (psI τ2 216 3 (-1 : Int32)) 216 4 (nI (nwV S (ruO cs fo) m))) := agx_trans ag2 (agx_of (agr_mono ag3 (by decide)) (by decide))
  obtain ⟨τ3, d1, d2, d3, d4⟩ := X_wake12 (n := n) hn cw (m := m) (by omega) (by omega) (ru := ruO cs fo) (fo := fo) (n - 1) 0 (psI (psI τ2 216 3 (-1 : Int32)) 216 4 (nI (nwV S (ruO cs fo) m))) (RX_agr hR2 ag3 (by decide)) (foX_agx hfV agx3 (by decide)) (by rw [(ag3 18 (by decide)).1]; exact h52) (by rw [psI_eq, if_neg (by decide), psI_eq, if_pos rfl]; rfl) (by rw [psI_eq, if_pos rfl]; rfl) (by omega) (by omega)
  have sx : sX σ τ3 := sX_trans (sX_agx agx0 (by decide)) (sX_trans (sX_agx agx3 (by decide)) (sX_agx d4 (by decide)))
  have hLX : L_X2_findWhomToWake_12 n 18 n (nI m) (-1 : Int32) V = some τ3 := by
    obtain ⟨nn, hnn⟩ : ∃ nn, n = nn + 1 := ⟨n - 1, by omega⟩
    have un1 : L_X2_findWhomToWake_12 n 18 (nn + 1) (nI m) (-1 : Int32) V = some τ3 := by
      rw [L_X2_findWhomToWake_12, show V.1 (18 + 7) 5 = nI (S 2) from hRV.2.2.2.2.2.1, if_neg ?_]
      · show (F_X10_copyFrom n 217 25 V).bind _ = _
        rw [a1, Option.bind_some, if_pos rfl, b2, Option.bind_some]
        show (F_X4_stride n 217 (τ1.1 18 5) (nI m) τ1).bind _ = _
        rw [h51, b1, Option.bind_some, b2', Option.bind_some, hJ, Option.bind_some]
        show (if nI (nwV S (ruO cs fo) m) ≤ τ2.1 216 4 then _ else L_X2_findWhomToWake_12 n 18 nn (nI m) (nI 0) (psI (psI τ2 216 3 (-1 : Int32)) 216 4 (nI (nwV S (ruO cs fo) m)))) = _
        rw [g4, if_neg ?_]
        · rw [show nn = n - 1 by omega]; exact d1
        · rw [Int32.le_iff_toInt_le, nI_toInt (by omega), show (-1 : Int32).toInt = -1 by decide]
          omega
      · rw [Int32.le_iff_toInt_le, nI_toInt (by omega), show (-1 : Int32).toInt = -1 by decide]
        omega
    exact (congrArg (fun q => L_X2_findWhomToWake_12 n 18 q (nI m) (-1 : Int32) V) hnn).trans un1
  refine K_ask hg hx hm (if nI w = (0 : Int32) then (wkP S (ruO cs fo) m (S 2)).1 else (wkP S (ruO cs fo) m (S 2)).2) ⟨τ3, ?_, sx⟩ (fun τ hm1 => ?_)
  · unfold F_X11_wake F_X2_findWhomToWake
    rw [X_pitched hR (by omega), Option.bind_some, if_neg hs1, if_neg ne10, if_neg pb1, if_neg pb2, if_neg pc1, if_pos pc2]
    show ((L_X2_findWhomToWake_12 n 18 n (nI m) (-1 : Int32) (psI (psI σ 216 3 (-1 : Int32)) 216 4 (-1 : Int32))).bind _).bind _ = _
    rw [hV, hLX, Option.bind_some, Option.bind_some, d2, d3]
    by_cases w0 : nI w = (0 : Int32)
    · rw [if_pos w0, if_pos w0]
    · rw [if_neg w0, if_neg w0]
  · obtain ⟨υ1, b1, b2, b3⟩ := M_keeps (n := n) (by omega) hm1.2.2.2.1
    have hf := foM_agm (fo_M (n := n) (by omega) hm1 hg.2.1 hg.2.2.2.1) (agm_of b3 (by decide) (Fs := [])) (by decide) (by decide) (by decide) (by simp)
    obtain ⟨υ2, e1, e2, e3, e4⟩ := M_newIn (n := n) (S := S) (T := S) hn cw lk_refl (m := m) (by omega) (by omega) (ru := ruO cs fo) (rowN_agr hm1.2.2.2.1 b3 (by decide)) b2 hf
    obtain ⟨υ, d1, d2, d3⟩ := M_wake48 (n := n) hn cw (m := m) (by omega) (by omega) (ru := ruO cs fo) (w := nI w) n 0 υ2 e2 e3 (foM_agm hf e4 (by decide) (by decide) (by decide) (by decide)) (by omega) (by omega)
    refine ⟨υ, ?_, sM_row (T := scT) (Fs := [18]) (agm_trans (agm_mono (agm_of b3 (by decide) (Fs := [])) (by simp) (by simp)) (agm_trans (agm_mono e4 (by decide) (by simp)) (agm_mono d3 (by decide) (by simp)))) hm1.2.2.2.1 d2 (by decide) (by decide)⟩
    unfold F_X12_wake
    rw [M_isCamp hm1.2.2.2.1 (by omega), Option.bind_some, if_pos c0, if_neg ne10, show (1 : Int64) = lN 1 from rfl, show (30 : Int64) = lN 30 from rfl, M_in_in (by decide) (by decide) hm31 (by omega) hm100, Option.bind_some, if_neg ne10, show (0 : Int64) = lN 0 from rfl, M_in_in (by decide) (by decide) hw31 (by omega) hw2, Option.bind_some, if_neg ne10]
    show (F_X12_keeps n τ).bind _ = _
    rw [b1, Option.bind_some, e1, Option.bind_some]
    rw [show L_X12_wake_48 n n (nI m) (nI w) (-1 : Int32) (nI (nwV S (ruO cs fo) m)) (0 : Int32) υ2 = _ from d1, Option.bind_some]
    by_cases w0 : nI w = (0 : Int32)
    · rw [if_pos w0, if_pos w0]
    · rw [if_neg w0, if_neg w0]
end K12
