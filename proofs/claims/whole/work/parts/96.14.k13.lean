/-! winds: both sides alike. -/
section K13
variable {B : Nat → Int32} {sz z h p : Nat} {cs : Nat → List CL} {S S' : Nat → Nat} {H : Nat → Nat → Nat} {fo x : Int32} {im : Nat → Option IMG} {σ τ : PS} {n : Nat}
theorem lN_mul' (a b : Nat) : lN a * lN b = lN (a * b) := by
  apply wb_inj
  rw [Int64.toBitVec_mul, lN_bv, lN_bv, BitVec.ofNat_mul_ofNat]
  rfl
theorem lN_sub' {a b : Nat} (h : b ≤ a) : lN a - lN b = lN (a - b) := by
  have e : lN a = lN (a - b) + lN b := by rw [lN_add, Nat.sub_add_cancel h]
  rw [e]
  apply Int64.toBitVec_inj.mp
  simp
theorem lN_toI {a : Nat} (h : a < 2 ^ 63) : (lN a).toInt = (a : Int) := by
  show (BitVec.ofNat 64 a).toInt = _
  rw [BitVec.toInt_eq_toNat_cond, BitVec.toNat_ofNat, Nat.mod_eq_of_lt (by omega), if_pos (by omega)]
theorem lN_div' {a b : Nat} (ha : a < 2 ^ 63) (hb : b < 2 ^ 63) : lN a / lN b = lN (a / b) := by
  apply Int64.toInt_inj.mp
  have h2 : a / b < 2 ^ 63 := Nat.lt_of_le_of_lt (Nat.div_le_self a b) ha
  rw [Int64.toInt_div, lN_toI ha, lN_toI hb, lN_toI h2, ← Int.ofNat_tdiv]
  have h0 : (0 : Int) ≤ ((a / b : Nat) : Int) := Int.natCast_nonneg _
  have h3 : ((a / b : Nat) : Int) < 2 ^ 63 := by exact_mod_cast h2
  generalize ((a / b : Nat) : Int) = z at h0 h3 ⊢
  rw [Int.bmod_eq_of_le (by omega) (by omega)]
theorem lN_rem' {a b : Nat} (ha : a < 2 ^ 63) (hb : b < 2 ^ 63) : lN a - lN a / lN b * lN b = lN (a % b) := by
  rw [lN_div' ha hb, lN_mul', lN_sub' (by exact Nat.div_mul_le_self a b)]
  congr 1
  have := Nat.div_add_mod a b
  have e : a / b * b = b * (a / b) := Nat.mul_comm _ _
  omega
theorem lN_to32 (a : Nat) : (lN a).toInt32 = nI a := by
  apply Int32.toBitVec_inj.mp
  show (BitVec.ofNat 64 a).signExtend 32 = BitVec.ofNat 32 a
  rw [BitVec.signExtend_eq_setWidth_of_le _ (by decide)]
  apply BitVec.eq_of_toNat_eq
  rw [BitVec.toNat_setWidth, BitVec.toNat_ofNat, BitVec.toNat_ofNat]
  omega
/-- the next of what is drawn -/
def dX (D : Nat) : Nat := (D * 1103515245 + 12345) % 2147483648
theorem dX_lt (D : Nat) : dX D < 2 ^ 31 := Nat.mod_lt _ (by decide)
theorem dX_is {D : Nat} (h : D < 2 ^ 31) : (lN D * (1103515245 : Int64) + (12345 : Int64)) - (lN D * (1103515245 : Int64) + (12345 : Int64)) / (2147483648 : Int64) * (2147483648 : Int64) = lN (dX D) := by
  show (lN D * lN 1103515245 + lN 12345) - (lN D * lN 1103515245 + lN 12345) / lN 2147483648 * lN 2147483648 = _
  rw [lN_mul', lN_add, lN_rem' (by omega) (by decide)]
  rfl
theorem psJ_v {i k : Nat} {v : Int64} : (psJ σ i k v).2 i k = v := by simp [psJ]
theorem X_nextDraw {D : Nat} (h : D < 2 ^ 31) (hD : σ.2 216 6 = lN D) : F_X2_nextDraw n σ = some (nI (dX D / 65536), psJ σ 216 6 (lN (dX D))) := by
  unfold F_X2_nextDraw
  rw [hD, dX_is h, psJ_v]
  have := dX_lt D
  rw [show (65536 : Int64) = lN 65536 from rfl, lN_div' (by omega) (by decide), lN_to32]
theorem M_draw {D o : Nat} (h : D < 2 ^ 31) (hD : σ.2 249 38 = lN D) (ho : o < 2 ^ 31) (h0 : 0 < o) : F_X12_draw n (nI o) σ = some (nI (dX D / 65536 % o), psJ σ 249 38 (lN (dX D))) := by
  unfold F_X12_draw
  have := dX_lt D
  rw [nI_l ho, if_neg (fun w => by have := (lN_0 (show o < 2 ^ 64 by omega)).mp w; omega), hD, dX_is h, psJ_v, show (65536 : Int64) = lN 65536 from rfl, lN_div' (by omega) (by decide), lN_rem' (by omega) (by omega), lN_to32]
theorem okW_q {b f : Nat} (cw : okW S b) (hf : f < S 1 * S 1) : okW (un S 11 f) b := by
  obtain ⟨w1, w2, w3, w4, w5, w6, w7, w8⟩ := cw
  have e : ∀ j, j ≠ 11 → un S 11 f j = S j := fun j hj => un_ne _ _ hj
  refine ⟨by rw [e 1 (by omega)]; exact w1, by rw [e 1 (by omega)]; exact w2, by rw [e 2 (by omega)]; exact w3, by rw [un_eq, e 1 (by omega)]; exact hf, fun u hu => ?_, by rw [e 12 (by omega), e 2 (by omega)]; exact w6, fun y hy => by rw [e _ (by omega), e _ (by omega)]; exact w7 y hy, by rw [e 10 (by omega)]; exact w8⟩
  rw [e 2 (by omega)] at hu
  rw [e 1 (by omega), e 2 (by omega), e (13 + 4 * u) (by omega), e (13 + 4 * u + 1) (by omega), e (13 + 4 * u + 2) (by omega), e (13 + 4 * u + 3) (by omega)]
  exact w5 u hu
/-- blown one cell on -/
def blS (S : Nat → Nat) (d : Nat) : Nat → Nat := if ps S (S 11) d = 99 then S else un S 11 (ps S (S 11) d)
theorem okW_bl {b d : Nat} (cw : okW S b) : okW (blS S d) b := by
  unfold blS
  by_cases e : ps S (S 11) d = 99
  · rw [if_pos e]; exact cw
  · rw [if_neg e]; exact okW_q cw ((ps_lt cw.2.2.2.1 (okW_36 cw)).mpr e)
theorem lk_bl (S : Nat → Nat) (d : Nat) : lk S (blS S d) := by
  unfold blS
  split
  · exact lk_refl
  · exact fun j hj => un_ne _ _ (by omega)
/-- a step in the wind -/
noncomputable def wdS (ru : RU) (p : Nat) (s : (Nat → Nat) × Nat) : (Nat → Nat) × Nat := if dX s.2 / 65536 % 100 < p then (pasS (blS s.1 (dX (dX s.2) / 65536 % 4)) ru, dX (dX s.2)) else (pasS s.1 ru, dX s.2)
noncomputable def wdN (S : Nat → Nat) (D : Nat) (ru : RU) (p : Nat) : Nat → (Nat → Nat) × Nat
  | 0 => (S, D)
  | k + 1 => wdS ru p (wdN S D ru p k)
theorem wdN_ok {b D p : Nat} (cw : okW S b) (hD : D < 2 ^ 31) (ru : RU) : ∀ k, okW (wdN S D ru p k).1 (b + k) ∧ lk S (wdN S D ru p k).1 ∧ (wdN S D ru p k).2 < 2 ^ 31
  | 0 => ⟨cw, lk_refl, hD⟩
  | k + 1 => by
    obtain ⟨h1, h2, h3⟩ := wdN_ok (p := p) cw hD ru k
    show okW (wdS ru p (wdN S D ru p k)).1 _ ∧ lk S (wdS ru p (wdN S D ru p k)).1 ∧ (wdS ru p (wdN S D ru p k)).2 < 2 ^ 31
    unfold wdS
    split
    · exact ⟨okW_pas (okW_bl h1) ru, lk_trans h2 (lk_trans (lk_bl _ _) (pasS_lk (okW_bl h1) ru)), dX_lt _⟩
    · exact ⟨okW_pas h1 ru, lk_trans h2 (pasS_lk h1 ru), dX_lt _⟩
theorem X_drift {b D p : Nat} (cw : okW S b) (hD : D < 2 ^ 31) (hp : p ≤ 100) (hR : RX σ 217 S) (h6 : σ.2 216 6 = lN D) : ∃ τ, F_X2_drift n (nI p) σ = some τ ∧ (dX D / 65536 % 100 < p → RX τ 217 (blS S (dX (dX D) / 65536 % 4)) ∧ τ.2 216 6 = lN (dX (dX D))) ∧ (¬ dX D / 65536 % 100 < p → RX τ 217 S ∧ τ.2 216 6 = lN (dX D)) ∧ agr (216 :: wI 217) σ τ ∧ τ.1 216 = σ.1 216 := by
  have h36 := okW_36 cw
  have h11 := cw.2.2.2.1
  have l1 := dX_lt D
  have l2 := dX_lt (dX D)
  have ag1 : agr (216 :: wI 217) σ (psJ σ 216 6 (lN (dX D))) := agr_psJ (by decide)
  have hR1 : RX (psJ σ 216 6 (lN (dX D))) 217 S := RX_agr hR (agr_psJ (T := [216]) (by simp)) (by decide)
  unfold F_X2_drift
  rw [X_nextDraw hD h6, Option.bind_some, show (100 : Int32) = nI 100 from rfl, nI_rem (by omega) (by decide)]
  by_cases q : dX D / 65536 % 100 < p
  · rw [if_neg (nI_ge q (by omega))]
    show ∃ τ, (F_X2_nextDraw n (psJ σ 216 6 (lN (dX D)))).bind _ = _ ∧ _
    rw [X_nextDraw (D := dX D) l1 psJ_v, Option.bind_some]
    show ∃ τ, (F_X10_passable n 217 ((psJ σ 216 6 (lN (dX D))).1 217 2) _ (psJ (psJ σ 216 6 (lN (dX D))) 216 6 (lN (dX (dX D))))).bind _ = _ ∧ _
    have ag2 : agr (216 :: wI 217) σ (psJ (psJ σ 216 6 (lN (dX D))) 216 6 (lN (dX (dX D)))) := agr_trans ag1 (agr_psJ (by decide))
    have hR2 : RX (psJ (psJ σ 216 6 (lN (dX D))) 216 6 (lN (dX (dX D)))) 217 S := RX_agr hR1 (agr_psJ (T := [216]) (by simp)) (by decide)
    rw [hR1.2.2.1, show (4 : Int32) = nI 4 from rfl, nI_rem (by omega) (by decide), X_passable hR2 cw.1 cw.2.1 h11 (Nat.mod_lt _ (by decide)), Option.bind_some]
    unfold blS
    by_cases w : ps S (S 11) (dX (dX D) / 65536 % 4) = 99
    · rw [if_pos w, w, if_pos (show oI 99 = (-1 : Int32) from rfl)]
      exact ⟨_, rfl, fun _ => ⟨hR2, psJ_v⟩, fun w => absurd q w, ag2, rfl⟩
    · have hlt := (ps_lt h11 h36).mpr w
      rw [if_neg w]
      unfold oI
      rw [if_neg w, if_neg (show ¬ nI (ps S (S 11) (dX (dX D) / 65536 % 4)) = -1 from m1_ne (by omega))]
      exact ⟨_, rfl, fun _ => ⟨RX_question hR2 h36 cw.2.2.1 _, (congrFun (congrFun psI_J 216) 6).trans psJ_v⟩, fun w => absurd q w, agr_trans ag2 (agr_psI (by decide)), psI_other (by decide)⟩
  · rw [if_pos (nI_le (by omega) (by omega))]
    exact ⟨_, rfl, fun w => absurd w q, fun _ => ⟨hR1, psJ_v⟩, ag1, rfl⟩
theorem X_blow51 {b D p m : Nat} (hn : 3000 ≤ n) (cw : okW S b) (hb : b + 200 < 2 ^ 20) (hD : D < 2 ^ 31) (hp : p ≤ 100) (hm : m ≤ 60) {ru : RU} {fo x2 x5 x6 : Int32} : ∀ (K k : Nat) (σ : PS), RX σ 217 (wdN S D ru p k).1 → σ.2 216 6 = lN (wdN S D ru p k).2 → foX n σ ru fo → σ.1 18 5 = fo → k ≤ m → m < K + k → ∃ τ, L_X2_blow_51 n 18 K x2 (nI m) (nI p) x5 x6 (nI k) σ = some (x2, nI m, nI p, x5, x6, τ) ∧ RX τ 217 (wdN S D ru p m).1 ∧ τ.2 216 6 = lN (wdN S D ru p m).2 ∧ agx (216 :: wI 217) σ τ ∧ τ.1 216 = σ.1 216
  | 0, k, σ, hR, h6, hf, h5, hk, hK => by omega
  | K + 1, k, σ, hR, h6, hf, h5, hk, hK => by
    rw [L_X2_blow_51]
    by_cases e : m ≤ k
    · have : k = m := by omega
      subst this
      rw [if_pos (nI_le (Nat.le_refl _) (by omega))]
      exact ⟨σ, rfl, hR, h6, agx_refl, rfl⟩
    · obtain ⟨o1, o2, o3⟩ := wdN_ok (p := p) cw hD ru k
      rw [if_neg (nI_ge (by omega) (by omega)), nI_1]
      obtain ⟨τ1, a1, a2, a2', a3, a4⟩ := X_drift (n := n) o1 o3 hp hR h6
      have ag1 : agx (216 :: wI 217) σ τ1 := agx_of a3 (by decide)
      have hf1 := foX_agx hf ag1 (by decide)
      have h51 : τ1.1 18 5 = fo := by rw [(ag1.1 18 (by decide) (by decide) (by decide)).1]; exact h5
      rw [a1, Option.bind_some, h51]
      have ew : wdN S D ru p (k + 1) = wdS ru p (wdN S D ru p k) := rfl
      unfold wdS at ew
      have fin : ∀ τ2, F_X4_stride n 217 fo 1 τ1 = some τ2 → RX τ2 217 (wdN S D ru p (k + 1)).1 → τ2.2 216 6 = lN (wdN S D ru p (k + 1)).2 → agx (wI 217) τ1 τ2 → ∃ τ, (F_X4_stride n 217 fo 1 τ1).bind (fun q9 => L_X2_blow_51 n 18 K x2 (nI m) (nI p) x5 x6 (nI (k + 1)) q9) = some (x2, nI m, nI p, x5, x6, τ) ∧ RX τ 217 (wdN S D ru p m).1 ∧ τ.2 216 6 = lN (wdN S D ru p m).2 ∧ agx (216 :: wI 217) σ τ ∧ τ.1 216 = σ.1 216 := by
        intro τ2 b1 b2 b3 b4
        have ag2 : agx (216 :: wI 217) σ τ2 := agx_trans ag1 (agx_mono b4 (by decide))
        obtain ⟨τ, t1, t2, t3, t4, t5⟩ := X_blow51 hn cw hb hD hp hm (ru := ru) (fo := fo) (x2 := x2) (x5 := x5) (x6 := x6) K (k + 1) τ2 b2 b3 (foX_agx hf ag2 (by decide)) (by rw [(ag2.1 18 (by decide) (by decide) (by decide)).1]; exact h5) (by omega) (by omega)
        rw [b1, Option.bind_some]
        exact ⟨τ, t1, t2, t3, agx_trans ag2 t4, by rw [t5, (b4.1 216 (by decide) (by decide) (by decide)).1, a4]⟩
      by_cases q : dX (wdN S D ru p k).2 / 65536 % 100 < p
      · rw [if_pos q] at ew
        have a2 := a2 q
        obtain ⟨τ2, b1, b2, b3⟩ := X_stride (n := n) (i := 217) (b := b + k) (by omega) (by omega) (okW_bl o1) (by decide) a2.1 hf1
        exact fin τ2 b1 (by rw [ew]; exact b2) (by rw [ew, (b3.1 216 (by decide) (by decide) (by decide)).2]; exact a2.2) b3
      · rw [if_neg q] at ew
        have a2 := a2' q
        obtain ⟨τ2, b1, b2, b3⟩ := X_stride (n := n) (i := 217) (b := b + k) (by omega) (by omega) o1 (by decide) a2.1 hf1
        exact fin τ2 b1 (by rw [ew]; exact b2) (by rw [ew, (b3.1 216 (by decide) (by decide) (by decide)).2]; exact a2.2) b3
end K13
