-- X11_reach
def F_X11_reach (n : Nat) (a1 : Int32) (σ : PS) : Option (Int32 × PS) := (F_X10_isPitched n 25 σ).bind (fun q1 => (if q1.1 = 0 then some ((-1 : Int32), q1.2) else (if a1 < 0 then some ((-1 : Int32), q1.2) else (if a1 ≤ (36 : Int32) then (F_X10_reachedIn n 25 a1 q1.2).bind (fun q6 => (F_J13_bitCount_95d88 n q6.1 q6.2).bind (fun q8 => some (q8.1, q8.2))) else some ((-1 : Int32), q1.2)))))
theorem gm_X11_reach : gM "AskedCamp" yX11_reach (Cond.code yX11_reach cX11_reach 2 (Option.some Jvm.ClassFile.FieldType.int)) 1 := ⟨by decide +kernel, tw_931, tw_932, tw_1, tw_933⟩
set_option maxHeartbeats 4000000 in
set_option maxRecDepth 100000 in
theorem c_X11_reach (l : Launch) (D : va_G) (ad : Nat → Nat) (ca : Nat → ClassId) (kz : Nat → Nat) (hJ : pInj ad) (n : Nat) (a1 : Int32) (σ : PS) (out : Int32 × PS) (hF : F_X11_reach n a1 σ = some out) : Met l yX11_reach (Cond.code yX11_reach cX11_reach 2 (Option.some Jvm.ClassFile.FieldType.int) :: gw_tbl) { frames := 2, cells := 0, slots := 0, locals := 52 } (va_Pc [.ref (ad (0)), .int a1] (pU D ad ca kz σ)) (pQi D ad ca out) 0 0 (pAD ad) := by
  refine q_entry (own := "AskedCamp") hJ (by decide) rfl (Nat.le_of_ble_eq_true rfl) (fun p e s m below meth c C hr hlk => ?_)
  refine q_lv [(0, .ref (ad (0))), (1, .int a1)] rfl ?_
  rw [F_X11_reach] at hF
  refine q_aload_n C 0 dX11_reach_0 rfl rfl ?_
  refine qg_10_4 C pi_0 tw_384 dX11_reach_1 ?_
  refine qg_5_1 C pi_18 tw_232 dX11_reach_4 ?_
  obtain ⟨q1, h2, hF⟩ := bnd hF
  try dsimp only at hF
  refine q_callVi C [] (c_X10_isPitched l D ad ca kz C.2.2.2.2.2.2.1 _ pi_25 _ _ h2) tw_687 gm_X10_isPitched pi_25.1 (pe_9 pi_25.2) rfl ⟨rfl, rfl⟩ ⟨Nat.le_of_ble_eq_true rfl, Nat.le_of_ble_eq_true rfl⟩ rfl (Nat.le_of_ble_eq_true rfl) dX11_reach_7 q00 ?_
  refine q_if_eq (tgt := 23) C dX11_reach_10 (by decide) (fun c3 => ?_) (fun c3 => ?_)
  · replace hF := ift c3 hF
    refine q_iconst (v := -1) C dX11_reach_23 (by decide) ?_
    exact q_iret C hr hlk dX11_reach_24 hF
  · replace hF := ife c3 hF
    refine q_iload_n C 1 dX11_reach_13 rfl rfl ?_
    refine q_if_lt (tgt := 23) C dX11_reach_14 (by decide) (fun c4 => ?_) (fun c4 => ?_)
    · replace hF := ift c4 hF
      refine q_iconst (v := -1) C dX11_reach_23 (by decide) ?_
      exact q_iret C hr hlk dX11_reach_24 hF
    · replace hF := ife c4 hF
      refine q_iload_n C 1 dX11_reach_17 rfl rfl ?_
      refine q_bipush (v := 36) C dX11_reach_18 (by decide) ?_
      refine q_icmp_le (tgt := 25) C dX11_reach_20 (by decide) (fun c5 => ?_) (fun c5 => ?_)
      · replace hF := ift c5 hF
        refine q_aload_n C 0 dX11_reach_25 rfl rfl ?_
        refine qg_10_4 C pi_0 tw_384 dX11_reach_26 ?_
        refine qg_5_1 C pi_18 tw_232 dX11_reach_29 ?_
        refine q_iload_n C 1 dX11_reach_32 rfl rfl ?_
        obtain ⟨q6, h7, hF⟩ := bnd hF
        try dsimp only at hF
        refine q_callVl C [.int a1] (c_X10_reachedIn l D ad ca kz C.2.2.2.2.2.2.1 _ pi_25 _ _ _ h7) tw_934 gm_X10_reachedIn pi_25.1 (pe_9 pi_25.2) rfl ⟨rfl, rfl⟩ ⟨Nat.le_of_ble_eq_true rfl, Nat.le_of_ble_eq_true rfl⟩ rfl (Nat.le_of_ble_eq_true rfl) dX11_reach_33 q00 ?_
        obtain ⟨q8, h9, hF⟩ := bnd hF
        try dsimp only at hF
        refine q_callSi C [.long q6.1] (c_J13_bitCount_95d88 l D ad ca kz C.2.2.2.2.2.2.1 _ _ _ _ h9) tw_699 gm_J13_bitCount_95d88 ⟨rfl, rfl⟩ ⟨Nat.le_of_ble_eq_true rfl, Nat.le_of_ble_eq_true rfl⟩ rfl (Nat.le_of_ble_eq_true rfl) dX11_reach_36 q00 ?_
        exact q_iret C hr hlk dX11_reach_39 hF
      · replace hF := ife c5 hF
        refine q_iconst (v := -1) C dX11_reach_23 (by decide) ?_
        exact q_iret C hr hlk dX11_reach_24 hF
-- X2_isAlike
def L_X2_isAlike_2 (n : Nat) : Nat → Int32 → Int32 → Int32 → PS → Option (Nat × PS)
  | 0, _, _, _, _ => none
  | k + 1, x1, x2, x3, σ => (if (5 : Int32) < x3 then some (1, σ) else (if (Int32.ofNat 66) ≤ (x2 + x3) then some (1, σ) else (if 0 ≤ (x1 + x3) ∧ (x1 + x3).toNatClampNeg < 66 then (if 0 ≤ (x2 + x3) ∧ (x2 + x3).toNatClampNeg < 66 then (if (σ.1 223 ((x1 + x3).toNatClampNeg)) = (σ.1 223 ((x2 + x3).toNatClampNeg)) then L_X2_isAlike_2 n k x1 x2 (x3 + 1) σ else some (0, σ)) else none) else none)))
def F_X2_isAlike (n : Nat) (a1 : Int32) (a2 : Int32) (σ : PS) : Option (Int32 × PS) := (L_X2_isAlike_2 n n a1 a2 (0 : Int32) σ).bind (fun o6 => (if o6.1 = 0 then some ((0 : Int32), o6.2) else some ((1 : Int32), o6.2)))
theorem gm_X2_isAlike : gM "AskedCamp$Foresight" yX2_isAlike (Cond.code yX2_isAlike cX2_isAlike 4 (Option.some Jvm.ClassFile.FieldType.boolean)) 2 := ⟨by decide +kernel, tw_897, tw_p19, tw_9, tw_898⟩
set_option maxHeartbeats 4000000 in
set_option maxRecDepth 100000 in
theorem l_X2_isAlike_2 {p : Program} {l : Launch} {e : Env} {R : Room} {s : State} {m : MethodId} {args : Array Value} {below : List Frame} {meth : Method} {c : Code} {D : va_G} {ad : Nat → Nat} {ca : Nat → ClassId} {kz : Nat → Nat} {Q : State → Prop} (C : pC p s m args c cX2_isAlike "AskedCamp$Foresight" 4 D ad ca kz) (hR : 0 ≤ R.frames ∧ 0 ≤ R.locals) {n : Nat} (o : Nat × PS) (hx0 : o.1 = 0 → PW p l e R s m args below meth c 4 D ad ca 0 0 Q (o.2) 37 [] []) (hx1 : o.1 = 1 → PW p l e R s m args below meth c 4 D ad ca 0 0 Q (o.2) 45 [] []) : ∀ (k : Nat) (x1 : Int32) (x2 : Int32) (x3 : Int32) (σ : PS), L_X2_isAlike_2 n k x1 x2 x3 σ = some o → PW p l e R s m args below meth c 4 D ad ca 0 0 Q σ 2 [(0, .ref (ad (216))), (1, .int x1), (2, .int x2), (3, .int x3)] [] := by
  intro k
  induction k with
  | zero => intro x1 x2 x3 σ hF; exact nomatch (show (none : Option (Nat × PS)) = some o from hF)
  | succ k ih =>
    intro x1 x2 x3 σ hF
    rw [L_X2_isAlike_2] at hF
    refine q_iload_n C 3 dX2_isAlike_2 rfl rfl ?_
    refine q_iconst (v := 5) C dX2_isAlike_3 (by decide) ?_
    refine q_icmp_gt (tgt := 45) C dX2_isAlike_4 (by decide) (fun c1 => ?_) (fun c1 => ?_)
    · replace hF := ift c1 hF
      cases hF
      refine q_sub [] rfl ?_
      exact hx1 rfl
    · replace hF := ife c1 hF
      refine q_iload_n C 2 dX2_isAlike_7 rfl rfl ?_
      refine q_iload_n C 3 dX2_isAlike_8 rfl rfl ?_
      refine q_iadd C dX2_isAlike_9 ?_
      refine q_aload_n C 0 dX2_isAlike_10 rfl rfl ?_
      refine qg_2_2 C pi_216 tw_296 dX2_isAlike_11 ?_
      refine q_alen21 C pa_223 dX2_isAlike_14 ?_
      refine q_icmp_ge (tgt := 45) C dX2_isAlike_15 (by decide) (fun c2 => ?_) (fun c2 => ?_)
      · replace hF := ift c2 hF
        cases hF
        refine q_sub [] rfl ?_
        exact hx1 rfl
      · replace hF := ife c2 hF
        refine q_aload_n C 0 dX2_isAlike_18 rfl rfl ?_
        refine qg_2_2 C pi_216 tw_296 dX2_isAlike_19 ?_
        refine q_iload_n C 1 dX2_isAlike_22 rfl rfl ?_
        refine q_iload_n C 3 dX2_isAlike_23 rfl rfl ?_
        refine q_iadd C dX2_isAlike_24 ?_
        obtain ⟨g3, hF⟩ := grd hF
        refine q_iald C pa_223 (vp_of g3) dX2_isAlike_25 ?_
        refine q_aload_n C 0 dX2_isAlike_26 rfl rfl ?_
        refine qg_2_2 C pi_216 tw_296 dX2_isAlike_27 ?_
        refine q_iload_n C 2 dX2_isAlike_30 rfl rfl ?_
        refine q_iload_n C 3 dX2_isAlike_31 rfl rfl ?_
        refine q_iadd C dX2_isAlike_32 ?_
        obtain ⟨g4, hF⟩ := grd hF
        refine q_iald C pa_223 (vp_of g4) dX2_isAlike_33 ?_
        refine q_icmp_eq (tgt := 39) C dX2_isAlike_34 (by decide) (fun c5 => ?_) (fun c5 => ?_)
        · replace hF := ift c5 hF
          refine q_iinc C 3 [(3, .int (x3 + 1)), (0, .ref (ad (216))), (1, .int x1), (2, .int x2)] dX2_isAlike_39 rfl rfl (by decide) rfl ?_
          refine q_goto (tgt := 2) C dX2_isAlike_42 (by decide) ?_
          refine q_sub [1, 2, 3, 0] rfl ?_
          exact ih _ _ _ _ hF
        · replace hF := ife c5 hF
          cases hF
          refine q_sub [] rfl ?_
          exact hx0 rfl
set_option maxHeartbeats 4000000 in
set_option maxRecDepth 100000 in
theorem c_X2_isAlike (l : Launch) (D : va_G) (ad : Nat → Nat) (ca : Nat → ClassId) (kz : Nat → Nat) (hJ : pInj ad) (n : Nat) (a1 : Int32) (a2 : Int32) (σ : PS) (out : Int32 × PS) (hF : F_X2_isAlike n a1 a2 σ = some out) : Met l yX2_isAlike (Cond.code yX2_isAlike cX2_isAlike 4 (Option.some Jvm.ClassFile.FieldType.boolean) :: gw_tbl) { frames := 0, cells := 0, slots := 0, locals := 0 } (va_Pc [.ref (ad (216)), .int a1, .int a2] (pU D ad ca kz σ)) (pQi D ad ca out) 0 0 (pAD ad) := by
  refine q_entry (own := "AskedCamp$Foresight") hJ (by decide) rfl (Nat.le_of_ble_eq_true rfl) (fun p e s m below meth c C hr hlk => ?_)
  refine q_lv [(0, .ref (ad (216))), (1, .int a1), (2, .int a2)] rfl ?_
  rw [F_X2_isAlike] at hF
  refine q_iconst (v := 0) C dX2_isAlike_0 (by decide) ?_
  refine q_istore_n C [(3, .int 0), (0, .ref (ad (216))), (1, .int a1), (2, .int a2)] dX2_isAlike_1 rfl (by decide) rfl ?_
  obtain ⟨o6, h7, hF⟩ := bnd hF
  try dsimp only at hF
  refine q_sub [1, 2, 3, 0] rfl ?_
  refine l_X2_isAlike_2 C ⟨Nat.le_of_ble_eq_true rfl, Nat.le_of_ble_eq_true rfl⟩ o6 (fun eo6_0 => ?_) (fun eo6_1 => ?_) n _ _ _ _ h7
  · -- exit 0
    replace hF := ift eo6_0 hF
    refine q_iconst (v := 0) C dX2_isAlike_37 (by decide) ?_
    exact q_zret C hr hlk dX2_isAlike_38 (by decide) hF
  · -- exit 1
    replace hF := ife (by rw [eo6_1]; decide) hF
    refine q_iconst (v := 1) C dX2_isAlike_45 (by decide) ?_
    exact q_zret C hr hlk dX2_isAlike_46 (by decide) hF
-- X2_findRing
def L_X2_findRing_13 (n : Nat) (a1 : Nat) : Nat → Int32 → PS → Option (PS)
  | 0, _, _ => none
  | k + 1, x2, σ => (if (Int32.ofNat 66) ≤ x2 then some σ else (if 0 ≤ x2 ∧ x2.toNatClampNeg < 66 then (F_X4_stride n 217 ((psI σ 223 x2.toNatClampNeg (σ.1 217 2)).1 a1 5) (1 : Int32) (psI σ 223 x2.toNatClampNeg (σ.1 217 2))).bind (fun q5 => L_X2_findRing_13 n a1 k (x2 + 1) q5) else none))
def L_X2_findRing_81 (n : Nat) (a1 : Nat) : Nat → Int32 → Int32 → PS → Option (Nat × Int32 × Int32 × PS)
  | 0, _, _, _ => none
  | k + 1, x2, x3, σ => (if (60 : Int32) < x3 then some (1, x2, 0, σ) else (F_X2_isAlike n x2 x3 σ).bind (fun q11 => (if q11.1 = 0 then L_X2_findRing_81 n a1 k x2 (x3 + 1) q11.2 else some (0, x2, x3, q11.2))))
def L_X2_findRing_71 (n : Nat) (a1 : Nat) : Nat → Int32 → PS → Option (Nat × Int32 × Int32 × PS)
  | 0, _, _ => none
  | k + 1, x2, σ => (if (60 : Int32) ≤ x2 then some (1, 0, 0, σ) else (L_X2_findRing_81 n a1 n x2 (x2 + (1 : Int32)) σ).bind (fun o10 => (if o10.1 = 0 then some (0, o10.2.1, o10.2.2.1, o10.2.2.2) else L_X2_findRing_71 n a1 k (o10.2.1 + 1) o10.2.2.2)))
def F_X2_findRing (n : Nat) (a1 : Nat) (σ : PS) : Option (PS) := (F_X10_copyFrom n 217 (a1 + 7) σ).bind (fun q1 => (L_X2_findRing_13 n a1 n (0 : Int32) q1).bind (fun o7 => (L_X2_findRing_71 n a1 n (0 : Int32) (psI (psI o7 216 3 (-2 : Int32)) 216 4 (-2 : Int32))).bind (fun o12 => (if o12.1 = 0 then some (psI (psI o12.2.2.2 216 3 ((o12.2.2.2.1 (a1 + 7) 3) + o12.2.1)) 216 4 (o12.2.2.1 - o12.2.1)) else some o12.2.2.2))))
theorem gm_X2_findRing : gM "AskedCamp$Foresight" yX2_findRing (Cond.code yX2_findRing cX2_findRing 4 (Option.none : Option Jvm.ClassFile.FieldType)) 1 := ⟨by decide +kernel, tw_892, tw_893, tw_9, tw_894⟩
set_option maxHeartbeats 4000000 in
set_option maxRecDepth 100000 in
theorem l_X2_findRing_13 {p : Program} {l : Launch} {e : Env} {R : Room} {s : State} {m : MethodId} {args : Array Value} {below : List Frame} {meth : Method} {c : Code} {D : va_G} {ad : Nat → Nat} {ca : Nat → ClassId} {kz : Nat → Nat} {Q : State → Prop} (C : pC p s m args c cX2_findRing "AskedCamp$Foresight" 4 D ad ca kz) (hR : 6 ≤ R.frames ∧ 154 ≤ R.locals) {n : Nat} {a1 : Nat} (ha1 : pis a1 5) (o : PS) (hx0 : PW p l e R s m args below meth c 4 D ad ca 0 0 Q (o) 57 [(0, .ref (ad (216))), (1, .ref (ad (a1)))] []) : ∀ (k : Nat) (x2 : Int32) (σ : PS), L_X2_findRing_13 n a1 k x2 σ = some o → PW p l e R s m args below meth c 4 D ad ca 0 0 Q σ 13 [(0, .ref (ad (216))), (1, .ref (ad (a1))), (2, .int x2)] [] := by
  intro k
  induction k with
  | zero => intro x2 σ hF; exact nomatch (show (none : Option (PS)) = some o from hF)
  | succ k ih =>
    intro x2 σ hF
    rw [L_X2_findRing_13] at hF
    refine q_iload_n C 2 dX2_findRing_13 rfl rfl ?_
    refine q_aload_n C 0 dX2_findRing_14 rfl rfl ?_
    refine qg_2_2 C pi_216 tw_296 dX2_findRing_15 ?_
    refine q_alen21 C pa_223 dX2_findRing_18 ?_
    refine q_icmp_ge (tgt := 57) C dX2_findRing_19 (by decide) (fun c3 => ?_) (fun c3 => ?_)
    · replace hF := ift c3 hF
      cases hF
      refine q_sub [0, 1] rfl ?_
      exact hx0
    · replace hF := ife c3 hF
      refine q_aload_n C 0 dX2_findRing_22 rfl rfl ?_
      refine qg_2_2 C pi_216 tw_296 dX2_findRing_23 ?_
      refine q_iload_n C 2 dX2_findRing_26 rfl rfl ?_
      refine q_aload_n C 0 dX2_findRing_27 rfl rfl ?_
      refine qg_2_0 C pi_216 tw_293 dX2_findRing_28 ?_
      refine qg_9_2 C pi_217 tw_168 dX2_findRing_31 ?_
      obtain ⟨g4, hF⟩ := grd hF
      refine q_iast C pa_223 (vp_of g4) dX2_findRing_34 ?_
      refine q_aload_n C 0 dX2_findRing_35 rfl rfl ?_
      refine qg_2_1 C pi_216 tw_295 dX2_findRing_36 ?_
      refine q_aload_n C 0 dX2_findRing_39 rfl rfl ?_
      refine qg_2_0 C pi_216 tw_293 dX2_findRing_40 ?_
      refine q_aload_n C 1 dX2_findRing_43 rfl rfl ?_
      refine qg_5_5 C ha1 tw_241 dX2_findRing_44 ?_
      refine q_iconst (v := 1) C dX2_findRing_47 (by decide) ?_
      obtain ⟨q5, h6, hF⟩ := bnd hF
      try dsimp only at hF
      refine q_callVv C [.ref (ad (217)), .int ((psI σ 223 x2.toNatClampNeg (σ.1 217 2)).1 a1 5), .int 1] (c_X4_stride l D ad ca kz C.2.2.2.2.2.2.1 _ pi_217 _ _ _ _ h6) tw_844 gm_X4_stride pi_7.1 (pe_3 pi_7.2) rfl ⟨rfl, rfl⟩ ⟨Nat.le_trans (Nat.le_of_ble_eq_true rfl) hR.1, Nat.le_trans (Nat.le_of_ble_eq_true rfl) hR.2⟩ rfl (Nat.le_of_ble_eq_true rfl) dX2_findRing_48 q00 ?_
      refine q_iinc C 2 [(2, .int (x2 + 1)), (0, .ref (ad (216))), (1, .ref (ad (a1)))] dX2_findRing_51 rfl rfl (by decide) rfl ?_
      refine q_goto (tgt := 13) C dX2_findRing_54 (by decide) ?_
      refine q_sub [1, 2, 0] rfl ?_
      exact ih _ _ hF
set_option maxHeartbeats 4000000 in
set_option maxRecDepth 100000 in
theorem l_X2_findRing_81 {p : Program} {l : Launch} {e : Env} {R : Room} {s : State} {m : MethodId} {args : Array Value} {below : List Frame} {meth : Method} {c : Code} {D : va_G} {ad : Nat → Nat} {ca : Nat → ClassId} {kz : Nat → Nat} {Q : State → Prop} (C : pC p s m args c cX2_findRing "AskedCamp$Foresight" 4 D ad ca kz) (hR : 6 ≤ R.frames ∧ 154 ≤ R.locals) {n : Nat} {a1 : Nat} (ha1 : pis a1 5) (o : Nat × Int32 × Int32 × PS) (hx0 : o.1 = 0 → PW p l e R s m args below meth c 4 D ad ca 0 0 Q (o.2.2.2) 96 [(0, .ref (ad (216))), (1, .ref (ad (a1))), (2, .int o.2.1), (3, .int o.2.2.1)] []) (hx1 : o.1 = 1 → PW p l e R s m args below meth c 4 D ad ca 0 0 Q (o.2.2.2) 123 [(0, .ref (ad (216))), (1, .ref (ad (a1))), (2, .int o.2.1)] []) : ∀ (k : Nat) (x2 : Int32) (x3 : Int32) (σ : PS), L_X2_findRing_81 n a1 k x2 x3 σ = some o → PW p l e R s m args below meth c 4 D ad ca 0 0 Q σ 81 [(0, .ref (ad (216))), (1, .ref (ad (a1))), (2, .int x2), (3, .int x3)] [] := by
  intro k
  induction k with
  | zero => intro x2 x3 σ hF; exact nomatch (show (none : Option (Nat × Int32 × Int32 × PS)) = some o from hF)
  | succ k ih =>
    intro x2 x3 σ hF
    rw [L_X2_findRing_81] at hF
    refine q_iload_n C 3 dX2_findRing_81 rfl rfl ?_
    refine q_bipush (v := 60) C dX2_findRing_82 (by decide) ?_
    refine q_icmp_gt (tgt := 123) C dX2_findRing_84 (by decide) (fun c10 => ?_) (fun c10 => ?_)
    · replace hF := ift c10 hF
      cases hF
      refine q_sub [0, 1, 2] rfl ?_
      exact hx1 rfl
    · replace hF := ife c10 hF
      refine q_aload_n C 0 dX2_findRing_87 rfl rfl ?_
      refine q_iload_n C 2 dX2_findRing_88 rfl rfl ?_
      refine q_iload_n C 3 dX2_findRing_89 rfl rfl ?_
      obtain ⟨q11, h12, hF⟩ := bnd hF
      try dsimp only at hF
      refine q_callVi C [.int x2, .int x3] (c_X2_isAlike l D ad ca kz C.2.2.2.2.2.2.1 _ _ _ _ _ h12) tw_895 gm_X2_isAlike pi_216.1 (pe_2 pi_216.2) rfl ⟨rfl, rfl⟩ ⟨Nat.le_trans (Nat.le_of_ble_eq_true rfl) hR.1, Nat.le_trans (Nat.le_of_ble_eq_true rfl) hR.2⟩ rfl (Nat.le_of_ble_eq_true rfl) dX2_findRing_90 q00 ?_
      refine q_if_eq (tgt := 117) C dX2_findRing_93 (by decide) (fun c13 => ?_) (fun c13 => ?_)
      · replace hF := ift c13 hF
        refine q_iinc C 3 [(3, .int (x3 + 1)), (0, .ref (ad (216))), (1, .ref (ad (a1))), (2, .int x2)] dX2_findRing_117 rfl rfl (by decide) rfl ?_
        refine q_goto (tgt := 81) C dX2_findRing_120 (by decide) ?_
        refine q_sub [1, 2, 3, 0] rfl ?_
        exact ih _ _ _ hF
      · replace hF := ife c13 hF
        cases hF
        refine q_sub [0, 1, 2, 3] rfl ?_
        exact hx0 rfl
set_option maxHeartbeats 4000000 in
set_option maxRecDepth 100000 in
theorem l_X2_findRing_71 {p : Program} {l : Launch} {e : Env} {R : Room} {s : State} {m : MethodId} {args : Array Value} {below : List Frame} {meth : Method} {c : Code} {D : va_G} {ad : Nat → Nat} {ca : Nat → ClassId} {kz : Nat → Nat} {Q : State → Prop} (C : pC p s m args c cX2_findRing "AskedCamp$Foresight" 4 D ad ca kz) (hR : 6 ≤ R.frames ∧ 154 ≤ R.locals) {n : Nat} {a1 : Nat} (ha1 : pis a1 5) (o : Nat × Int32 × Int32 × PS) (hx0 : o.1 = 0 → PW p l e R s m args below meth c 4 D ad ca 0 0 Q (o.2.2.2) 96 [(0, .ref (ad (216))), (1, .ref (ad (a1))), (2, .int o.2.1), (3, .int o.2.2.1)] []) (hx1 : o.1 = 1 → PW p l e R s m args below meth c 4 D ad ca 0 0 Q (o.2.2.2) 129 [] []) : ∀ (k : Nat) (x2 : Int32) (σ : PS), L_X2_findRing_71 n a1 k x2 σ = some o → PW p l e R s m args below meth c 4 D ad ca 0 0 Q σ 71 [(0, .ref (ad (216))), (1, .ref (ad (a1))), (2, .int x2)] [] := by
  intro k
  induction k with
  | zero => intro x2 σ hF; exact nomatch (show (none : Option (Nat × Int32 × Int32 × PS)) = some o from hF)
  | succ k ih =>
    intro x2 σ hF
    rw [L_X2_findRing_71] at hF
    refine q_iload_n C 2 dX2_findRing_71 rfl rfl ?_
    refine q_bipush (v := 60) C dX2_findRing_72 (by decide) ?_
    refine q_icmp_ge (tgt := 129) C dX2_findRing_74 (by decide) (fun c9 => ?_) (fun c9 => ?_)
    · replace hF := ift c9 hF
      cases hF
      refine q_sub [] rfl ?_
      exact hx1 rfl
    · replace hF := ife c9 hF
      refine q_iload_n C 2 dX2_findRing_77 rfl rfl ?_
      refine q_iconst (v := 1) C dX2_findRing_78 (by decide) ?_
      refine q_iadd C dX2_findRing_79 ?_
      refine q_istore_n C [(3, .int (x2 + (1 : Int32))), (0, .ref (ad (216))), (1, .ref (ad (a1))), (2, .int x2)] dX2_findRing_80 rfl (by decide) rfl ?_
      obtain ⟨o10, h11, hF⟩ := bnd hF
      try dsimp only at hF
      refine q_sub [1, 2, 3, 0] rfl ?_
      refine l_X2_findRing_81 C ⟨hR.1, hR.2⟩ ha1 o10 (fun eo10_0 => ?_) (fun eo10_1 => ?_) n _ _ _ h11
      · -- exit 0
        replace hF := ift eo10_0 hF
        cases hF
        refine q_sub [0, 1, 2, 3] rfl ?_
        exact hx0 rfl
      · -- exit 1
        replace hF := ife (by rw [eo10_1]; decide) hF
        refine q_iinc C 2 [(2, .int (o10.2.1 + 1)), (0, .ref (ad (216))), (1, .ref (ad (a1)))] dX2_findRing_123 rfl rfl (by decide) rfl ?_
        refine q_goto (tgt := 71) C dX2_findRing_126 (by decide) ?_
        refine q_sub [1, 2, 0] rfl ?_
        exact ih _ _ hF
set_option maxHeartbeats 4000000 in
set_option maxRecDepth 100000 in
theorem c_X2_findRing (l : Launch) (D : va_G) (ad : Nat → Nat) (ca : Nat → ClassId) (kz : Nat → Nat) (hJ : pInj ad) (n : Nat) {a1 : Nat} (ha1 : pis a1 5) (σ : PS) (out : PS) (hF : F_X2_findRing n a1 σ = some out) : Met l yX2_findRing (Cond.code yX2_findRing cX2_findRing 4 (Option.none : Option Jvm.ClassFile.FieldType) :: gw_tbl) { frames := 6, cells := 0, slots := 0, locals := 154 } (va_Pc [.ref (ad (216)), .ref (ad (a1))] (pU D ad ca kz σ)) (pQv D ad ca out) 0 0 (pAD ad) := by
  refine q_entry (own := "AskedCamp$Foresight") hJ (by decide) rfl (Nat.le_of_ble_eq_true rfl) (fun p e s m below meth c C hr hlk => ?_)
  refine q_lv [(0, .ref (ad (216))), (1, .ref (ad (a1)))] rfl ?_
  rw [F_X2_findRing] at hF
  refine q_aload_n C 0 dX2_findRing_0 rfl rfl ?_
  refine qg_2_0 C pi_216 tw_293 dX2_findRing_1 ?_
  refine q_aload_n C 1 dX2_findRing_4 rfl rfl ?_
  refine qg_5_1 C ha1 tw_231 dX2_findRing_5 ?_
  obtain ⟨q1, h2, hF⟩ := bnd hF
  try dsimp only at hF
  refine q_callVv C [.ref (ad (a1 + 7))] (c_X10_copyFrom l D ad ca kz C.2.2.2.2.2.2.1 _ pi_217 (pkS ha1).2.1 _ _ h2) tw_843 gm_X10_copyFrom pi_217.1 (pe_9 pi_217.2) rfl ⟨rfl, rfl⟩ ⟨Nat.le_of_ble_eq_true rfl, Nat.le_of_ble_eq_true rfl⟩ rfl (Nat.le_of_ble_eq_true rfl) dX2_findRing_8 q00 ?_
  refine q_iconst (v := 0) C dX2_findRing_11 (by decide) ?_
  refine q_istore_n C [(2, .int 0), (0, .ref (ad (216))), (1, .ref (ad (a1)))] dX2_findRing_12 rfl (by decide) rfl ?_
  obtain ⟨o7, h8, hF⟩ := bnd hF
  try dsimp only at hF
  refine q_sub [1, 2, 0] rfl ?_
  refine l_X2_findRing_13 C ⟨Nat.le_of_ble_eq_true rfl, Nat.le_of_ble_eq_true rfl⟩ ha1 o7 ?_ n _ _ h8
  refine q_aload_n C 0 dX2_findRing_57 rfl rfl ?_
  refine q_bipush (v := -2) C dX2_findRing_58 (by decide) ?_
  refine qs_2_3 C pi_216 tw_297 dX2_findRing_60 ?_
  refine q_aload_n C 0 dX2_findRing_63 rfl rfl ?_
  refine q_bipush (v := -2) C dX2_findRing_64 (by decide) ?_
  refine qs_2_4 C pi_216 tw_299 dX2_findRing_66 ?_
  refine q_iconst (v := 0) C dX2_findRing_69 (by decide) ?_
  refine q_istore_n C [(2, .int 0), (0, .ref (ad (216))), (1, .ref (ad (a1)))] dX2_findRing_70 rfl (by decide) rfl ?_
  obtain ⟨o12, h13, hF⟩ := bnd hF
  try dsimp only at hF
  refine q_sub [1, 2, 0] rfl ?_
  refine l_X2_findRing_71 C ⟨Nat.le_of_ble_eq_true rfl, Nat.le_of_ble_eq_true rfl⟩ ha1 o12 (fun eo12_0 => ?_) (fun eo12_1 => ?_) n _ _ h13
  · -- exit 0
    replace hF := ift eo12_0 hF
    refine q_aload_n C 0 dX2_findRing_96 rfl rfl ?_
    refine q_aload_n C 1 dX2_findRing_97 rfl rfl ?_
    refine qg_5_1 C ha1 tw_231 dX2_findRing_98 ?_
    refine qg_9_3 C (pkS ha1).2.1 tw_171 dX2_findRing_101 ?_
    refine q_iload_n C 2 dX2_findRing_104 rfl rfl ?_
    refine q_iadd C dX2_findRing_105 ?_
    refine qs_2_3 C pi_216 tw_297 dX2_findRing_106 ?_
    refine q_aload_n C 0 dX2_findRing_109 rfl rfl ?_
    refine q_iload_n C 3 dX2_findRing_110 rfl rfl ?_
    refine q_iload_n C 2 dX2_findRing_111 rfl rfl ?_
    refine q_isub C dX2_findRing_112 ?_
    refine qs_2_4 C pi_216 tw_299 dX2_findRing_113 ?_
    exact q_vret C hr hlk dX2_findRing_116 hF
  · -- exit 1
    replace hF := ife (by rw [eo12_1]; decide) hF
    exact q_vret C hr hlk dX2_findRing_129 hF
-- X11_ring
def F_X11_ring (n : Nat) (a1 : Int32) (σ : PS) : Option (Int32 × PS) := (F_X10_isPitched n 25 σ).bind (fun q1 => (if q1.1 = 0 then some ((-1 : Int32), q1.2) else (if a1 < 0 then some ((-1 : Int32), q1.2) else (if a1 ≤ (1 : Int32) then (F_X2_findRing n 18 q1.2).bind (fun q6 => (if a1 = 0 then some ((q6.1 216 3), q6) else some ((q6.1 216 4), q6))) else some ((-1 : Int32), q1.2)))))
theorem gm_X11_ring : gM "AskedCamp" yX11_ring (Cond.code yX11_ring cX11_ring 2 (Option.some Jvm.ClassFile.FieldType.int)) 1 := ⟨by decide +kernel, tw_888, tw_889, tw_1, tw_890⟩
set_option maxHeartbeats 4000000 in
set_option maxRecDepth 100000 in
theorem c_X11_ring (l : Launch) (D : va_G) (ad : Nat → Nat) (ca : Nat → ClassId) (kz : Nat → Nat) (hJ : pInj ad) (n : Nat) (a1 : Int32) (σ : PS) (out : Int32 × PS) (hF : F_X11_ring n a1 σ = some out) : Met l yX11_ring (Cond.code yX11_ring cX11_ring 2 (Option.some Jvm.ClassFile.FieldType.int) :: gw_tbl) { frames := 7, cells := 0, slots := 0, locals := 177 } (va_Pc [.ref (ad (0)), .int a1] (pU D ad ca kz σ)) (pQi D ad ca out) 0 0 (pAD ad) := by
  refine q_entry (own := "AskedCamp") hJ (by decide) rfl (Nat.le_of_ble_eq_true rfl) (fun p e s m below meth c C hr hlk => ?_)
  refine q_lv [(0, .ref (ad (0))), (1, .int a1)] rfl ?_
  rw [F_X11_ring] at hF
  refine q_aload_n C 0 dX11_ring_0 rfl rfl ?_
  refine qg_10_4 C pi_0 tw_384 dX11_ring_1 ?_
  refine qg_5_1 C pi_18 tw_232 dX11_ring_4 ?_
  obtain ⟨q1, h2, hF⟩ := bnd hF
  try dsimp only at hF
  refine q_callVi C [] (c_X10_isPitched l D ad ca kz C.2.2.2.2.2.2.1 _ pi_25 _ _ h2) tw_687 gm_X10_isPitched pi_25.1 (pe_9 pi_25.2) rfl ⟨rfl, rfl⟩ ⟨Nat.le_of_ble_eq_true rfl, Nat.le_of_ble_eq_true rfl⟩ rfl (Nat.le_of_ble_eq_true rfl) dX11_ring_7 q00 ?_
  refine q_if_eq (tgt := 22) C dX11_ring_10 (by decide) (fun c3 => ?_) (fun c3 => ?_)
  · replace hF := ift c3 hF
    refine q_iconst (v := -1) C dX11_ring_22 (by decide) ?_
    exact q_iret C hr hlk dX11_ring_23 hF
  · replace hF := ife c3 hF
    refine q_iload_n C 1 dX11_ring_13 rfl rfl ?_
    refine q_if_lt (tgt := 22) C dX11_ring_14 (by decide) (fun c4 => ?_) (fun c4 => ?_)
    · replace hF := ift c4 hF
      refine q_iconst (v := -1) C dX11_ring_22 (by decide) ?_
      exact q_iret C hr hlk dX11_ring_23 hF
    · replace hF := ife c4 hF
      refine q_iload_n C 1 dX11_ring_17 rfl rfl ?_
      refine q_iconst (v := 1) C dX11_ring_18 (by decide) ?_
      refine q_icmp_le (tgt := 24) C dX11_ring_19 (by decide) (fun c5 => ?_) (fun c5 => ?_)
      · replace hF := ift c5 hF
        refine q_aload_n C 0 dX11_ring_24 rfl rfl ?_
        refine qg_10_7 C pi_0 tw_387 dX11_ring_25 ?_
        refine q_aload_n C 0 dX11_ring_28 rfl rfl ?_
        refine qg_10_4 C pi_0 tw_384 dX11_ring_29 ?_
        obtain ⟨q6, h7, hF⟩ := bnd hF
        try dsimp only at hF
        refine q_callVv C [.ref (ad (18))] (c_X2_findRing l D ad ca kz C.2.2.2.2.2.2.1 _ pi_18 _ _ h7) tw_891 gm_X2_findRing pi_216.1 (pe_2 pi_216.2) rfl ⟨rfl, rfl⟩ ⟨Nat.le_of_ble_eq_true rfl, Nat.le_of_ble_eq_true rfl⟩ rfl (Nat.le_of_ble_eq_true rfl) dX11_ring_32 q00 ?_
        refine q_iload_n C 1 dX11_ring_35 rfl rfl ?_
        refine q_if_ne (tgt := 49) C dX11_ring_36 (by decide) (fun c8 => ?_) (fun c8 => ?_)
        · replace hF := ife c8 hF
          refine q_aload_n C 0 dX11_ring_49 rfl rfl ?_
          refine qg_10_7 C pi_0 tw_387 dX11_ring_50 ?_
          refine qg_2_4 C pi_216 tw_300 dX11_ring_53 ?_
          exact q_iret C hr hlk dX11_ring_56 hF
        · replace hF := ift c8 hF
          refine q_aload_n C 0 dX11_ring_39 rfl rfl ?_
          refine qg_10_7 C pi_0 tw_387 dX11_ring_40 ?_
          refine qg_2_3 C pi_216 tw_298 dX11_ring_43 ?_
          refine q_goto (tgt := 56) C dX11_ring_46 (by decide) ?_
          exact q_iret C hr hlk dX11_ring_56 hF
      · replace hF := ife c5 hF
        refine q_iconst (v := -1) C dX11_ring_22 (by decide) ?_
        exact q_iret C hr hlk dX11_ring_23 hF
-- X4_isFull
def F_X4_isFull (n : Nat) (σ : PS) : Option (Int32 × PS) := (if (σ.1 7 0) < (6 : Int32) then some ((0 : Int32), σ) else some ((1 : Int32), σ))
theorem gm_X4_isFull : gM "AskedCamp$RuleBook" yX4_isFull (Cond.code yX4_isFull cX4_isFull 1 (Option.some Jvm.ClassFile.FieldType.boolean)) 0 := ⟨by decide +kernel, tw_551, tw_552, tw_5, tw_553⟩
set_option maxHeartbeats 4000000 in
set_option maxRecDepth 100000 in
theorem c_X4_isFull (l : Launch) (D : va_G) (ad : Nat → Nat) (ca : Nat → ClassId) (kz : Nat → Nat) (hJ : pInj ad) (n : Nat) (σ : PS) (out : Int32 × PS) (hF : F_X4_isFull n σ = some out) : Met l yX4_isFull (Cond.code yX4_isFull cX4_isFull 1 (Option.some Jvm.ClassFile.FieldType.boolean) :: gw_tbl) { frames := 0, cells := 0, slots := 0, locals := 0 } (va_Pc [.ref (ad (7))] (pU D ad ca kz σ)) (pQi D ad ca out) 0 0 (pAD ad) := by
  refine q_entry (own := "AskedCamp$RuleBook") hJ (by decide) rfl (Nat.le_of_ble_eq_true rfl) (fun p e s m below meth c C hr hlk => ?_)
  refine q_lv [(0, .ref (ad (7)))] rfl ?_
  rw [F_X4_isFull] at hF
  refine q_aload_n C 0 dX4_isFull_0 rfl rfl ?_
  refine qg_3_0 C pi_7 tw_118 dX4_isFull_1 ?_
  refine q_bipush (v := 6) C dX4_isFull_4 (by decide) ?_
  refine q_icmp_lt (tgt := 13) C dX4_isFull_6 (by decide) (fun c1 => ?_) (fun c1 => ?_)
  · replace hF := ift c1 hF
    refine q_iconst (v := 0) C dX4_isFull_13 (by decide) ?_
    exact q_zret C hr hlk dX4_isFull_14 (by decide) hF
  · replace hF := ife c1 hF
    refine q_iconst (v := 1) C dX4_isFull_9 (by decide) ?_
    refine q_goto (tgt := 14) C dX4_isFull_10 (by decide) ?_
    exact q_zret C hr hlk dX4_isFull_14 (by decide) hF
-- X4_add
def L_X4_add_37 (n : Nat) (a1 : Nat) : Nat → Int32 → Int32 → Int32 → PS → Option (Int32 × Int32 × PS)
  | 0, _, _, _, _ => none
  | k + 1, x2, x3, x4, σ => (if x2 ≤ x4 then some (x2, x3, σ) else (if 0 ≤ x3 ∧ x3.toNatClampNeg < 6 then (if 0 ≤ x4 ∧ x4.toNatClampNeg < 400 then (if ((psI σ (9 + x3.toNatClampNeg) x4.toNatClampNeg (σ.1 a1 x4.toNatClampNeg)).1 a1 x4.toNatClampNeg) = (-7 : Int32) then L_X4_add_37 n a1 k x2 x3 (x4 + 1) (psI (psI σ (9 + x3.toNatClampNeg) x4.toNatClampNeg (σ.1 a1 x4.toNatClampNeg)) 16 x3.toNatClampNeg (vp_nar .boolean (1 : Int32))) else L_X4_add_37 n a1 k x2 x3 (x4 + 1) (psI σ (9 + x3.toNatClampNeg) x4.toNatClampNeg (σ.1 a1 x4.toNatClampNeg))) else none) else none))
def F_X4_add (n : Nat) (a1 : Nat) (a2 : Int32) (σ : PS) : Option (Int32 × PS) := (F_X4_isFull n σ).bind (fun q1 => (if q1.1 = 0 then (if (Int32.ofNat 400) < a2 then some ((-1 : Int32), q1.2) else (if a2 ≤ (400 : Int32) then (if 0 ≤ (q1.2.1 7 0) ∧ (q1.2.1 7 0).toNatClampNeg < 6 then (L_X4_add_37 n a1 n a2 (q1.2.1 7 0) (0 : Int32) (psI q1.2 16 ((q1.2.1 7 0).toNatClampNeg) (vp_nar .boolean (0 : Int32)))).bind (fun o11 => (if 0 ≤ o11.2.1 ∧ o11.2.1.toNatClampNeg < 6 then some (o11.2.1, psI (psI o11.2.2 15 o11.2.1.toNatClampNeg o11.1) 7 0 (((psI o11.2.2 15 o11.2.1.toNatClampNeg o11.1).1 7 0) + (1 : Int32))) else none)) else none) else some ((-1 : Int32), q1.2))) else some ((-1 : Int32), q1.2)))
theorem gm_X4_add : gM "AskedCamp$RuleBook" yX4_add (Cond.code yX4_add cX4_add 5 (Option.some Jvm.ClassFile.FieldType.int)) 2 := ⟨by decide +kernel, tw_647, tw_648, tw_5, tw_649⟩
set_option maxHeartbeats 4000000 in
set_option maxRecDepth 100000 in
theorem l_X4_add_37 {p : Program} {l : Launch} {e : Env} {R : Room} {s : State} {m : MethodId} {args : Array Value} {below : List Frame} {meth : Method} {c : Code} {D : va_G} {ad : Nat → Nat} {ca : Nat → ClassId} {kz : Nat → Nat} {Q : State → Prop} (C : pC p s m args c cX4_add "AskedCamp$RuleBook" 5 D ad ca kz) (hR : 1 ≤ R.frames ∧ 20 ≤ R.locals) {n : Nat} {a1 : Nat} (ha1 : pia a1 21 400) (o : Int32 × Int32 × PS) (hx0 : PW p l e R s m args below meth c 5 D ad ca 0 0 Q (o.2.2) 78 [(0, .ref (ad (7))), (2, .int o.1), (3, .int o.2.1)] []) : ∀ (k : Nat) (x2 : Int32) (x3 : Int32) (x4 : Int32) (σ : PS), L_X4_add_37 n a1 k x2 x3 x4 σ = some o → PW p l e R s m args below meth c 5 D ad ca 0 0 Q σ 37 [(0, .ref (ad (7))), (1, .ref (ad (a1))), (2, .int x2), (3, .int x3), (4, .int x4)] [] := by
  intro k
  induction k with
  | zero => intro x2 x3 x4 σ hF; exact nomatch (show (none : Option (Int32 × Int32 × PS)) = some o from hF)
  | succ k ih =>
    intro x2 x3 x4 σ hF
    rw [L_X4_add_37] at hF
    refine q_iload C 4 dX4_add_37 rfl ?_
    refine q_iload_n C 2 dX4_add_39 rfl rfl ?_
    refine q_icmp_ge (tgt := 78) C dX4_add_40 (by decide) (fun c7 => ?_) (fun c7 => ?_)
    · replace hF := ift c7 hF
      cases hF
      refine q_sub [0, 2, 3] rfl ?_
      exact hx0
    · replace hF := ife c7 hF
      refine q_aload_n C 0 dX4_add_43 rfl rfl ?_
      refine qg_3_1 C pi_7 tw_121 dX4_add_44 ?_
      refine q_iload_n C 3 dX4_add_47 rfl rfl ?_
      obtain ⟨g8, hF⟩ := grd hF
      refine q_aald26 C pa_8 (vp_of g8) dX4_add_48 ?_
      refine q_iload C 4 dX4_add_49 rfl ?_
      refine q_aload_n C 1 dX4_add_51 rfl rfl ?_
      refine q_iload C 4 dX4_add_52 rfl ?_
      obtain ⟨g9, hF⟩ := grd hF
      refine q_iald C ha1 (vp_of g9) dX4_add_54 ?_
      refine q_iast C (pk26 (vp_lt (vp_of g8))) (vp_of g9) dX4_add_55 ?_
      refine q_aload_n C 1 dX4_add_56 rfl rfl ?_
      refine q_iload C 4 dX4_add_57 rfl ?_
      refine q_iald C ha1 (vp_of g9) dX4_add_59 ?_
      refine q_bipush (v := -7) C dX4_add_60 (by decide) ?_
      refine q_icmp_ne (tgt := 72) C dX4_add_62 (by decide) (fun c10 => ?_) (fun c10 => ?_)
      · replace hF := ife c10 hF
        refine q_iinc C 4 [(4, .int (x4 + 1)), (0, .ref (ad (7))), (1, .ref (ad (a1))), (2, .int x2), (3, .int x3)] dX4_add_72 rfl rfl (by decide) rfl ?_
        refine q_goto (tgt := 37) C dX4_add_75 (by decide) ?_
        refine q_sub [1, 2, 3, 4, 0] rfl ?_
        exact ih _ _ _ _ hF
      · replace hF := ift c10 hF
        refine q_aload_n C 0 dX4_add_65 rfl rfl ?_
        refine qg_3_3 C pi_7 tw_123 dX4_add_66 ?_
        refine q_iload_n C 3 dX4_add_69 rfl rfl ?_
        refine q_iconst (v := 1) C dX4_add_70 (by decide) ?_
        refine q_zast C pa_16 (vp_of g8) dX4_add_71 ?_
        refine q_iinc C 4 [(4, .int (x4 + 1)), (0, .ref (ad (7))), (1, .ref (ad (a1))), (2, .int x2), (3, .int x3)] dX4_add_72 rfl rfl (by decide) rfl ?_
        refine q_goto (tgt := 37) C dX4_add_75 (by decide) ?_
        refine q_sub [1, 2, 3, 4, 0] rfl ?_
        exact ih _ _ _ _ hF
set_option maxHeartbeats 4000000 in
set_option maxRecDepth 100000 in
theorem c_X4_add (l : Launch) (D : va_G) (ad : Nat → Nat) (ca : Nat → ClassId) (kz : Nat → Nat) (hJ : pInj ad) (n : Nat) {a1 : Nat} (ha1 : pia a1 21 400) (a2 : Int32) (σ : PS) (out : Int32 × PS) (hF : F_X4_add n a1 a2 σ = some out) : Met l yX4_add (Cond.code yX4_add cX4_add 5 (Option.some Jvm.ClassFile.FieldType.int) :: gw_tbl) { frames := 1, cells := 0, slots := 0, locals := 20 } (va_Pc [.ref (ad (7)), .ref (ad (a1)), .int a2] (pU D ad ca kz σ)) (pQi D ad ca out) 0 0 (pAD ad) := by
  refine q_entry (own := "AskedCamp$RuleBook") hJ (by decide) rfl (Nat.le_of_ble_eq_true rfl) (fun p e s m below meth c C hr hlk => ?_)
  refine q_lv [(0, .ref (ad (7))), (1, .ref (ad (a1))), (2, .int a2)] rfl ?_
  rw [F_X4_add] at hF
  refine q_aload_n C 0 dX4_add_0 rfl rfl ?_
  obtain ⟨q1, h2, hF⟩ := bnd hF
  try dsimp only at hF
  refine q_callVi C [] (c_X4_isFull l D ad ca kz C.2.2.2.2.2.2.1 _ _ _ h2) tw_650 gm_X4_isFull pi_7.1 (pe_3 pi_7.2) rfl ⟨rfl, rfl⟩ ⟨Nat.le_of_ble_eq_true rfl, Nat.le_of_ble_eq_true rfl⟩ rfl (Nat.le_of_ble_eq_true rfl) dX4_add_1 q00 ?_
  refine q_if_ne (tgt := 20) C dX4_add_4 (by decide) (fun c3 => ?_) (fun c3 => ?_)
  · replace hF := ife c3 hF
    refine q_iconst (v := -1) C dX4_add_20 (by decide) ?_
    exact q_iret C hr hlk dX4_add_21 hF
  · replace hF := ift c3 hF
    refine q_iload_n C 2 dX4_add_7 rfl rfl ?_
    refine q_aload_n C 1 dX4_add_8 rfl rfl ?_
    refine q_alen21 C ha1 dX4_add_9 ?_
    refine q_icmp_gt (tgt := 20) C dX4_add_10 (by decide) (fun c4 => ?_) (fun c4 => ?_)
    · replace hF := ift c4 hF
      refine q_iconst (v := -1) C dX4_add_20 (by decide) ?_
      exact q_iret C hr hlk dX4_add_21 hF
    · replace hF := ife c4 hF
      refine q_iload_n C 2 dX4_add_13 rfl rfl ?_
      refine q_sipush (v := 400) C dX4_add_14 (by decide) ?_
      refine q_icmp_le (tgt := 22) C dX4_add_17 (by decide) (fun c5 => ?_) (fun c5 => ?_)
      · replace hF := ift c5 hF
        refine q_aload_n C 0 dX4_add_22 rfl rfl ?_
        refine qg_3_0 C pi_7 tw_118 dX4_add_23 ?_
        refine q_istore_n C [(3, .int (q1.2.1 7 0)), (0, .ref (ad (7))), (1, .ref (ad (a1))), (2, .int a2)] dX4_add_26 rfl (by decide) rfl ?_
        refine q_aload_n C 1 dX4_add_27 rfl rfl ?_
        refine qg_3_3 C pi_7 tw_123 dX4_add_28 ?_
        refine q_iload_n C 0 dX4_add_31 rfl rfl ?_
        refine q_iconst (v := 0) C dX4_add_32 (by decide) ?_
        obtain ⟨g6, hF⟩ := grd hF
        refine q_zast C pa_16 (vp_of g6) dX4_add_33 ?_
        refine q_iconst (v := 0) C dX4_add_34 (by decide) ?_
        refine q_istore C [(4, .int 0), (3, .int (q1.2.1 7 0)), (0, .ref (ad (7))), (1, .ref (ad (a1))), (2, .int a2)] dX4_add_35 (by decide) rfl ?_
        obtain ⟨o11, h12, hF⟩ := bnd hF
        try dsimp only at hF
        refine q_sub [2, 3, 4, 1, 0] rfl ?_
        refine l_X4_add_37 C ⟨Nat.le_of_ble_eq_true rfl, Nat.le_of_ble_eq_true rfl⟩ ha1 o11 ?_ n _ _ _ _ h12
        refine q_aload_n C 0 dX4_add_78 rfl rfl ?_
        refine qg_3_2 C pi_7 tw_122 dX4_add_79 ?_
        refine q_iload_n C 2 dX4_add_82 rfl rfl ?_
        refine q_iload_n C 1 dX4_add_83 rfl rfl ?_
        obtain ⟨g13, hF⟩ := grd hF
        refine q_iast C pa_15 (vp_of g13) dX4_add_84 ?_
        refine q_aload_n C 0 dX4_add_85 rfl rfl ?_
        refine q_dup C dX4_add_86 rfl ?_
        refine qg_3_0 C pi_7 tw_118 dX4_add_87 ?_
        refine q_iconst (v := 1) C dX4_add_90 (by decide) ?_
        refine q_iadd C dX4_add_91 ?_
        refine qs_3_0 C pi_7 tw_118 dX4_add_92 ?_
        refine q_iload_n C 2 dX4_add_95 rfl rfl ?_
        exact q_iret C hr hlk dX4_add_96 hF
      · replace hF := ife c5 hF
        refine q_iconst (v := -1) C dX4_add_20 (by decide) ?_
        exact q_iret C hr hlk dX4_add_21 hF
-- X5_emit
def F_X5_emit (n : Nat) (a1 : Int32) (σ : PS) : Option (PS) := (if a1 = 0 then some σ else (if (400 : Int32) ≤ (σ.1 4 1) then some σ else (if 0 ≤ (σ.1 4 1) ∧ (σ.1 4 1).toNatClampNeg < 400 then some (psI (psI σ 5 ((σ.1 4 1).toNatClampNeg) a1) 4 1 (((psI σ 5 ((σ.1 4 1).toNatClampNeg) a1).1 4 1) + (1 : Int32))) else none)))
theorem gm_X5_emit : gM "AskedCamp$RuleReader" yX5_emit (Cond.code yX5_emit cX5_emit 2 (Option.none : Option Jvm.ClassFile.FieldType)) 1 := ⟨by decide +kernel, tw_598, tw_p6, tw_4, tw_599⟩
set_option maxHeartbeats 4000000 in
set_option maxRecDepth 100000 in
theorem c_X5_emit (l : Launch) (D : va_G) (ad : Nat → Nat) (ca : Nat → ClassId) (kz : Nat → Nat) (hJ : pInj ad) (n : Nat) (a1 : Int32) (σ : PS) (out : PS) (hF : F_X5_emit n a1 σ = some out) : Met l yX5_emit (Cond.code yX5_emit cX5_emit 2 (Option.none : Option Jvm.ClassFile.FieldType) :: gw_tbl) { frames := 0, cells := 0, slots := 0, locals := 0 } (va_Pc [.ref (ad (4)), .int a1] (pU D ad ca kz σ)) (pQv D ad ca out) 0 0 (pAD ad) := by
  refine q_entry (own := "AskedCamp$RuleReader") hJ (by decide) rfl (Nat.le_of_ble_eq_true rfl) (fun p e s m below meth c C hr hlk => ?_)
  refine q_lv [(0, .ref (ad (4))), (1, .int a1)] rfl ?_
  rw [F_X5_emit] at hF
  refine q_iload_n C 1 dX5_emit_0 rfl rfl ?_
  refine q_if_eq (tgt := 34) C dX5_emit_1 (by decide) (fun c1 => ?_) (fun c1 => ?_)
  · replace hF := ift c1 hF
    exact q_vret C hr hlk dX5_emit_34 hF
  · replace hF := ife c1 hF
    refine q_aload_n C 0 dX5_emit_4 rfl rfl ?_
    refine qg_4_1 C pi_4 tw_84 dX5_emit_5 ?_
    refine q_sipush (v := 400) C dX5_emit_8 (by decide) ?_
    refine q_icmp_ge (tgt := 34) C dX5_emit_11 (by decide) (fun c2 => ?_) (fun c2 => ?_)
    · replace hF := ift c2 hF
      exact q_vret C hr hlk dX5_emit_34 hF
    · replace hF := ife c2 hF
      refine q_aload_n C 0 dX5_emit_14 rfl rfl ?_
      refine qg_4_0 C pi_4 tw_82 dX5_emit_15 ?_
      refine q_aload_n C 0 dX5_emit_18 rfl rfl ?_
      refine qg_4_1 C pi_4 tw_84 dX5_emit_19 ?_
      refine q_iload_n C 1 dX5_emit_22 rfl rfl ?_
      obtain ⟨g3, hF⟩ := grd hF
      refine q_iast C pa_5 (vp_of g3) dX5_emit_23 ?_
      refine q_aload_n C 0 dX5_emit_24 rfl rfl ?_
      refine q_dup C dX5_emit_25 rfl ?_
      refine qg_4_1 C pi_4 tw_84 dX5_emit_26 ?_
      refine q_iconst (v := 1) C dX5_emit_29 (by decide) ?_
      refine q_iadd C dX5_emit_30 ?_
      refine qs_4_1 C pi_4 tw_84 dX5_emit_31 ?_
      exact q_vret C hr hlk dX5_emit_34 hF
-- X3_ofAdding
def F_X3_ofAdding (n : Nat) (a0 : Int32) (σ : PS) : Option (Int32 × PS) := (if a0 = (43 : Int32) then some ((-20 : Int32), σ) else (if a0 = (45 : Int32) then some ((-21 : Int32), σ) else some ((0 : Int32), σ)))
theorem gm_X3_ofAdding : gS yX3_ofAdding (Cond.code yX3_ofAdding cX3_ofAdding 1 (Option.some Jvm.ClassFile.FieldType.int)) 1 := ⟨by decide +kernel, tw_605, tw_18, tw_606⟩
set_option maxHeartbeats 4000000 in
set_option maxRecDepth 100000 in
theorem c_X3_ofAdding (l : Launch) (D : va_G) (ad : Nat → Nat) (ca : Nat → ClassId) (kz : Nat → Nat) (hJ : pInj ad) (n : Nat) (a0 : Int32) (σ : PS) (out : Int32 × PS) (hF : F_X3_ofAdding n a0 σ = some out) : Met l yX3_ofAdding (Cond.code yX3_ofAdding cX3_ofAdding 1 (Option.some Jvm.ClassFile.FieldType.int) :: gw_tbl) { frames := 0, cells := 0, slots := 0, locals := 0 } (va_Pc [.int a0] (pU D ad ca kz σ)) (pQi D ad ca out) 0 0 (pAD ad) := by
  refine q_entry (own := "AskedCamp$Op") hJ (by decide) rfl (Nat.le_of_ble_eq_true rfl) (fun p e s m below meth c C hr hlk => ?_)
  refine q_lv [(0, .int a0)] rfl ?_
  rw [F_X3_ofAdding] at hF
  refine q_iload_n C 0 dX3_ofAdding_0 rfl rfl ?_
  by_cases c1 : a0 = (43 : Int32)
  · replace hF := ift c1 hF
    refine q_lookup (off := 27) (tgt := 28) C dX3_ofAdding_1 (by decide) (by rw [c1] <;> rfl) (by decide) ?_
    refine q_bipush (v := -20) C dX3_ofAdding_28 (by decide) ?_
    exact q_iret C hr hlk dX3_ofAdding_30 hF
  replace hF := ife c1 hF
  by_cases c2 : a0 = (45 : Int32)
  · replace hF := ift c2 hF
    refine q_lookup (off := 30) (tgt := 31) C dX3_ofAdding_1 (by decide) (by rw [c2] <;> rfl) (by decide) ?_
    refine q_bipush (v := -21) C dX3_ofAdding_31 (by decide) ?_
    exact q_iret C hr hlk dX3_ofAdding_33 hF
  replace hF := ife c2 hF
  refine q_lookup (off := 33) (tgt := 34) C dX3_ofAdding_1 (by decide) (by have ec1 := (sw_ne c1).symm; have ec2 := (sw_ne c2).symm; simp only [sw_lit] at ec1 ec2; simp [Op.lookupswitch.offset, ec1, ec2]) (by decide) ?_
  refine q_iconst (v := 0) C dX3_ofAdding_34 (by decide) ?_
  exact q_iret C hr hlk dX3_ofAdding_35 hF
-- X3_ofMultiplying
def F_X3_ofMultiplying (n : Nat) (a0 : Int32) (σ : PS) : Option (Int32 × PS) := (if a0 = (37 : Int32) then some ((-24 : Int32), σ) else (if a0 = (42 : Int32) then some ((-22 : Int32), σ) else (if a0 = (47 : Int32) then some ((-23 : Int32), σ) else some ((0 : Int32), σ))))
theorem gm_X3_ofMultiplying : gS yX3_ofMultiplying (Cond.code yX3_ofMultiplying cX3_ofMultiplying 1 (Option.some Jvm.ClassFile.FieldType.int)) 1 := ⟨by decide +kernel, tw_602, tw_18, tw_603⟩
set_option maxHeartbeats 4000000 in
set_option maxRecDepth 100000 in
theorem c_X3_ofMultiplying (l : Launch) (D : va_G) (ad : Nat → Nat) (ca : Nat → ClassId) (kz : Nat → Nat) (hJ : pInj ad) (n : Nat) (a0 : Int32) (σ : PS) (out : Int32 × PS) (hF : F_X3_ofMultiplying n a0 σ = some out) : Met l yX3_ofMultiplying (Cond.code yX3_ofMultiplying cX3_ofMultiplying 1 (Option.some Jvm.ClassFile.FieldType.int) :: gw_tbl) { frames := 0, cells := 0, slots := 0, locals := 0 } (va_Pc [.int a0] (pU D ad ca kz σ)) (pQi D ad ca out) 0 0 (pAD ad) := by
  refine q_entry (own := "AskedCamp$Op") hJ (by decide) rfl (Nat.le_of_ble_eq_true rfl) (fun p e s m below meth c C hr hlk => ?_)
  refine q_lv [(0, .int a0)] rfl ?_
  rw [F_X3_ofMultiplying] at hF
  refine q_iload_n C 0 dX3_ofMultiplying_0 rfl rfl ?_
  by_cases c1 : a0 = (37 : Int32)
  · replace hF := ift c1 hF
    refine q_lookup (off := 41) (tgt := 42) C dX3_ofMultiplying_1 (by decide) (by rw [c1] <;> rfl) (by decide) ?_
    refine q_bipush (v := -24) C dX3_ofMultiplying_42 (by decide) ?_
    exact q_iret C hr hlk dX3_ofMultiplying_44 hF
  replace hF := ife c1 hF
  by_cases c2 : a0 = (42 : Int32)
  · replace hF := ift c2 hF
    refine q_lookup (off := 35) (tgt := 36) C dX3_ofMultiplying_1 (by decide) (by rw [c2] <;> rfl) (by decide) ?_
    refine q_bipush (v := -22) C dX3_ofMultiplying_36 (by decide) ?_
    exact q_iret C hr hlk dX3_ofMultiplying_38 hF
  replace hF := ife c2 hF
  by_cases c3 : a0 = (47 : Int32)
  · replace hF := ift c3 hF
    refine q_lookup (off := 38) (tgt := 39) C dX3_ofMultiplying_1 (by decide) (by rw [c3] <;> rfl) (by decide) ?_
    refine q_bipush (v := -23) C dX3_ofMultiplying_39 (by decide) ?_
    exact q_iret C hr hlk dX3_ofMultiplying_41 hF
  replace hF := ife c3 hF
  refine q_lookup (off := 44) (tgt := 45) C dX3_ofMultiplying_1 (by decide) (by have ec1 := (sw_ne c1).symm; have ec2 := (sw_ne c2).symm; have ec3 := (sw_ne c3).symm; simp only [sw_lit] at ec1 ec2 ec3; simp [Op.lookupswitch.offset, ec1, ec2, ec3]) (by decide) ?_
  refine q_iconst (v := 0) C dX3_ofMultiplying_45 (by decide) ?_
  exact q_iret C hr hlk dX3_ofMultiplying_46 hF
-- X3_ofWord
def F_X3_ofWord (n : Nat) (σ : PS) : Option (Int32 × PS) := (F_X9_wordIs n 8 σ).bind (fun q1 => (if q1.1 = 0 then (F_X9_wordIs n 9 q1.2).bind (fun q4 => (if q4.1 = 0 then (F_X9_wordIs n 10 q4.2).bind (fun q7 => (if q7.1 = 0 then (F_X9_wordIs n 11 q7.2).bind (fun q10 => (if q10.1 = 0 then (F_X9_wordIs n 12 q10.2).bind (fun q13 => (if q13.1 = 0 then (F_X9_wordIs n 13 q13.2).bind (fun q16 => (if q16.1 = 0 then (F_X9_wordIs n 14 q16.2).bind (fun q19 => (if q19.1 = 0 then (F_X9_wordIs n 15 q19.2).bind (fun q22 => (if q22.1 = 0 then (F_X9_wordIs n 16 q22.2).bind (fun q25 => (if q25.1 = 0 then (F_X9_wordIs n 17 q25.2).bind (fun q28 => (if q28.1 = 0 then (F_X9_wordIs n 18 q28.2).bind (fun q31 => (if q31.1 = 0 then some ((0 : Int32), q31.2) else some ((-11 : Int32), q31.2))) else some ((-10 : Int32), q28.2))) else some ((-9 : Int32), q25.2))) else some ((-8 : Int32), q22.2))) else some ((-7 : Int32), q19.2))) else some ((-6 : Int32), q16.2))) else some ((-5 : Int32), q13.2))) else some ((-4 : Int32), q10.2))) else some ((-3 : Int32), q7.2))) else some ((-2 : Int32), q4.2))) else some ((-1 : Int32), q1.2)))
theorem gm_X3_ofWord : gS yX3_ofWord (Cond.code yX3_ofWord cX3_ofWord 1 (Option.some Jvm.ClassFile.FieldType.int)) 1 := ⟨by decide +kernel, tw_572, tw_18, tw_573⟩
set_option maxHeartbeats 4000000 in
set_option maxRecDepth 100000 in
theorem c_X3_ofWord (l : Launch) (D : va_G) (ad : Nat → Nat) (ca : Nat → ClassId) (kz : Nat → Nat) (hJ : pInj ad) (n : Nat) (σ : PS) (out : Int32 × PS) (hF : F_X3_ofWord n σ = some out) : Met l yX3_ofWord (Cond.code yX3_ofWord cX3_ofWord 1 (Option.some Jvm.ClassFile.FieldType.int) :: gw_tbl) { frames := 5, cells := 0, slots := 0, locals := 109 } (va_Pc [.ref (ad (1))] (pU D ad ca kz σ)) (pQi D ad ca out) 0 0 (pAD ad) := by
  refine q_entry (own := "AskedCamp$Op") hJ (by decide) rfl (Nat.le_of_ble_eq_true rfl) (fun p e s m below meth c C hr hlk => ?_)
  refine q_lv [(0, .ref (ad (1)))] rfl ?_
  rw [F_X3_ofWord] at hF
  refine q_aload_n C 0 dX3_ofWord_0 rfl rfl ?_
  refine q_str4 C dX3_ofWord_1 ?_
  obtain ⟨q1, h2, hF⟩ := bnd hF
  try dsimp only at hF
  refine q_callVi C [.ref (kz (10 + 8))] (c_X9_wordIs l D ad ca kz C.2.2.2.2.2.2.1 _ (by decide) _ _ h2) tw_575 gm_X9_wordIs pi_1.1 (pe_8 pi_1.2) rfl ⟨rfl, rfl⟩ ⟨Nat.le_of_ble_eq_true rfl, Nat.le_of_ble_eq_true rfl⟩ rfl (Nat.le_of_ble_eq_true rfl) dX3_ofWord_3 q00 ?_
  refine q_if_eq (tgt := 11) C dX3_ofWord_6 (by decide) (fun c3 => ?_) (fun c3 => ?_)
  · replace hF := ift c3 hF
    refine q_aload_n C 0 dX3_ofWord_11 rfl rfl ?_
    refine q_str5 C dX3_ofWord_12 ?_
    obtain ⟨q4, h5, hF⟩ := bnd hF
    try dsimp only at hF
    refine q_callVi C [.ref (kz (10 + 9))] (c_X9_wordIs l D ad ca kz C.2.2.2.2.2.2.1 _ (by decide) _ _ h5) tw_575 gm_X9_wordIs pi_1.1 (pe_8 pi_1.2) rfl ⟨rfl, rfl⟩ ⟨Nat.le_of_ble_eq_true rfl, Nat.le_of_ble_eq_true rfl⟩ rfl (Nat.le_of_ble_eq_true rfl) dX3_ofWord_14 q00 ?_
    refine q_if_eq (tgt := 23) C dX3_ofWord_17 (by decide) (fun c6 => ?_) (fun c6 => ?_)
    · replace hF := ift c6 hF
      refine q_aload_n C 0 dX3_ofWord_23 rfl rfl ?_
      refine q_str6 C dX3_ofWord_24 ?_
      obtain ⟨q7, h8, hF⟩ := bnd hF
      try dsimp only at hF
      refine q_callVi C [.ref (kz (10 + 10))] (c_X9_wordIs l D ad ca kz C.2.2.2.2.2.2.1 _ (by decide) _ _ h8) tw_575 gm_X9_wordIs pi_1.1 (pe_8 pi_1.2) rfl ⟨rfl, rfl⟩ ⟨Nat.le_of_ble_eq_true rfl, Nat.le_of_ble_eq_true rfl⟩ rfl (Nat.le_of_ble_eq_true rfl) dX3_ofWord_26 q00 ?_
      refine q_if_eq (tgt := 35) C dX3_ofWord_29 (by decide) (fun c9 => ?_) (fun c9 => ?_)
      · replace hF := ift c9 hF
        refine q_aload_n C 0 dX3_ofWord_35 rfl rfl ?_
        refine q_str7 C dX3_ofWord_36 ?_
        obtain ⟨q10, h11, hF⟩ := bnd hF
        try dsimp only at hF
        refine q_callVi C [.ref (kz (10 + 11))] (c_X9_wordIs l D ad ca kz C.2.2.2.2.2.2.1 _ (by decide) _ _ h11) tw_575 gm_X9_wordIs pi_1.1 (pe_8 pi_1.2) rfl ⟨rfl, rfl⟩ ⟨Nat.le_of_ble_eq_true rfl, Nat.le_of_ble_eq_true rfl⟩ rfl (Nat.le_of_ble_eq_true rfl) dX3_ofWord_38 q00 ?_
        refine q_if_eq (tgt := 47) C dX3_ofWord_41 (by decide) (fun c12 => ?_) (fun c12 => ?_)
        · replace hF := ift c12 hF
          refine q_aload_n C 0 dX3_ofWord_47 rfl rfl ?_
          refine q_str8 C dX3_ofWord_48 ?_
          obtain ⟨q13, h14, hF⟩ := bnd hF
          try dsimp only at hF
          refine q_callVi C [.ref (kz (10 + 12))] (c_X9_wordIs l D ad ca kz C.2.2.2.2.2.2.1 _ (by decide) _ _ h14) tw_575 gm_X9_wordIs pi_1.1 (pe_8 pi_1.2) rfl ⟨rfl, rfl⟩ ⟨Nat.le_of_ble_eq_true rfl, Nat.le_of_ble_eq_true rfl⟩ rfl (Nat.le_of_ble_eq_true rfl) dX3_ofWord_50 q00 ?_
          refine q_if_eq (tgt := 59) C dX3_ofWord_53 (by decide) (fun c15 => ?_) (fun c15 => ?_)
          · replace hF := ift c15 hF
            refine q_aload_n C 0 dX3_ofWord_59 rfl rfl ?_
            refine q_str9 C dX3_ofWord_60 ?_
            obtain ⟨q16, h17, hF⟩ := bnd hF
            try dsimp only at hF
            refine q_callVi C [.ref (kz (10 + 13))] (c_X9_wordIs l D ad ca kz C.2.2.2.2.2.2.1 _ (by decide) _ _ h17) tw_575 gm_X9_wordIs pi_1.1 (pe_8 pi_1.2) rfl ⟨rfl, rfl⟩ ⟨Nat.le_of_ble_eq_true rfl, Nat.le_of_ble_eq_true rfl⟩ rfl (Nat.le_of_ble_eq_true rfl) dX3_ofWord_62 q00 ?_
            refine q_if_eq (tgt := 71) C dX3_ofWord_65 (by decide) (fun c18 => ?_) (fun c18 => ?_)
            · replace hF := ift c18 hF
              refine q_aload_n C 0 dX3_ofWord_71 rfl rfl ?_
              refine q_str10 C dX3_ofWord_72 ?_
              obtain ⟨q19, h20, hF⟩ := bnd hF
              try dsimp only at hF
              refine q_callVi C [.ref (kz (10 + 14))] (c_X9_wordIs l D ad ca kz C.2.2.2.2.2.2.1 _ (by decide) _ _ h20) tw_575 gm_X9_wordIs pi_1.1 (pe_8 pi_1.2) rfl ⟨rfl, rfl⟩ ⟨Nat.le_of_ble_eq_true rfl, Nat.le_of_ble_eq_true rfl⟩ rfl (Nat.le_of_ble_eq_true rfl) dX3_ofWord_74 q00 ?_
              refine q_if_eq (tgt := 83) C dX3_ofWord_77 (by decide) (fun c21 => ?_) (fun c21 => ?_)
              · replace hF := ift c21 hF
                refine q_aload_n C 0 dX3_ofWord_83 rfl rfl ?_
                refine q_str11 C dX3_ofWord_84 ?_
                obtain ⟨q22, h23, hF⟩ := bnd hF
                try dsimp only at hF
                refine q_callVi C [.ref (kz (10 + 15))] (c_X9_wordIs l D ad ca kz C.2.2.2.2.2.2.1 _ (by decide) _ _ h23) tw_575 gm_X9_wordIs pi_1.1 (pe_8 pi_1.2) rfl ⟨rfl, rfl⟩ ⟨Nat.le_of_ble_eq_true rfl, Nat.le_of_ble_eq_true rfl⟩ rfl (Nat.le_of_ble_eq_true rfl) dX3_ofWord_86 q00 ?_
                refine q_if_eq (tgt := 95) C dX3_ofWord_89 (by decide) (fun c24 => ?_) (fun c24 => ?_)
                · replace hF := ift c24 hF
                  refine q_aload_n C 0 dX3_ofWord_95 rfl rfl ?_
                  refine q_str12 C dX3_ofWord_96 ?_
                  obtain ⟨q25, h26, hF⟩ := bnd hF
                  try dsimp only at hF
                  refine q_callVi C [.ref (kz (10 + 16))] (c_X9_wordIs l D ad ca kz C.2.2.2.2.2.2.1 _ (by decide) _ _ h26) tw_575 gm_X9_wordIs pi_1.1 (pe_8 pi_1.2) rfl ⟨rfl, rfl⟩ ⟨Nat.le_of_ble_eq_true rfl, Nat.le_of_ble_eq_true rfl⟩ rfl (Nat.le_of_ble_eq_true rfl) dX3_ofWord_98 q00 ?_
                  refine q_if_eq (tgt := 107) C dX3_ofWord_101 (by decide) (fun c27 => ?_) (fun c27 => ?_)
                  · replace hF := ift c27 hF
                    refine q_aload_n C 0 dX3_ofWord_107 rfl rfl ?_
                    refine q_str13 C dX3_ofWord_108 ?_
                    obtain ⟨q28, h29, hF⟩ := bnd hF
                    try dsimp only at hF
                    refine q_callVi C [.ref (kz (10 + 17))] (c_X9_wordIs l D ad ca kz C.2.2.2.2.2.2.1 _ (by decide) _ _ h29) tw_575 gm_X9_wordIs pi_1.1 (pe_8 pi_1.2) rfl ⟨rfl, rfl⟩ ⟨Nat.le_of_ble_eq_true rfl, Nat.le_of_ble_eq_true rfl⟩ rfl (Nat.le_of_ble_eq_true rfl) dX3_ofWord_110 q00 ?_
                    refine q_if_eq (tgt := 119) C dX3_ofWord_113 (by decide) (fun c30 => ?_) (fun c30 => ?_)
                    · replace hF := ift c30 hF
                      refine q_aload_n C 0 dX3_ofWord_119 rfl rfl ?_
                      refine q_str14 C dX3_ofWord_120 ?_
                      obtain ⟨q31, h32, hF⟩ := bnd hF
                      try dsimp only at hF
                      refine q_callVi C [.ref (kz (10 + 18))] (c_X9_wordIs l D ad ca kz C.2.2.2.2.2.2.1 _ (by decide) _ _ h32) tw_575 gm_X9_wordIs pi_1.1 (pe_8 pi_1.2) rfl ⟨rfl, rfl⟩ ⟨Nat.le_of_ble_eq_true rfl, Nat.le_of_ble_eq_true rfl⟩ rfl (Nat.le_of_ble_eq_true rfl) dX3_ofWord_122 q00 ?_
                      refine q_if_eq (tgt := 133) C dX3_ofWord_125 (by decide) (fun c33 => ?_) (fun c33 => ?_)
                      · replace hF := ift c33 hF
                        refine q_iconst (v := 0) C dX3_ofWord_133 (by decide) ?_
                        exact q_iret C hr hlk dX3_ofWord_134 hF
                      · replace hF := ife c33 hF
                        refine q_bipush (v := -11) C dX3_ofWord_128 (by decide) ?_
                        refine q_goto (tgt := 134) C dX3_ofWord_130 (by decide) ?_
                        exact q_iret C hr hlk dX3_ofWord_134 hF
                    · replace hF := ife c30 hF
                      refine q_bipush (v := -10) C dX3_ofWord_116 (by decide) ?_
                      exact q_iret C hr hlk dX3_ofWord_118 hF
                  · replace hF := ife c27 hF
                    refine q_bipush (v := -9) C dX3_ofWord_104 (by decide) ?_
                    exact q_iret C hr hlk dX3_ofWord_106 hF
                · replace hF := ife c24 hF
                  refine q_bipush (v := -8) C dX3_ofWord_92 (by decide) ?_
                  exact q_iret C hr hlk dX3_ofWord_94 hF
              · replace hF := ife c21 hF
                refine q_bipush (v := -7) C dX3_ofWord_80 (by decide) ?_
                exact q_iret C hr hlk dX3_ofWord_82 hF
            · replace hF := ife c18 hF
              refine q_bipush (v := -6) C dX3_ofWord_68 (by decide) ?_
              exact q_iret C hr hlk dX3_ofWord_70 hF
          · replace hF := ife c15 hF
            refine q_bipush (v := -5) C dX3_ofWord_56 (by decide) ?_
            exact q_iret C hr hlk dX3_ofWord_58 hF
        · replace hF := ife c12 hF
          refine q_bipush (v := -4) C dX3_ofWord_44 (by decide) ?_
          exact q_iret C hr hlk dX3_ofWord_46 hF
      · replace hF := ife c9 hF
        refine q_bipush (v := -3) C dX3_ofWord_32 (by decide) ?_
        exact q_iret C hr hlk dX3_ofWord_34 hF
    · replace hF := ife c6 hF
      refine q_bipush (v := -2) C dX3_ofWord_20 (by decide) ?_
      exact q_iret C hr hlk dX3_ofWord_22 hF
  · replace hF := ife c3 hF
    refine q_iconst (v := -1) C dX3_ofWord_9 (by decide) ?_
    exact q_iret C hr hlk dX3_ofWord_10 hF
-- X5_countOne
def F_X5_countOne (n : Nat) (a1 : Int32) (σ : PS) : Option (PS) := (if ((psI σ 4 7 ((σ.1 4 7) + (1 : Int32))).1 4 7) ≤ (60 : Int32) then some (psI σ 4 7 ((σ.1 4 7) + (1 : Int32))) else (F_X9_fail n a1 (3 : Int32) (psI σ 4 7 ((σ.1 4 7) + (1 : Int32)))).bind (fun q2 => some q2))
theorem gm_X5_countOne : gM "AskedCamp$RuleReader" yX5_countOne (Cond.code yX5_countOne cX5_countOne 2 (Option.none : Option Jvm.ClassFile.FieldType)) 1 := ⟨by decide +kernel, tw_594, tw_p5, tw_4, tw_595⟩
set_option maxHeartbeats 4000000 in
set_option maxRecDepth 100000 in
theorem c_X5_countOne (l : Launch) (D : va_G) (ad : Nat → Nat) (ca : Nat → ClassId) (kz : Nat → Nat) (hJ : pInj ad) (n : Nat) (a1 : Int32) (σ : PS) (out : PS) (hF : F_X5_countOne n a1 σ = some out) : Met l yX5_countOne (Cond.code yX5_countOne cX5_countOne 2 (Option.none : Option Jvm.ClassFile.FieldType) :: gw_tbl) { frames := 1, cells := 0, slots := 0, locals := 22 } (va_Pc [.ref (ad (4)), .int a1] (pU D ad ca kz σ)) (pQv D ad ca out) 0 0 (pAD ad) := by
  refine q_entry (own := "AskedCamp$RuleReader") hJ (by decide) rfl (Nat.le_of_ble_eq_true rfl) (fun p e s m below meth c C hr hlk => ?_)
  refine q_lv [(0, .ref (ad (4))), (1, .int a1)] rfl ?_
  rw [F_X5_countOne] at hF
  refine q_aload_n C 0 dX5_countOne_0 rfl rfl ?_
  refine q_dup C dX5_countOne_1 rfl ?_
  refine qg_4_7 C pi_4 tw_91 dX5_countOne_2 ?_
  refine q_iconst (v := 1) C dX5_countOne_5 (by decide) ?_
  refine q_iadd C dX5_countOne_6 ?_
  refine qs_4_7 C pi_4 tw_91 dX5_countOne_7 ?_
  refine q_aload_n C 0 dX5_countOne_10 rfl rfl ?_
  refine qg_4_7 C pi_4 tw_91 dX5_countOne_11 ?_
  refine q_bipush (v := 60) C dX5_countOne_14 (by decide) ?_
  refine q_icmp_le (tgt := 28) C dX5_countOne_16 (by decide) (fun c1 => ?_) (fun c1 => ?_)
  · replace hF := ift c1 hF
    exact q_vret C hr hlk dX5_countOne_28 hF
  · replace hF := ife c1 hF
    refine q_aload_n C 0 dX5_countOne_19 rfl rfl ?_
    refine qg_4_2 C pi_4 tw_86 dX5_countOne_20 ?_
    refine q_iload_n C 1 dX5_countOne_23 rfl rfl ?_
    refine q_iconst (v := 3) C dX5_countOne_24 (by decide) ?_
    obtain ⟨q2, h3, hF⟩ := bnd hF
    try dsimp only at hF
    refine q_callVv C [.int a1, .int 3] (c_X9_fail l D ad ca kz C.2.2.2.2.2.2.1 _ _ _ _ _ h3) tw_562 gm_X9_fail pi_1.1 (pe_8 pi_1.2) rfl ⟨rfl, rfl⟩ ⟨Nat.le_of_ble_eq_true rfl, Nat.le_of_ble_eq_true rfl⟩ rfl (Nat.le_of_ble_eq_true rfl) dX5_countOne_25 q00 ?_
    exact q_vret C hr hlk dX5_countOne_28 hF
-- X9_putWordBack
def F_X9_putWordBack (n : Nat) (σ : PS) : Option (PS) := some (psI σ 1 2 (σ.1 1 3))
theorem gm_X9_putWordBack : gM "AskedCamp$Tape" yX9_putWordBack (Cond.code yX9_putWordBack cX9_putWordBack 1 (Option.none : Option Jvm.ClassFile.FieldType)) 0 := ⟨by decide +kernel, tw_587, tw_588, tw_2, tw_589⟩
set_option maxHeartbeats 4000000 in
set_option maxRecDepth 100000 in
theorem c_X9_putWordBack (l : Launch) (D : va_G) (ad : Nat → Nat) (ca : Nat → ClassId) (kz : Nat → Nat) (hJ : pInj ad) (n : Nat) (σ : PS) (out : PS) (hF : F_X9_putWordBack n σ = some out) : Met l yX9_putWordBack (Cond.code yX9_putWordBack cX9_putWordBack 1 (Option.none : Option Jvm.ClassFile.FieldType) :: gw_tbl) { frames := 0, cells := 0, slots := 0, locals := 0 } (va_Pc [.ref (ad (1))] (pU D ad ca kz σ)) (pQv D ad ca out) 0 0 (pAD ad) := by
  refine q_entry (own := "AskedCamp$Tape") hJ (by decide) rfl (Nat.le_of_ble_eq_true rfl) (fun p e s m below meth c C hr hlk => ?_)
  refine q_lv [(0, .ref (ad (1)))] rfl ?_
  rw [F_X9_putWordBack] at hF
  refine q_aload_n C 0 dX9_putWordBack_0 rfl rfl ?_
  refine q_aload_n C 0 dX9_putWordBack_1 rfl rfl ?_
  refine qg_8_3 C pi_1 tw_45 dX9_putWordBack_2 ?_
  refine qs_8_2 C pi_1 tw_41 dX9_putWordBack_5 ?_
  exact q_vret C hr hlk dX9_putWordBack_8 hF
-- X5_readValue
def F_X5_readValue (n : Nat) (σ : PS) : Option (Int32 × PS) := (if (σ.1 1 5) = 0 then (F_X9_takeWord n σ).bind (fun q2 => (F_X3_ofWord n q2).bind (fun q4 => (if q4.1 = 0 then (F_X9_putWordBack n q4.2).bind (fun q16 => (F_X9_takeNumber n (0 : Int32) (99999 : Int32) q16).bind (fun q18 => (F_X5_countOne n (q2.1 1 3) q18.2).bind (fun q20 => (if (q18.2.1 1 4) = 0 then (F_X5_emit n (-12 : Int32) q20).bind (fun q26 => (if (q26.1 1 5) = 0 then some ((1 : Int32), q26) else some ((0 : Int32), q26))) else (F_X5_emit n (q18.2.1 1 4) q20).bind (fun q23 => (if (q23.1 1 5) = 0 then some ((1 : Int32), q23) else some ((0 : Int32), q23))))))) else (F_X5_countOne n (q2.1 1 3) q4.2).bind (fun q7 => (if q4.1 = 0 then (F_X5_emit n (-12 : Int32) q7).bind (fun q13 => (if (q13.1 1 5) = 0 then some ((1 : Int32), q13) else some ((0 : Int32), q13))) else (F_X5_emit n q4.1 q7).bind (fun q10 => (if (q10.1 1 5) = 0 then some ((1 : Int32), q10) else some ((0 : Int32), q10)))))))) else some ((0 : Int32), σ))
theorem gm_X5_readValue : gM "AskedCamp$RuleReader" yX5_readValue (Cond.code yX5_readValue cX5_readValue 3 (Option.some Jvm.ClassFile.FieldType.boolean)) 0 := ⟨by decide +kernel, tw_569, tw_p4, tw_4, tw_570⟩
set_option maxHeartbeats 4000000 in
set_option maxRecDepth 100000 in
theorem c_X5_readValue (l : Launch) (D : va_G) (ad : Nat → Nat) (ca : Nat → ClassId) (kz : Nat → Nat) (hJ : pInj ad) (n : Nat) (σ : PS) (out : Int32 × PS) (hF : F_X5_readValue n σ = some out) : Met l yX5_readValue (Cond.code yX5_readValue cX5_readValue 3 (Option.some Jvm.ClassFile.FieldType.boolean) :: gw_tbl) { frames := 6, cells := 0, slots := 0, locals := 129 } (va_Pc [.ref (ad (4))] (pU D ad ca kz σ)) (pQi D ad ca out) 0 0 (pAD ad) := by
  refine q_entry (own := "AskedCamp$RuleReader") hJ (by decide) rfl (Nat.le_of_ble_eq_true rfl) (fun p e s m below meth c C hr hlk => ?_)
  refine q_lv [(0, .ref (ad (4)))] rfl ?_
  rw [F_X5_readValue] at hF
  refine q_aload_n C 0 dX5_readValue_0 rfl rfl ?_
  refine qg_4_2 C pi_4 tw_86 dX5_readValue_1 ?_
  refine qg_8_5 C pi_1 tw_49 dX5_readValue_4 ?_
  refine q_if_eq (tgt := 12) C dX5_readValue_7 (by decide) (fun c1 => ?_) (fun c1 => ?_)
  · replace hF := ift c1 hF
    refine q_aload_n C 0 dX5_readValue_12 rfl rfl ?_
    refine qg_4_2 C pi_4 tw_86 dX5_readValue_13 ?_
    obtain ⟨q2, h3, hF⟩ := bnd hF
    try dsimp only at hF
    refine q_callVv C [] (c_X9_takeWord l D ad ca kz C.2.2.2.2.2.2.1 _ _ _ h3) tw_559 gm_X9_takeWord pi_1.1 (pe_8 pi_1.2) rfl ⟨rfl, rfl⟩ ⟨Nat.le_of_ble_eq_true rfl, Nat.le_of_ble_eq_true rfl⟩ rfl (Nat.le_of_ble_eq_true rfl) dX5_readValue_16 q00 ?_
    refine q_aload_n C 0 dX5_readValue_19 rfl rfl ?_
    refine qg_4_2 C pi_4 tw_86 dX5_readValue_20 ?_
    refine qg_8_3 C pi_1 tw_43 dX5_readValue_23 ?_
    refine q_istore_n C [(1, .int (q2.1 1 3)), (0, .ref (ad (4)))] dX5_readValue_26 rfl (by decide) rfl ?_
    refine q_aload_n C 1 dX5_readValue_27 rfl rfl ?_
    refine qg_4_2 C pi_4 tw_86 dX5_readValue_28 ?_
    obtain ⟨q4, h5, hF⟩ := bnd hF
    try dsimp only at hF
    refine q_callSi C [.ref (ad (1))] (c_X3_ofWord l D ad ca kz C.2.2.2.2.2.2.1 _ _ _ h5) tw_571 gm_X3_ofWord ⟨rfl, rfl⟩ ⟨Nat.le_of_ble_eq_true rfl, Nat.le_of_ble_eq_true rfl⟩ rfl (Nat.le_of_ble_eq_true rfl) dX5_readValue_31 q00 ?_
    refine q_istore_n C [(2, .int q4.1), (1, .int (q2.1 1 3)), (0, .ref (ad (4)))] dX5_readValue_34 rfl (by decide) rfl ?_
    refine q_iload_n C 0 dX5_readValue_35 rfl rfl ?_
    refine q_if_ne (tgt := 65) C dX5_readValue_36 (by decide) (fun c6 => ?_) (fun c6 => ?_)
    · replace hF := ife c6 hF
      refine q_aload_n C 2 dX5_readValue_65 rfl rfl ?_
      refine q_iload_n C 1 dX5_readValue_66 rfl rfl ?_
      obtain ⟨q7, h8, hF⟩ := bnd hF
      try dsimp only at hF
      refine q_callVv C [.int (q2.1 1 3)] (c_X5_countOne l D ad ca kz C.2.2.2.2.2.2.1 _ _ _ _ h8) tw_592 gm_X5_countOne pi_4.1 (pe_4 pi_4.2) rfl ⟨rfl, rfl⟩ ⟨Nat.le_of_ble_eq_true rfl, Nat.le_of_ble_eq_true rfl⟩ rfl (Nat.le_of_ble_eq_true rfl) dX5_readValue_67 q00 ?_
      refine q_aload_n C 2 dX5_readValue_70 rfl rfl ?_
      refine q_iload_n C 0 dX5_readValue_71 rfl rfl ?_
      refine q_if_ne (tgt := 80) C dX5_readValue_72 (by decide) (fun c9 => ?_) (fun c9 => ?_)
      · replace hF := ife c9 hF
        refine q_iload_n C 0 dX5_readValue_80 rfl rfl ?_
        obtain ⟨q10, h11, hF⟩ := bnd hF
        try dsimp only at hF
        refine q_callVv C [.int q4.1] (c_X5_emit l D ad ca kz C.2.2.2.2.2.2.1 _ _ _ _ h11) tw_596 gm_X5_emit pi_4.1 (pe_4 pi_4.2) rfl ⟨rfl, rfl⟩ ⟨Nat.le_of_ble_eq_true rfl, Nat.le_of_ble_eq_true rfl⟩ rfl (Nat.le_of_ble_eq_true rfl) dX5_readValue_81 q00 ?_
        refine q_aload_n C 2 dX5_readValue_84 rfl rfl ?_
        refine qg_4_2 C pi_4 tw_86 dX5_readValue_85 ?_
        refine qg_8_5 C pi_1 tw_49 dX5_readValue_88 ?_
        refine q_if_ne (tgt := 98) C dX5_readValue_91 (by decide) (fun c12 => ?_) (fun c12 => ?_)
        · replace hF := ife c12 hF
          refine q_iconst (v := 0) C dX5_readValue_98 (by decide) ?_
          exact q_zret C hr hlk dX5_readValue_99 (by decide) hF
        · replace hF := ift c12 hF
          refine q_iconst (v := 1) C dX5_readValue_94 (by decide) ?_
          refine q_goto (tgt := 99) C dX5_readValue_95 (by decide) ?_
          exact q_zret C hr hlk dX5_readValue_99 (by decide) hF
      · replace hF := ift c9 hF
        refine q_bipush (v := -12) C dX5_readValue_75 (by decide) ?_
        refine q_goto (tgt := 81) C dX5_readValue_77 (by decide) ?_
        obtain ⟨q13, h14, hF⟩ := bnd hF
        try dsimp only at hF
        refine q_callVv C [.int (-12)] (c_X5_emit l D ad ca kz C.2.2.2.2.2.2.1 _ _ _ _ h14) tw_596 gm_X5_emit pi_4.1 (pe_4 pi_4.2) rfl ⟨rfl, rfl⟩ ⟨Nat.le_of_ble_eq_true rfl, Nat.le_of_ble_eq_true rfl⟩ rfl (Nat.le_of_ble_eq_true rfl) dX5_readValue_81 q00 ?_
        refine q_aload_n C 2 dX5_readValue_84 rfl rfl ?_
        refine qg_4_2 C pi_4 tw_86 dX5_readValue_85 ?_
        refine qg_8_5 C pi_1 tw_49 dX5_readValue_88 ?_
        refine q_if_ne (tgt := 98) C dX5_readValue_91 (by decide) (fun c15 => ?_) (fun c15 => ?_)
        · replace hF := ife c15 hF
          refine q_iconst (v := 0) C dX5_readValue_98 (by decide) ?_
          exact q_zret C hr hlk dX5_readValue_99 (by decide) hF
        · replace hF := ift c15 hF
          refine q_iconst (v := 1) C dX5_readValue_94 (by decide) ?_
          refine q_goto (tgt := 99) C dX5_readValue_95 (by decide) ?_
          exact q_zret C hr hlk dX5_readValue_99 (by decide) hF
    · replace hF := ift c6 hF
      refine q_aload_n C 2 dX5_readValue_39 rfl rfl ?_
      refine qg_4_2 C pi_4 tw_86 dX5_readValue_40 ?_
      obtain ⟨q16, h17, hF⟩ := bnd hF
      try dsimp only at hF
      refine q_callVv C [] (c_X9_putWordBack l D ad ca kz C.2.2.2.2.2.2.1 _ _ _ h17) tw_586 gm_X9_putWordBack pi_1.1 (pe_8 pi_1.2) rfl ⟨rfl, rfl⟩ ⟨Nat.le_of_ble_eq_true rfl, Nat.le_of_ble_eq_true rfl⟩ rfl (Nat.le_of_ble_eq_true rfl) dX5_readValue_43 q00 ?_
      refine q_aload_n C 2 dX5_readValue_46 rfl rfl ?_
      refine qg_4_2 C pi_4 tw_86 dX5_readValue_47 ?_
      refine q_iconst (v := 0) C dX5_readValue_50 (by decide) ?_
      refine q_ldc C dX5_readValue_51 tw_590 ?_
      obtain ⟨q18, h19, hF⟩ := bnd hF
      try dsimp only at hF
      refine q_callVi C [.int 0, .int 99999] (c_X9_takeNumber l D ad ca kz C.2.2.2.2.2.2.1 _ _ _ _ _ h19) tw_591 gm_X9_takeNumber pi_1.1 (pe_8 pi_1.2) rfl ⟨rfl, rfl⟩ ⟨Nat.le_of_ble_eq_true rfl, Nat.le_of_ble_eq_true rfl⟩ rfl (Nat.le_of_ble_eq_true rfl) dX5_readValue_53 q00 ?_
      refine q_pop C dX5_readValue_56 rfl ?_
      refine q_aload_n C 2 dX5_readValue_57 rfl rfl ?_
      refine qg_4_2 C pi_4 tw_86 dX5_readValue_58 ?_
      refine qg_8_4 C pi_1 tw_48 dX5_readValue_61 ?_
      refine q_istore_n C [(2, .int (q18.2.1 1 4)), (1, .int (q2.1 1 3)), (0, .ref (ad (4)))] dX5_readValue_64 rfl (by decide) rfl ?_
      refine q_aload_n C 2 dX5_readValue_65 rfl rfl ?_
      refine q_iload_n C 1 dX5_readValue_66 rfl rfl ?_
      obtain ⟨q20, h21, hF⟩ := bnd hF
      try dsimp only at hF
      refine q_callVv C [.int (q2.1 1 3)] (c_X5_countOne l D ad ca kz C.2.2.2.2.2.2.1 _ _ _ _ h21) tw_592 gm_X5_countOne pi_4.1 (pe_4 pi_4.2) rfl ⟨rfl, rfl⟩ ⟨Nat.le_of_ble_eq_true rfl, Nat.le_of_ble_eq_true rfl⟩ rfl (Nat.le_of_ble_eq_true rfl) dX5_readValue_67 q00 ?_
      refine q_aload_n C 2 dX5_readValue_70 rfl rfl ?_
      refine q_iload_n C 0 dX5_readValue_71 rfl rfl ?_
      refine q_if_ne (tgt := 80) C dX5_readValue_72 (by decide) (fun c22 => ?_) (fun c22 => ?_)
      · replace hF := ife c22 hF
        refine q_iload_n C 0 dX5_readValue_80 rfl rfl ?_
        obtain ⟨q23, h24, hF⟩ := bnd hF
        try dsimp only at hF
        refine q_callVv C [.int (q18.2.1 1 4)] (c_X5_emit l D ad ca kz C.2.2.2.2.2.2.1 _ _ _ _ h24) tw_596 gm_X5_emit pi_4.1 (pe_4 pi_4.2) rfl ⟨rfl, rfl⟩ ⟨Nat.le_of_ble_eq_true rfl, Nat.le_of_ble_eq_true rfl⟩ rfl (Nat.le_of_ble_eq_true rfl) dX5_readValue_81 q00 ?_
        refine q_aload_n C 2 dX5_readValue_84 rfl rfl ?_
        refine qg_4_2 C pi_4 tw_86 dX5_readValue_85 ?_
        refine qg_8_5 C pi_1 tw_49 dX5_readValue_88 ?_
        refine q_if_ne (tgt := 98) C dX5_readValue_91 (by decide) (fun c25 => ?_) (fun c25 => ?_)
        · replace hF := ife c25 hF
          refine q_iconst (v := 0) C dX5_readValue_98 (by decide) ?_
          exact q_zret C hr hlk dX5_readValue_99 (by decide) hF
        · replace hF := ift c25 hF
          refine q_iconst (v := 1) C dX5_readValue_94 (by decide) ?_
          refine q_goto (tgt := 99) C dX5_readValue_95 (by decide) ?_
          exact q_zret C hr hlk dX5_readValue_99 (by decide) hF
      · replace hF := ift c22 hF
        refine q_bipush (v := -12) C dX5_readValue_75 (by decide) ?_
        refine q_goto (tgt := 81) C dX5_readValue_77 (by decide) ?_
        obtain ⟨q26, h27, hF⟩ := bnd hF
        try dsimp only at hF
        refine q_callVv C [.int (-12)] (c_X5_emit l D ad ca kz C.2.2.2.2.2.2.1 _ _ _ _ h27) tw_596 gm_X5_emit pi_4.1 (pe_4 pi_4.2) rfl ⟨rfl, rfl⟩ ⟨Nat.le_of_ble_eq_true rfl, Nat.le_of_ble_eq_true rfl⟩ rfl (Nat.le_of_ble_eq_true rfl) dX5_readValue_81 q00 ?_
        refine q_aload_n C 2 dX5_readValue_84 rfl rfl ?_
        refine qg_4_2 C pi_4 tw_86 dX5_readValue_85 ?_
        refine qg_8_5 C pi_1 tw_49 dX5_readValue_88 ?_
        refine q_if_ne (tgt := 98) C dX5_readValue_91 (by decide) (fun c28 => ?_) (fun c28 => ?_)
        · replace hF := ife c28 hF
          refine q_iconst (v := 0) C dX5_readValue_98 (by decide) ?_
          exact q_zret C hr hlk dX5_readValue_99 (by decide) hF
        · replace hF := ift c28 hF
          refine q_iconst (v := 1) C dX5_readValue_94 (by decide) ?_
          refine q_goto (tgt := 99) C dX5_readValue_95 (by decide) ?_
          exact q_zret C hr hlk dX5_readValue_99 (by decide) hF
  · replace hF := ife c1 hF
    refine q_iconst (v := 0) C dX5_readValue_10 (by decide) ?_
    exact q_zret C hr hlk dX5_readValue_11 (by decide) hF
-- X5_readSum
def L_X5_readSum_6 (n : Nat) : Nat → Int32 → Int32 → Int32 → PS → Option (Nat × PS)
  | 0, _, _, _, _ => none
  | k + 1, x1, x2, x3, σ => (if (60 : Int32) < x3 then some (1, σ) else (F_X5_readValue n σ).bind (fun q2 => (if q2.1 = 0 then some (1, q2.2) else (F_X5_emit n x2 q2.2).bind (fun q5 => (F_X9_peek n q5).bind (fun q7 => (F_X3_ofMultiplying n q7.1 q7.2).bind (fun q9 => (if q9.1 = 0 then (F_X5_emit n x1 q9.2).bind (fun q12 => (F_X3_ofAdding n q7.1 q12).bind (fun q14 => (if q14.1 = 0 then some (0, q14.2) else L_X5_readSum_6 n k q14.1 q9.1 (x3 + 1) (psI q14.2 1 2 ((q14.2.1 1 2) + (1 : Int32)))))) else L_X5_readSum_6 n k x1 q9.1 (x3 + 1) (psI q9.2 1 2 ((q9.2.1 1 2) + (1 : Int32))))))))))
def F_X5_readSum (n : Nat) (σ : PS) : Option (PS) := (L_X5_readSum_6 n n (0 : Int32) (0 : Int32) (0 : Int32) σ).bind (fun o17 => (if o17.1 = 0 then some o17.2 else some o17.2))
theorem gm_X5_readSum : gM "AskedCamp$RuleReader" yX5_readSum (Cond.code yX5_readSum cX5_readSum 5 (Option.none : Option Jvm.ClassFile.FieldType)) 0 := ⟨by decide +kernel, tw_565, tw_p3, tw_4, tw_566⟩
set_option maxHeartbeats 4000000 in
set_option maxRecDepth 100000 in
theorem l_X5_readSum_6 {p : Program} {l : Launch} {e : Env} {R : Room} {s : State} {m : MethodId} {args : Array Value} {below : List Frame} {meth : Method} {c : Code} {D : va_G} {ad : Nat → Nat} {ca : Nat → ClassId} {kz : Nat → Nat} {Q : State → Prop} (C : pC p s m args c cX5_readSum "AskedCamp$RuleReader" 5 D ad ca kz) (hR : 7 ≤ R.frames ∧ 151 ≤ R.locals) {n : Nat} (o : Nat × PS) (hx0 : o.1 = 0 → PW p l e R s m args below meth c 5 D ad ca 0 0 Q (o.2) 58 [] []) (hx1 : o.1 = 1 → PW p l e R s m args below meth c 5 D ad ca 0 0 Q (o.2) 78 [] []) : ∀ (k : Nat) (x1 : Int32) (x2 : Int32) (x3 : Int32) (σ : PS), L_X5_readSum_6 n k x1 x2 x3 σ = some o → PW p l e R s m args below meth c 5 D ad ca 0 0 Q σ 6 [(0, .ref (ad (4))), (1, .int x1), (2, .int x2), (3, .int x3)] [] := by
  intro k
  induction k with
  | zero => intro x1 x2 x3 σ hF; exact nomatch (show (none : Option (Nat × PS)) = some o from hF)
  | succ k ih =>
    intro x1 x2 x3 σ hF
    rw [L_X5_readSum_6] at hF
    refine q_iload_n C 3 dX5_readSum_6 rfl rfl ?_
    refine q_bipush (v := 60) C dX5_readSum_7 (by decide) ?_
    refine q_icmp_gt (tgt := 78) C dX5_readSum_9 (by decide) (fun c1 => ?_) (fun c1 => ?_)
    · replace hF := ift c1 hF
      cases hF
      refine q_sub [] rfl ?_
      exact hx1 rfl
    · replace hF := ife c1 hF
      refine q_aload_n C 0 dX5_readSum_12 rfl rfl ?_
      obtain ⟨q2, h3, hF⟩ := bnd hF
      try dsimp only at hF
      refine q_callVi C [] (c_X5_readValue l D ad ca kz C.2.2.2.2.2.2.1 _ _ _ h3) tw_567 gm_X5_readValue pi_4.1 (pe_4 pi_4.2) rfl ⟨rfl, rfl⟩ ⟨Nat.le_trans (Nat.le_of_ble_eq_true rfl) hR.1, Nat.le_trans (Nat.le_of_ble_eq_true rfl) hR.2⟩ rfl (Nat.le_of_ble_eq_true rfl) dX5_readSum_13 q00 ?_
      refine q_if_eq (tgt := 78) C dX5_readSum_16 (by decide) (fun c4 => ?_) (fun c4 => ?_)
      · replace hF := ift c4 hF
        cases hF
        refine q_sub [] rfl ?_
        exact hx1 rfl
      · replace hF := ife c4 hF
        refine q_aload_n C 0 dX5_readSum_19 rfl rfl ?_
        refine q_iload_n C 2 dX5_readSum_20 rfl rfl ?_
        obtain ⟨q5, h6, hF⟩ := bnd hF
        try dsimp only at hF
        refine q_callVv C [.int x2] (c_X5_emit l D ad ca kz C.2.2.2.2.2.2.1 _ _ _ _ h6) tw_596 gm_X5_emit pi_4.1 (pe_4 pi_4.2) rfl ⟨rfl, rfl⟩ ⟨Nat.le_trans (Nat.le_of_ble_eq_true rfl) hR.1, Nat.le_trans (Nat.le_of_ble_eq_true rfl) hR.2⟩ rfl (Nat.le_of_ble_eq_true rfl) dX5_readSum_21 q00 ?_
        refine q_aload_n C 0 dX5_readSum_24 rfl rfl ?_
        refine qg_4_2 C pi_4 tw_86 dX5_readSum_25 ?_
        obtain ⟨q7, h8, hF⟩ := bnd hF
        try dsimp only at hF
        refine q_callVi C [] (c_X9_peek l D ad ca kz C.2.2.2.2.2.2.1 _ _ _ h8) tw_600 gm_X9_peek pi_1.1 (pe_8 pi_1.2) rfl ⟨rfl, rfl⟩ ⟨Nat.le_trans (Nat.le_of_ble_eq_true rfl) hR.1, Nat.le_trans (Nat.le_of_ble_eq_true rfl) hR.2⟩ rfl (Nat.le_of_ble_eq_true rfl) dX5_readSum_28 q00 ?_
        refine q_istore C [(4, .int q7.1), (0, .ref (ad (4))), (1, .int x1), (2, .int x2), (3, .int x3)] dX5_readSum_31 (by decide) rfl ?_
        refine q_iload C 0 dX5_readSum_33 rfl ?_
        obtain ⟨q9, h10, hF⟩ := bnd hF
        try dsimp only at hF
        refine q_callSi C [.int q7.1] (c_X3_ofMultiplying l D ad ca kz C.2.2.2.2.2.2.1 _ _ _ _ h10) tw_601 gm_X3_ofMultiplying ⟨rfl, rfl⟩ ⟨Nat.le_trans (Nat.le_of_ble_eq_true rfl) hR.1, Nat.le_trans (Nat.le_of_ble_eq_true rfl) hR.2⟩ rfl (Nat.le_of_ble_eq_true rfl) dX5_readSum_35 q00 ?_
        refine q_istore_n C [(2, .int q9.1), (4, .int q7.1), (0, .ref (ad (4))), (1, .int x1), (3, .int x3)] dX5_readSum_38 rfl (by decide) rfl ?_
        refine q_iload_n C 0 dX5_readSum_39 rfl rfl ?_
        refine q_if_ne (tgt := 59) C dX5_readSum_40 (by decide) (fun c11 => ?_) (fun c11 => ?_)
        · replace hF := ife c11 hF
          refine q_aload_n C 2 dX5_readSum_59 rfl rfl ?_
          refine qg_4_2 C pi_4 tw_86 dX5_readSum_60 ?_
          refine q_dup C dX5_readSum_63 rfl ?_
          refine qg_8_2 C pi_1 tw_42 dX5_readSum_64 ?_
          refine q_iconst (v := 1) C dX5_readSum_67 (by decide) ?_
          refine q_iadd C dX5_readSum_68 ?_
          refine qs_8_2 C pi_1 tw_42 dX5_readSum_69 ?_
          refine q_iinc C 4 [(3, .int (x3 + 1)), (2, .int q9.1), (4, .int q7.1), (0, .ref (ad (4))), (1, .int x1)] dX5_readSum_72 rfl rfl (by decide) rfl ?_
          refine q_goto (tgt := 6) C dX5_readSum_75 (by decide) ?_
          refine q_sub [3, 4, 1, 0] rfl ?_
          exact ih _ _ _ _ hF
        · replace hF := ift c11 hF
          refine q_aload_n C 2 dX5_readSum_43 rfl rfl ?_
          refine q_iload_n C 3 dX5_readSum_44 rfl rfl ?_
          obtain ⟨q12, h13, hF⟩ := bnd hF
          try dsimp only at hF
          refine q_callVv C [.int x1] (c_X5_emit l D ad ca kz C.2.2.2.2.2.2.1 _ _ _ _ h13) tw_596 gm_X5_emit pi_4.1 (pe_4 pi_4.2) rfl ⟨rfl, rfl⟩ ⟨Nat.le_trans (Nat.le_of_ble_eq_true rfl) hR.1, Nat.le_trans (Nat.le_of_ble_eq_true rfl) hR.2⟩ rfl (Nat.le_of_ble_eq_true rfl) dX5_readSum_45 q00 ?_
          refine q_iload C 1 dX5_readSum_48 rfl ?_
          obtain ⟨q14, h15, hF⟩ := bnd hF
          try dsimp only at hF
          refine q_callSi C [.int q7.1] (c_X3_ofAdding l D ad ca kz C.2.2.2.2.2.2.1 _ _ _ _ h15) tw_604 gm_X3_ofAdding ⟨rfl, rfl⟩ ⟨Nat.le_trans (Nat.le_of_ble_eq_true rfl) hR.1, Nat.le_trans (Nat.le_of_ble_eq_true rfl) hR.2⟩ rfl (Nat.le_of_ble_eq_true rfl) dX5_readSum_50 q00 ?_
          refine q_istore_n C [(1, .int q14.1), (2, .int q9.1), (4, .int q7.1), (0, .ref (ad (4))), (3, .int x3)] dX5_readSum_53 rfl (by decide) rfl ?_
          refine q_iload_n C 0 dX5_readSum_54 rfl rfl ?_
          refine q_if_ne (tgt := 59) C dX5_readSum_55 (by decide) (fun c16 => ?_) (fun c16 => ?_)
          · replace hF := ife c16 hF
            refine q_aload_n C 3 dX5_readSum_59 rfl rfl ?_
            refine qg_4_2 C pi_4 tw_86 dX5_readSum_60 ?_
            refine q_dup C dX5_readSum_63 rfl ?_
            refine qg_8_2 C pi_1 tw_42 dX5_readSum_64 ?_
            refine q_iconst (v := 1) C dX5_readSum_67 (by decide) ?_
            refine q_iadd C dX5_readSum_68 ?_
            refine qs_8_2 C pi_1 tw_42 dX5_readSum_69 ?_
            refine q_iinc C 4 [(3, .int (x3 + 1)), (1, .int q14.1), (2, .int q9.1), (4, .int q7.1), (0, .ref (ad (4)))] dX5_readSum_72 rfl rfl (by decide) rfl ?_
            refine q_goto (tgt := 6) C dX5_readSum_75 (by decide) ?_
            refine q_sub [4, 1, 2, 0] rfl ?_
            exact ih _ _ _ _ hF
          · replace hF := ift c16 hF
            cases hF
            refine q_sub [] rfl ?_
            exact hx0 rfl
set_option maxHeartbeats 4000000 in
set_option maxRecDepth 100000 in
theorem c_X5_readSum (l : Launch) (D : va_G) (ad : Nat → Nat) (ca : Nat → ClassId) (kz : Nat → Nat) (hJ : pInj ad) (n : Nat) (σ : PS) (out : PS) (hF : F_X5_readSum n σ = some out) : Met l yX5_readSum (Cond.code yX5_readSum cX5_readSum 5 (Option.none : Option Jvm.ClassFile.FieldType) :: gw_tbl) { frames := 7, cells := 0, slots := 0, locals := 151 } (va_Pc [.ref (ad (4))] (pU D ad ca kz σ)) (pQv D ad ca out) 0 0 (pAD ad) := by
  refine q_entry (own := "AskedCamp$RuleReader") hJ (by decide) rfl (Nat.le_of_ble_eq_true rfl) (fun p e s m below meth c C hr hlk => ?_)
  refine q_lv [(0, .ref (ad (4)))] rfl ?_
  rw [F_X5_readSum] at hF
  refine q_iconst (v := 0) C dX5_readSum_0 (by decide) ?_
  refine q_istore_n C [(1, .int 0), (0, .ref (ad (4)))] dX5_readSum_1 rfl (by decide) rfl ?_
  refine q_iconst (v := 0) C dX5_readSum_2 (by decide) ?_
  refine q_istore_n C [(2, .int 0), (1, .int 0), (0, .ref (ad (4)))] dX5_readSum_3 rfl (by decide) rfl ?_
  refine q_iconst (v := 0) C dX5_readSum_4 (by decide) ?_
  refine q_istore_n C [(3, .int 0), (2, .int 0), (1, .int 0), (0, .ref (ad (4)))] dX5_readSum_5 rfl (by decide) rfl ?_
  obtain ⟨o17, h18, hF⟩ := bnd hF
  try dsimp only at hF
  refine q_sub [3, 2, 1, 0] rfl ?_
  refine l_X5_readSum_6 C ⟨Nat.le_of_ble_eq_true rfl, Nat.le_of_ble_eq_true rfl⟩ o17 (fun eo17_0 => ?_) (fun eo17_1 => ?_) n _ _ _ _ h18
  · -- exit 0
    replace hF := ift eo17_0 hF
    exact q_vret C hr hlk dX5_readSum_58 hF
  · -- exit 1
    replace hF := ife (by rw [eo17_1]; decide) hF
    exact q_vret C hr hlk dX5_readSum_78 hF
-- X5_popDownTo
def L_X5_popDownTo_7 (n : Nat) : Nat → Int32 → Int32 → PS → Option (Nat × PS)
  | 0, _, _, _ => none
  | k + 1, x1, x2, σ => (if x2 < 0 then some (1, σ) else (if 0 ≤ x2 ∧ x2.toNatClampNeg < 33 then (if (σ.1 6 x2.toNatClampNeg) = (-33 : Int32) then some (0, σ) else (if (σ.1 6 x2.toNatClampNeg) ≤ x1 then (if (σ.1 6 x2.toNatClampNeg) = (-36 : Int32) then (F_X5_emit n (σ.1 6 x2.toNatClampNeg) (psI σ 4 5 ((σ.1 4 5) - (1 : Int32)))).bind (fun q8 => L_X5_popDownTo_7 n k x1 (x2 + (-1)) (psI q8 4 4 x2)) else (F_X5_emit n (σ.1 6 x2.toNatClampNeg) σ).bind (fun q6 => L_X5_popDownTo_7 n k x1 (x2 + (-1)) (psI q6 4 4 x2))) else some (0, σ))) else none))
def F_X5_popDownTo (n : Nat) (a1 : Int32) (σ : PS) : Option (PS) := (L_X5_popDownTo_7 n n a1 ((σ.1 4 4) - (1 : Int32)) σ).bind (fun o10 => (if o10.1 = 0 then some o10.2 else some o10.2))
theorem gm_X5_popDownTo : gM "AskedCamp$RuleReader" yX5_popDownTo (Cond.code yX5_popDownTo cX5_popDownTo 4 (Option.none : Option Jvm.ClassFile.FieldType)) 1 := ⟨by decide +kernel, tw_638, tw_p13, tw_4, tw_639⟩
set_option maxHeartbeats 4000000 in
set_option maxRecDepth 100000 in
theorem l_X5_popDownTo_7 {p : Program} {l : Launch} {e : Env} {R : Room} {s : State} {m : MethodId} {args : Array Value} {below : List Frame} {meth : Method} {c : Code} {D : va_G} {ad : Nat → Nat} {ca : Nat → ClassId} {kz : Nat → Nat} {Q : State → Prop} (C : pC p s m args c cX5_popDownTo "AskedCamp$RuleReader" 4 D ad ca kz) (hR : 1 ≤ R.frames ∧ 21 ≤ R.locals) {n : Nat} (o : Nat × PS) (hx0 : o.1 = 0 → PW p l e R s m args below meth c 4 D ad ca 0 0 Q (o.2) 29 [] []) (hx1 : o.1 = 1 → PW p l e R s m args below meth c 4 D ad ca 0 0 Q (o.2) 62 [] []) : ∀ (k : Nat) (x1 : Int32) (x2 : Int32) (σ : PS), L_X5_popDownTo_7 n k x1 x2 σ = some o → PW p l e R s m args below meth c 4 D ad ca 0 0 Q σ 7 [(0, .ref (ad (4))), (1, .int x1), (2, .int x2)] [] := by
  intro k
  induction k with
  | zero => intro x1 x2 σ hF; exact nomatch (show (none : Option (Nat × PS)) = some o from hF)
  | succ k ih =>
    intro x1 x2 σ hF
    rw [L_X5_popDownTo_7] at hF
    refine q_iload_n C 2 dX5_popDownTo_7 rfl rfl ?_
    refine q_if_lt (tgt := 62) C dX5_popDownTo_8 (by decide) (fun c1 => ?_) (fun c1 => ?_)
    · replace hF := ift c1 hF
      cases hF
      refine q_sub [] rfl ?_
      exact hx1 rfl
    · replace hF := ife c1 hF
      refine q_aload_n C 0 dX5_popDownTo_11 rfl rfl ?_
      refine qg_4_3 C pi_4 tw_87 dX5_popDownTo_12 ?_
      refine q_iload_n C 2 dX5_popDownTo_15 rfl rfl ?_
      obtain ⟨g2, hF⟩ := grd hF
      refine q_iald C pa_6 (vp_of g2) dX5_popDownTo_16 ?_
      refine q_istore_n C [(3, .int (σ.1 6 x2.toNatClampNeg)), (0, .ref (ad (4))), (1, .int x1), (2, .int x2)] dX5_popDownTo_17 rfl (by decide) rfl ?_
      refine q_iload_n C 0 dX5_popDownTo_18 rfl rfl ?_
      refine q_bipush (v := -33) C dX5_popDownTo_19 (by decide) ?_
      refine q_icmp_eq (tgt := 29) C dX5_popDownTo_21 (by decide) (fun c3 => ?_) (fun c3 => ?_)
      · replace hF := ift c3 hF
        cases hF
        refine q_sub [] rfl ?_
        exact hx0 rfl
      · replace hF := ife c3 hF
        refine q_iload_n C 0 dX5_popDownTo_24 rfl rfl ?_
        refine q_iload_n C 2 dX5_popDownTo_25 rfl rfl ?_
        refine q_icmp_le (tgt := 30) C dX5_popDownTo_26 (by decide) (fun c4 => ?_) (fun c4 => ?_)
        · replace hF := ift c4 hF
          refine q_iload_n C 0 dX5_popDownTo_30 rfl rfl ?_
          refine q_bipush (v := -36) C dX5_popDownTo_31 (by decide) ?_
          refine q_icmp_ne (tgt := 46) C dX5_popDownTo_33 (by decide) (fun c5 => ?_) (fun c5 => ?_)
          · replace hF := ife c5 hF
            refine q_aload_n C 1 dX5_popDownTo_46 rfl rfl ?_
            refine q_iload_n C 0 dX5_popDownTo_47 rfl rfl ?_
            obtain ⟨q6, h7, hF⟩ := bnd hF
            try dsimp only at hF
            refine q_callVv C [.int (σ.1 6 x2.toNatClampNeg)] (c_X5_emit l D ad ca kz C.2.2.2.2.2.2.1 _ _ _ _ h7) tw_596 gm_X5_emit pi_4.1 (pe_4 pi_4.2) rfl ⟨rfl, rfl⟩ ⟨Nat.le_trans (Nat.le_of_ble_eq_true rfl) hR.1, Nat.le_trans (Nat.le_of_ble_eq_true rfl) hR.2⟩ rfl (Nat.le_of_ble_eq_true rfl) dX5_popDownTo_48 q00 ?_
            refine q_aload_n C 1 dX5_popDownTo_51 rfl rfl ?_
            refine q_iload_n C 3 dX5_popDownTo_52 rfl rfl ?_
            refine qs_4_4 C pi_4 tw_88 dX5_popDownTo_53 ?_
            refine q_iinc C 3 [(2, .int (x2 + (-1))), (3, .int (σ.1 6 x2.toNatClampNeg)), (0, .ref (ad (4))), (1, .int x1)] dX5_popDownTo_56 rfl rfl (by decide) rfl ?_
            refine q_goto (tgt := 7) C dX5_popDownTo_59 (by decide) ?_
            refine q_sub [2, 3, 0] rfl ?_
            exact ih _ _ _ hF
          · replace hF := ift c5 hF
            refine q_aload_n C 1 dX5_popDownTo_36 rfl rfl ?_
            refine q_dup C dX5_popDownTo_37 rfl ?_
            refine qg_4_5 C pi_4 tw_89 dX5_popDownTo_38 ?_
            refine q_iconst (v := 1) C dX5_popDownTo_41 (by decide) ?_
            refine q_isub C dX5_popDownTo_42 ?_
            refine qs_4_5 C pi_4 tw_89 dX5_popDownTo_43 ?_
            refine q_aload_n C 1 dX5_popDownTo_46 rfl rfl ?_
            refine q_iload_n C 0 dX5_popDownTo_47 rfl rfl ?_
            obtain ⟨q8, h9, hF⟩ := bnd hF
            try dsimp only at hF
            refine q_callVv C [.int (σ.1 6 x2.toNatClampNeg)] (c_X5_emit l D ad ca kz C.2.2.2.2.2.2.1 _ _ _ _ h9) tw_596 gm_X5_emit pi_4.1 (pe_4 pi_4.2) rfl ⟨rfl, rfl⟩ ⟨Nat.le_trans (Nat.le_of_ble_eq_true rfl) hR.1, Nat.le_trans (Nat.le_of_ble_eq_true rfl) hR.2⟩ rfl (Nat.le_of_ble_eq_true rfl) dX5_popDownTo_48 q00 ?_
            refine q_aload_n C 1 dX5_popDownTo_51 rfl rfl ?_
            refine q_iload_n C 3 dX5_popDownTo_52 rfl rfl ?_
            refine qs_4_4 C pi_4 tw_88 dX5_popDownTo_53 ?_
            refine q_iinc C 3 [(2, .int (x2 + (-1))), (3, .int (σ.1 6 x2.toNatClampNeg)), (0, .ref (ad (4))), (1, .int x1)] dX5_popDownTo_56 rfl rfl (by decide) rfl ?_
            refine q_goto (tgt := 7) C dX5_popDownTo_59 (by decide) ?_
            refine q_sub [2, 3, 0] rfl ?_
            exact ih _ _ _ hF
        · replace hF := ife c4 hF
          cases hF
          refine q_sub [] rfl ?_
          exact hx0 rfl
set_option maxHeartbeats 4000000 in
set_option maxRecDepth 100000 in
theorem c_X5_popDownTo (l : Launch) (D : va_G) (ad : Nat → Nat) (ca : Nat → ClassId) (kz : Nat → Nat) (hJ : pInj ad) (n : Nat) (a1 : Int32) (σ : PS) (out : PS) (hF : F_X5_popDownTo n a1 σ = some out) : Met l yX5_popDownTo (Cond.code yX5_popDownTo cX5_popDownTo 4 (Option.none : Option Jvm.ClassFile.FieldType) :: gw_tbl) { frames := 1, cells := 0, slots := 0, locals := 21 } (va_Pc [.ref (ad (4)), .int a1] (pU D ad ca kz σ)) (pQv D ad ca out) 0 0 (pAD ad) := by
  refine q_entry (own := "AskedCamp$RuleReader") hJ (by decide) rfl (Nat.le_of_ble_eq_true rfl) (fun p e s m below meth c C hr hlk => ?_)
  refine q_lv [(0, .ref (ad (4))), (1, .int a1)] rfl ?_
  rw [F_X5_popDownTo] at hF
  refine q_aload_n C 0 dX5_popDownTo_0 rfl rfl ?_
  refine qg_4_4 C pi_4 tw_88 dX5_popDownTo_1 ?_
  refine q_iconst (v := 1) C dX5_popDownTo_4 (by decide) ?_
  refine q_isub C dX5_popDownTo_5 ?_
  refine q_istore_n C [(2, .int ((σ.1 4 4) - (1 : Int32))), (0, .ref (ad (4))), (1, .int a1)] dX5_popDownTo_6 rfl (by decide) rfl ?_
  obtain ⟨o10, h11, hF⟩ := bnd hF
  try dsimp only at hF
  refine q_sub [1, 2, 0] rfl ?_
  refine l_X5_popDownTo_7 C ⟨Nat.le_of_ble_eq_true rfl, Nat.le_of_ble_eq_true rfl⟩ o10 (fun eo10_0 => ?_) (fun eo10_1 => ?_) n _ _ _ h11
  · -- exit 0
    replace hF := ift eo10_0 hF
    exact q_vret C hr hlk dX5_popDownTo_29 hF
  · -- exit 1
    replace hF := ife (by rw [eo10_1]; decide) hF
    exact q_vret C hr hlk dX5_popDownTo_62 hF
-- X5_push
def F_X5_push (n : Nat) (a1 : Int32) (σ : PS) : Option (PS) := (if (Int32.ofNat 33) ≤ (σ.1 4 4) then some σ else (if 0 ≤ (σ.1 4 4) ∧ (σ.1 4 4).toNatClampNeg < 33 then some (psI (psI σ 6 ((σ.1 4 4).toNatClampNeg) a1) 4 4 (((psI σ 6 ((σ.1 4 4).toNatClampNeg) a1).1 4 4) + (1 : Int32))) else none))
theorem gm_X5_push : gM "AskedCamp$RuleReader" yX5_push (Cond.code yX5_push cX5_push 2 (Option.none : Option Jvm.ClassFile.FieldType)) 1 := ⟨by decide +kernel, tw_623, tw_p10, tw_4, tw_624⟩
set_option maxHeartbeats 4000000 in
set_option maxRecDepth 100000 in
theorem c_X5_push (l : Launch) (D : va_G) (ad : Nat → Nat) (ca : Nat → ClassId) (kz : Nat → Nat) (hJ : pInj ad) (n : Nat) (a1 : Int32) (σ : PS) (out : PS) (hF : F_X5_push n a1 σ = some out) : Met l yX5_push (Cond.code yX5_push cX5_push 2 (Option.none : Option Jvm.ClassFile.FieldType) :: gw_tbl) { frames := 0, cells := 0, slots := 0, locals := 0 } (va_Pc [.ref (ad (4)), .int a1] (pU D ad ca kz σ)) (pQv D ad ca out) 0 0 (pAD ad) := by
  refine q_entry (own := "AskedCamp$RuleReader") hJ (by decide) rfl (Nat.le_of_ble_eq_true rfl) (fun p e s m below meth c C hr hlk => ?_)
  refine q_lv [(0, .ref (ad (4))), (1, .int a1)] rfl ?_
  rw [F_X5_push] at hF
  refine q_aload_n C 0 dX5_push_0 rfl rfl ?_
  refine qg_4_4 C pi_4 tw_88 dX5_push_1 ?_
  refine q_aload_n C 0 dX5_push_4 rfl rfl ?_
  refine qg_4_3 C pi_4 tw_87 dX5_push_5 ?_
  refine q_alen21 C pa_6 dX5_push_8 ?_
  refine q_icmp_ge (tgt := 32) C dX5_push_9 (by decide) (fun c1 => ?_) (fun c1 => ?_)
  · replace hF := ift c1 hF
    exact q_vret C hr hlk dX5_push_32 hF
  · replace hF := ife c1 hF
    refine q_aload_n C 0 dX5_push_12 rfl rfl ?_
    refine qg_4_3 C pi_4 tw_87 dX5_push_13 ?_
    refine q_aload_n C 0 dX5_push_16 rfl rfl ?_
    refine qg_4_4 C pi_4 tw_88 dX5_push_17 ?_
    refine q_iload_n C 1 dX5_push_20 rfl rfl ?_
    obtain ⟨g2, hF⟩ := grd hF
    refine q_iast C pa_6 (vp_of g2) dX5_push_21 ?_
    refine q_aload_n C 0 dX5_push_22 rfl rfl ?_
    refine q_dup C dX5_push_23 rfl ?_
    refine qg_4_4 C pi_4 tw_88 dX5_push_24 ?_
    refine q_iconst (v := 1) C dX5_push_27 (by decide) ?_
    refine q_iadd C dX5_push_28 ?_
    refine qs_4_4 C pi_4 tw_88 dX5_push_29 ?_
    exact q_vret C hr hlk dX5_push_32 hF
-- X5_closeFact
def L_X5_closeFact_2 (n : Nat) : Nat → Int32 → PS → Option (Nat × PS)
  | 0, _, _ => none
  | k + 1, x1, σ => (if (10 : Int32) < x1 then some (1, σ) else (F_X5_popDownTo n (-36 : Int32) σ).bind (fun q2 => (if (q2.1 4 6) = 0 then some (1, q2) else (F_X9_peek n q2).bind (fun q5 => (if q5.1 = (93 : Int32) then (F_X5_popDownTo n (-34 : Int32) (psI q5.2 1 2 ((q5.2.1 1 2) + (1 : Int32)))).bind (fun q8 => L_X5_closeFact_2 n k (x1 + 1) (psI (psI (psI q8 4 4 (if ((q8.1 4 4) - (1 : Int32)) < (0 : Int32) then (0 : Int32) else ((q8.1 4 4) - (1 : Int32)))) 4 5 (((psI q8 4 4 (if ((q8.1 4 4) - (1 : Int32)) < (0 : Int32) then (0 : Int32) else ((q8.1 4 4) - (1 : Int32)))).1 4 5) - (1 : Int32))) 4 6 (((psI (psI q8 4 4 (if ((q8.1 4 4) - (1 : Int32)) < (0 : Int32) then (0 : Int32) else ((q8.1 4 4) - (1 : Int32)))) 4 5 (((psI q8 4 4 (if ((q8.1 4 4) - (1 : Int32)) < (0 : Int32) then (0 : Int32) else ((q8.1 4 4) - (1 : Int32)))).1 4 5) - (1 : Int32))).1 4 6) - (1 : Int32)))) else some (0, q5.2))))))
def F_X5_closeFact (n : Nat) (σ : PS) : Option (Int32 × PS) := (L_X5_closeFact_2 n n (0 : Int32) σ).bind (fun o10 => (if o10.1 = 0 then (F_X9_takeWord n o10.2).bind (fun q12 => (F_X9_wordIs n 6 q12).bind (fun q14 => (if q14.1 = 0 then (F_X5_popDownTo n (-34 : Int32) q14.2).bind (fun q17 => (F_X9_wordIs n 7 q17).bind (fun q19 => (if q19.1 = 0 then (F_X9_putWordBack n q19.2).bind (fun q22 => (if (q22.1 4 6) ≤ 0 then some ((0 : Int32), q22) else (F_X9_fail n (q22.1 1 2) (0 : Int32) q22).bind (fun q25 => some ((0 : Int32), q25)))) else (F_X5_push n (-34 : Int32) q19.2).bind (fun q27 => some ((1 : Int32), q27))))) else (F_X5_popDownTo n (-35 : Int32) q14.2).bind (fun q29 => (F_X5_push n (-35 : Int32) q29).bind (fun q31 => some ((1 : Int32), q31)))))) else (F_X9_takeWord n o10.2).bind (fun q33 => (F_X9_wordIs n 6 q33).bind (fun q35 => (if q35.1 = 0 then (F_X5_popDownTo n (-34 : Int32) q35.2).bind (fun q38 => (F_X9_wordIs n 7 q38).bind (fun q40 => (if q40.1 = 0 then (F_X9_putWordBack n q40.2).bind (fun q43 => (if (q43.1 4 6) ≤ 0 then some ((0 : Int32), q43) else (F_X9_fail n (q43.1 1 2) (0 : Int32) q43).bind (fun q46 => some ((0 : Int32), q46)))) else (F_X5_push n (-34 : Int32) q40.2).bind (fun q48 => some ((1 : Int32), q48))))) else (F_X5_popDownTo n (-35 : Int32) q35.2).bind (fun q50 => (F_X5_push n (-35 : Int32) q50).bind (fun q52 => some ((1 : Int32), q52))))))))
theorem gm_X5_closeFact : gM "AskedCamp$RuleReader" yX5_closeFact (Cond.code yX5_closeFact cX5_closeFact 2 (Option.some Jvm.ClassFile.FieldType.boolean)) 0 := ⟨by decide +kernel, tw_634, tw_p12, tw_4, tw_635⟩
set_option maxHeartbeats 4000000 in
set_option maxRecDepth 100000 in
theorem l_X5_closeFact_2 {p : Program} {l : Launch} {e : Env} {R : Room} {s : State} {m : MethodId} {args : Array Value} {below : List Frame} {meth : Method} {c : Code} {D : va_G} {ad : Nat → Nat} {ca : Nat → ClassId} {kz : Nat → Nat} {Q : State → Prop} (C : pC p s m args c cX5_closeFact "AskedCamp$RuleReader" 2 D ad ca kz) (hR : 5 ≤ R.frames ∧ 109 ≤ R.locals) {n : Nat} (o : Nat × PS) (hx0 : o.1 = 0 → PW p l e R s m args below meth c 2 D ad ca 0 0 Q (o.2) 33 [(0, .ref (ad (4)))] []) (hx1 : o.1 = 1 → PW p l e R s m args below meth c 2 D ad ca 0 0 Q (o.2) 95 [(0, .ref (ad (4)))] []) : ∀ (k : Nat) (x1 : Int32) (σ : PS), L_X5_closeFact_2 n k x1 σ = some o → PW p l e R s m args below meth c 2 D ad ca 0 0 Q σ 2 [(0, .ref (ad (4))), (1, .int x1)] [] := by
  intro k
  induction k with
  | zero => intro x1 σ hF; exact nomatch (show (none : Option (Nat × PS)) = some o from hF)
  | succ k ih =>
    intro x1 σ hF
    rw [L_X5_closeFact_2] at hF
    refine q_iload_n C 1 dX5_closeFact_2 rfl rfl ?_
    refine q_bipush (v := 10) C dX5_closeFact_3 (by decide) ?_
    refine q_icmp_gt (tgt := 95) C dX5_closeFact_5 (by decide) (fun c1 => ?_) (fun c1 => ?_)
    · replace hF := ift c1 hF
      cases hF
      refine q_sub [0] rfl ?_
      exact hx1 rfl
    · replace hF := ife c1 hF
      refine q_aload_n C 0 dX5_closeFact_8 rfl rfl ?_
      refine q_bipush (v := -36) C dX5_closeFact_9 (by decide) ?_
      obtain ⟨q2, h3, hF⟩ := bnd hF
      try dsimp only at hF
      refine q_callVv C [.int (-36)] (c_X5_popDownTo l D ad ca kz C.2.2.2.2.2.2.1 _ _ _ _ h3) tw_636 gm_X5_popDownTo pi_4.1 (pe_4 pi_4.2) rfl ⟨rfl, rfl⟩ ⟨Nat.le_trans (Nat.le_of_ble_eq_true rfl) hR.1, Nat.le_trans (Nat.le_of_ble_eq_true rfl) hR.2⟩ rfl (Nat.le_of_ble_eq_true rfl) dX5_closeFact_11 q00 ?_
      refine q_aload_n C 0 dX5_closeFact_14 rfl rfl ?_
      refine qg_4_6 C pi_4 tw_90 dX5_closeFact_15 ?_
      refine q_if_eq (tgt := 95) C dX5_closeFact_18 (by decide) (fun c4 => ?_) (fun c4 => ?_)
      · replace hF := ift c4 hF
        cases hF
        refine q_sub [0] rfl ?_
        exact hx1 rfl
      · replace hF := ife c4 hF
        refine q_aload_n C 0 dX5_closeFact_21 rfl rfl ?_
        refine qg_4_2 C pi_4 tw_86 dX5_closeFact_22 ?_
        obtain ⟨q5, h6, hF⟩ := bnd hF
        try dsimp only at hF
        refine q_callVi C [] (c_X9_peek l D ad ca kz C.2.2.2.2.2.2.1 _ _ _ h6) tw_600 gm_X9_peek pi_1.1 (pe_8 pi_1.2) rfl ⟨rfl, rfl⟩ ⟨Nat.le_trans (Nat.le_of_ble_eq_true rfl) hR.1, Nat.le_trans (Nat.le_of_ble_eq_true rfl) hR.2⟩ rfl (Nat.le_of_ble_eq_true rfl) dX5_closeFact_25 q00 ?_
        refine q_bipush (v := 93) C dX5_closeFact_28 (by decide) ?_
        refine q_icmp_eq (tgt := 36) C dX5_closeFact_30 (by decide) (fun c7 => ?_) (fun c7 => ?_)
        · replace hF := ift c7 hF
          refine q_aload_n C 0 dX5_closeFact_36 rfl rfl ?_
          refine qg_4_2 C pi_4 tw_86 dX5_closeFact_37 ?_
          refine q_dup C dX5_closeFact_40 rfl ?_
          refine qg_8_2 C pi_1 tw_42 dX5_closeFact_41 ?_
          refine q_iconst (v := 1) C dX5_closeFact_44 (by decide) ?_
          refine q_iadd C dX5_closeFact_45 ?_
          refine qs_8_2 C pi_1 tw_42 dX5_closeFact_46 ?_
          refine q_aload_n C 0 dX5_closeFact_49 rfl rfl ?_
          refine q_bipush (v := -34) C dX5_closeFact_50 (by decide) ?_
          obtain ⟨q8, h9, hF⟩ := bnd hF
          try dsimp only at hF
          refine q_callVv C [.int (-34)] (c_X5_popDownTo l D ad ca kz C.2.2.2.2.2.2.1 _ _ _ _ h9) tw_636 gm_X5_popDownTo pi_4.1 (pe_4 pi_4.2) rfl ⟨rfl, rfl⟩ ⟨Nat.le_trans (Nat.le_of_ble_eq_true rfl) hR.1, Nat.le_trans (Nat.le_of_ble_eq_true rfl) hR.2⟩ rfl (Nat.le_of_ble_eq_true rfl) dX5_closeFact_52 q00 ?_
          refine q_aload_n C 0 dX5_closeFact_55 rfl rfl ?_
          refine q_aload_n C 0 dX5_closeFact_56 rfl rfl ?_
          refine qg_4_4 C pi_4 tw_88 dX5_closeFact_57 ?_
          refine q_iconst (v := 1) C dX5_closeFact_60 (by decide) ?_
          refine q_isub C dX5_closeFact_61 ?_
          refine q_iconst (v := 0) C dX5_closeFact_62 (by decide) ?_
          refine q_mmax C tw_640 ⟨Nat.le_trans (Nat.le_of_ble_eq_true rfl) hR.1, Nat.le_trans (Nat.le_of_ble_eq_true rfl) hR.2⟩ dX5_closeFact_63 ?_
          refine qs_4_4 C pi_4 tw_88 dX5_closeFact_66 ?_
          refine q_aload_n C 0 dX5_closeFact_69 rfl rfl ?_
          refine q_dup C dX5_closeFact_70 rfl ?_
          refine qg_4_5 C pi_4 tw_89 dX5_closeFact_71 ?_
          refine q_iconst (v := 1) C dX5_closeFact_74 (by decide) ?_
          refine q_isub C dX5_closeFact_75 ?_
          refine qs_4_5 C pi_4 tw_89 dX5_closeFact_76 ?_
          refine q_aload_n C 0 dX5_closeFact_79 rfl rfl ?_
          refine q_dup C dX5_closeFact_80 rfl ?_
          refine qg_4_6 C pi_4 tw_90 dX5_closeFact_81 ?_
          refine q_iconst (v := 1) C dX5_closeFact_84 (by decide) ?_
          refine q_isub C dX5_closeFact_85 ?_
          refine qs_4_6 C pi_4 tw_90 dX5_closeFact_86 ?_
          refine q_iinc C 1 [(1, .int (x1 + 1)), (0, .ref (ad (4)))] dX5_closeFact_89 rfl rfl (by decide) rfl ?_
          refine q_goto (tgt := 2) C dX5_closeFact_92 (by decide) ?_
          refine q_sub [1, 0] rfl ?_
          exact ih _ _ hF
        · replace hF := ife c7 hF
          cases hF
          refine q_sub [0] rfl ?_
          exact hx0 rfl
set_option maxHeartbeats 4000000 in
set_option maxRecDepth 100000 in
theorem c_X5_closeFact (l : Launch) (D : va_G) (ad : Nat → Nat) (ca : Nat → ClassId) (kz : Nat → Nat) (hJ : pInj ad) (n : Nat) (σ : PS) (out : Int32 × PS) (hF : F_X5_closeFact n σ = some out) : Met l yX5_closeFact (Cond.code yX5_closeFact cX5_closeFact 2 (Option.some Jvm.ClassFile.FieldType.boolean) :: gw_tbl) { frames := 5, cells := 0, slots := 0, locals := 109 } (va_Pc [.ref (ad (4))] (pU D ad ca kz σ)) (pQi D ad ca out) 0 0 (pAD ad) := by
  refine q_entry (own := "AskedCamp$RuleReader") hJ (by decide) rfl (Nat.le_of_ble_eq_true rfl) (fun p e s m below meth c C hr hlk => ?_)
  refine q_lv [(0, .ref (ad (4)))] rfl ?_
  rw [F_X5_closeFact] at hF
  refine q_iconst (v := 0) C dX5_closeFact_0 (by decide) ?_
  refine q_istore_n C [(1, .int 0), (0, .ref (ad (4)))] dX5_closeFact_1 rfl (by decide) rfl ?_
  obtain ⟨o10, h11, hF⟩ := bnd hF
  try dsimp only at hF
  refine q_sub [1, 0] rfl ?_
  refine l_X5_closeFact_2 C ⟨Nat.le_of_ble_eq_true rfl, Nat.le_of_ble_eq_true rfl⟩ o10 (fun eo10_0 => ?_) (fun eo10_1 => ?_) n _ _ h11
  · -- exit 0
    replace hF := ift eo10_0 hF
    refine q_goto (tgt := 95) C dX5_closeFact_33 (by decide) ?_
    refine q_aload_n C 0 dX5_closeFact_95 rfl rfl ?_
    refine qg_4_2 C pi_4 tw_86 dX5_closeFact_96 ?_
    obtain ⟨q12, h13, hF⟩ := bnd hF
    try dsimp only at hF
    refine q_callVv C [] (c_X9_takeWord l D ad ca kz C.2.2.2.2.2.2.1 _ _ _ h13) tw_559 gm_X9_takeWord pi_1.1 (pe_8 pi_1.2) rfl ⟨rfl, rfl⟩ ⟨Nat.le_of_ble_eq_true rfl, Nat.le_of_ble_eq_true rfl⟩ rfl (Nat.le_of_ble_eq_true rfl) dX5_closeFact_99 q00 ?_
    refine q_aload_n C 0 dX5_closeFact_102 rfl rfl ?_
    refine qg_4_2 C pi_4 tw_86 dX5_closeFact_103 ?_
    refine q_str17 C dX5_closeFact_106 ?_
    obtain ⟨q14, h15, hF⟩ := bnd hF
    try dsimp only at hF
    refine q_callVi C [.ref (kz (10 + 6))] (c_X9_wordIs l D ad ca kz C.2.2.2.2.2.2.1 _ (by decide) _ _ h15) tw_561 gm_X9_wordIs pi_1.1 (pe_8 pi_1.2) rfl ⟨rfl, rfl⟩ ⟨Nat.le_of_ble_eq_true rfl, Nat.le_of_ble_eq_true rfl⟩ rfl (Nat.le_of_ble_eq_true rfl) dX5_closeFact_108 q00 ?_
    refine q_if_eq (tgt := 128) C dX5_closeFact_111 (by decide) (fun c16 => ?_) (fun c16 => ?_)
    · replace hF := ift c16 hF
      refine q_aload_n C 0 dX5_closeFact_128 rfl rfl ?_
      refine q_bipush (v := -34) C dX5_closeFact_129 (by decide) ?_
      obtain ⟨q17, h18, hF⟩ := bnd hF
      try dsimp only at hF
      refine q_callVv C [.int (-34)] (c_X5_popDownTo l D ad ca kz C.2.2.2.2.2.2.1 _ _ _ _ h18) tw_636 gm_X5_popDownTo pi_4.1 (pe_4 pi_4.2) rfl ⟨rfl, rfl⟩ ⟨Nat.le_of_ble_eq_true rfl, Nat.le_of_ble_eq_true rfl⟩ rfl (Nat.le_of_ble_eq_true rfl) dX5_closeFact_131 q00 ?_
      refine q_aload_n C 0 dX5_closeFact_134 rfl rfl ?_
      refine qg_4_2 C pi_4 tw_86 dX5_closeFact_135 ?_
      refine q_str18 C dX5_closeFact_138 ?_
      obtain ⟨q19, h20, hF⟩ := bnd hF
      try dsimp only at hF
      refine q_callVi C [.ref (kz (10 + 7))] (c_X9_wordIs l D ad ca kz C.2.2.2.2.2.2.1 _ (by decide) _ _ h20) tw_561 gm_X9_wordIs pi_1.1 (pe_8 pi_1.2) rfl ⟨rfl, rfl⟩ ⟨Nat.le_of_ble_eq_true rfl, Nat.le_of_ble_eq_true rfl⟩ rfl (Nat.le_of_ble_eq_true rfl) dX5_closeFact_140 q00 ?_
      refine q_if_eq (tgt := 154) C dX5_closeFact_143 (by decide) (fun c21 => ?_) (fun c21 => ?_)
      · replace hF := ift c21 hF
        refine q_aload_n C 0 dX5_closeFact_154 rfl rfl ?_
        refine qg_4_2 C pi_4 tw_86 dX5_closeFact_155 ?_
        obtain ⟨q22, h23, hF⟩ := bnd hF
        try dsimp only at hF
        refine q_callVv C [] (c_X9_putWordBack l D ad ca kz C.2.2.2.2.2.2.1 _ _ _ h23) tw_586 gm_X9_putWordBack pi_1.1 (pe_8 pi_1.2) rfl ⟨rfl, rfl⟩ ⟨Nat.le_of_ble_eq_true rfl, Nat.le_of_ble_eq_true rfl⟩ rfl (Nat.le_of_ble_eq_true rfl) dX5_closeFact_158 q00 ?_
        refine q_aload_n C 0 dX5_closeFact_161 rfl rfl ?_
        refine qg_4_6 C pi_4 tw_90 dX5_closeFact_162 ?_
        refine q_if_le (tgt := 183) C dX5_closeFact_165 (by decide) (fun c24 => ?_) (fun c24 => ?_)
        · replace hF := ift c24 hF
          refine q_iconst (v := 0) C dX5_closeFact_183 (by decide) ?_
          exact q_zret C hr hlk dX5_closeFact_184 (by decide) hF
        · replace hF := ife c24 hF
          refine q_aload_n C 0 dX5_closeFact_168 rfl rfl ?_
          refine qg_4_2 C pi_4 tw_86 dX5_closeFact_169 ?_
          refine q_aload_n C 0 dX5_closeFact_172 rfl rfl ?_
          refine qg_4_2 C pi_4 tw_86 dX5_closeFact_173 ?_
          refine qg_8_2 C pi_1 tw_42 dX5_closeFact_176 ?_
          refine q_iconst (v := 0) C dX5_closeFact_179 (by decide) ?_
          obtain ⟨q25, h26, hF⟩ := bnd hF
          try dsimp only at hF
          refine q_callVv C [.int (q22.1 1 2), .int 0] (c_X9_fail l D ad ca kz C.2.2.2.2.2.2.1 _ _ _ _ _ h26) tw_562 gm_X9_fail pi_1.1 (pe_8 pi_1.2) rfl ⟨rfl, rfl⟩ ⟨Nat.le_of_ble_eq_true rfl, Nat.le_of_ble_eq_true rfl⟩ rfl (Nat.le_of_ble_eq_true rfl) dX5_closeFact_180 q00 ?_
          refine q_iconst (v := 0) C dX5_closeFact_183 (by decide) ?_
          exact q_zret C hr hlk dX5_closeFact_184 (by decide) hF
      · replace hF := ife c21 hF
        refine q_aload_n C 0 dX5_closeFact_146 rfl rfl ?_
        refine q_bipush (v := -34) C dX5_closeFact_147 (by decide) ?_
        obtain ⟨q27, h28, hF⟩ := bnd hF
        try dsimp only at hF
        refine q_callVv C [.int (-34)] (c_X5_push l D ad ca kz C.2.2.2.2.2.2.1 _ _ _ _ h28) tw_621 gm_X5_push pi_4.1 (pe_4 pi_4.2) rfl ⟨rfl, rfl⟩ ⟨Nat.le_of_ble_eq_true rfl, Nat.le_of_ble_eq_true rfl⟩ rfl (Nat.le_of_ble_eq_true rfl) dX5_closeFact_149 q00 ?_
        refine q_iconst (v := 1) C dX5_closeFact_152 (by decide) ?_
        exact q_zret C hr hlk dX5_closeFact_153 (by decide) hF
    · replace hF := ife c16 hF
      refine q_aload_n C 0 dX5_closeFact_114 rfl rfl ?_
      refine q_bipush (v := -35) C dX5_closeFact_115 (by decide) ?_
      obtain ⟨q29, h30, hF⟩ := bnd hF
      try dsimp only at hF
      refine q_callVv C [.int (-35)] (c_X5_popDownTo l D ad ca kz C.2.2.2.2.2.2.1 _ _ _ _ h30) tw_636 gm_X5_popDownTo pi_4.1 (pe_4 pi_4.2) rfl ⟨rfl, rfl⟩ ⟨Nat.le_of_ble_eq_true rfl, Nat.le_of_ble_eq_true rfl⟩ rfl (Nat.le_of_ble_eq_true rfl) dX5_closeFact_117 q00 ?_
      refine q_aload_n C 0 dX5_closeFact_120 rfl rfl ?_
      refine q_bipush (v := -35) C dX5_closeFact_121 (by decide) ?_
      obtain ⟨q31, h32, hF⟩ := bnd hF
      try dsimp only at hF
      refine q_callVv C [.int (-35)] (c_X5_push l D ad ca kz C.2.2.2.2.2.2.1 _ _ _ _ h32) tw_621 gm_X5_push pi_4.1 (pe_4 pi_4.2) rfl ⟨rfl, rfl⟩ ⟨Nat.le_of_ble_eq_true rfl, Nat.le_of_ble_eq_true rfl⟩ rfl (Nat.le_of_ble_eq_true rfl) dX5_closeFact_123 q00 ?_
      refine q_iconst (v := 1) C dX5_closeFact_126 (by decide) ?_
      exact q_zret C hr hlk dX5_closeFact_127 (by decide) hF
  · -- exit 1
    replace hF := ife (by rw [eo10_1]; decide) hF
    refine q_aload_n C 0 dX5_closeFact_95 rfl rfl ?_
    refine qg_4_2 C pi_4 tw_86 dX5_closeFact_96 ?_
    obtain ⟨q33, h34, hF⟩ := bnd hF
    try dsimp only at hF
    refine q_callVv C [] (c_X9_takeWord l D ad ca kz C.2.2.2.2.2.2.1 _ _ _ h34) tw_559 gm_X9_takeWord pi_1.1 (pe_8 pi_1.2) rfl ⟨rfl, rfl⟩ ⟨Nat.le_of_ble_eq_true rfl, Nat.le_of_ble_eq_true rfl⟩ rfl (Nat.le_of_ble_eq_true rfl) dX5_closeFact_99 q00 ?_
    refine q_aload_n C 0 dX5_closeFact_102 rfl rfl ?_
    refine qg_4_2 C pi_4 tw_86 dX5_closeFact_103 ?_
    refine q_str17 C dX5_closeFact_106 ?_
    obtain ⟨q35, h36, hF⟩ := bnd hF
    try dsimp only at hF
    refine q_callVi C [.ref (kz (10 + 6))] (c_X9_wordIs l D ad ca kz C.2.2.2.2.2.2.1 _ (by decide) _ _ h36) tw_561 gm_X9_wordIs pi_1.1 (pe_8 pi_1.2) rfl ⟨rfl, rfl⟩ ⟨Nat.le_of_ble_eq_true rfl, Nat.le_of_ble_eq_true rfl⟩ rfl (Nat.le_of_ble_eq_true rfl) dX5_closeFact_108 q00 ?_
    refine q_if_eq (tgt := 128) C dX5_closeFact_111 (by decide) (fun c37 => ?_) (fun c37 => ?_)
    · replace hF := ift c37 hF
      refine q_aload_n C 0 dX5_closeFact_128 rfl rfl ?_
      refine q_bipush (v := -34) C dX5_closeFact_129 (by decide) ?_
      obtain ⟨q38, h39, hF⟩ := bnd hF
      try dsimp only at hF
      refine q_callVv C [.int (-34)] (c_X5_popDownTo l D ad ca kz C.2.2.2.2.2.2.1 _ _ _ _ h39) tw_636 gm_X5_popDownTo pi_4.1 (pe_4 pi_4.2) rfl ⟨rfl, rfl⟩ ⟨Nat.le_of_ble_eq_true rfl, Nat.le_of_ble_eq_true rfl⟩ rfl (Nat.le_of_ble_eq_true rfl) dX5_closeFact_131 q00 ?_
      refine q_aload_n C 0 dX5_closeFact_134 rfl rfl ?_
      refine qg_4_2 C pi_4 tw_86 dX5_closeFact_135 ?_
      refine q_str18 C dX5_closeFact_138 ?_
      obtain ⟨q40, h41, hF⟩ := bnd hF
      try dsimp only at hF
      refine q_callVi C [.ref (kz (10 + 7))] (c_X9_wordIs l D ad ca kz C.2.2.2.2.2.2.1 _ (by decide) _ _ h41) tw_561 gm_X9_wordIs pi_1.1 (pe_8 pi_1.2) rfl ⟨rfl, rfl⟩ ⟨Nat.le_of_ble_eq_true rfl, Nat.le_of_ble_eq_true rfl⟩ rfl (Nat.le_of_ble_eq_true rfl) dX5_closeFact_140 q00 ?_
      refine q_if_eq (tgt := 154) C dX5_closeFact_143 (by decide) (fun c42 => ?_) (fun c42 => ?_)
      · replace hF := ift c42 hF
        refine q_aload_n C 0 dX5_closeFact_154 rfl rfl ?_
        refine qg_4_2 C pi_4 tw_86 dX5_closeFact_155 ?_
        obtain ⟨q43, h44, hF⟩ := bnd hF
        try dsimp only at hF
        refine q_callVv C [] (c_X9_putWordBack l D ad ca kz C.2.2.2.2.2.2.1 _ _ _ h44) tw_586 gm_X9_putWordBack pi_1.1 (pe_8 pi_1.2) rfl ⟨rfl, rfl⟩ ⟨Nat.le_of_ble_eq_true rfl, Nat.le_of_ble_eq_true rfl⟩ rfl (Nat.le_of_ble_eq_true rfl) dX5_closeFact_158 q00 ?_
        refine q_aload_n C 0 dX5_closeFact_161 rfl rfl ?_
        refine qg_4_6 C pi_4 tw_90 dX5_closeFact_162 ?_
        refine q_if_le (tgt := 183) C dX5_closeFact_165 (by decide) (fun c45 => ?_) (fun c45 => ?_)
        · replace hF := ift c45 hF
          refine q_iconst (v := 0) C dX5_closeFact_183 (by decide) ?_
          exact q_zret C hr hlk dX5_closeFact_184 (by decide) hF
        · replace hF := ife c45 hF
          refine q_aload_n C 0 dX5_closeFact_168 rfl rfl ?_
          refine qg_4_2 C pi_4 tw_86 dX5_closeFact_169 ?_
          refine q_aload_n C 0 dX5_closeFact_172 rfl rfl ?_
          refine qg_4_2 C pi_4 tw_86 dX5_closeFact_173 ?_
          refine qg_8_2 C pi_1 tw_42 dX5_closeFact_176 ?_
          refine q_iconst (v := 0) C dX5_closeFact_179 (by decide) ?_
          obtain ⟨q46, h47, hF⟩ := bnd hF
          try dsimp only at hF
          refine q_callVv C [.int (q43.1 1 2), .int 0] (c_X9_fail l D ad ca kz C.2.2.2.2.2.2.1 _ _ _ _ _ h47) tw_562 gm_X9_fail pi_1.1 (pe_8 pi_1.2) rfl ⟨rfl, rfl⟩ ⟨Nat.le_of_ble_eq_true rfl, Nat.le_of_ble_eq_true rfl⟩ rfl (Nat.le_of_ble_eq_true rfl) dX5_closeFact_180 q00 ?_
          refine q_iconst (v := 0) C dX5_closeFact_183 (by decide) ?_
          exact q_zret C hr hlk dX5_closeFact_184 (by decide) hF
      · replace hF := ife c42 hF
        refine q_aload_n C 0 dX5_closeFact_146 rfl rfl ?_
        refine q_bipush (v := -34) C dX5_closeFact_147 (by decide) ?_
        obtain ⟨q48, h49, hF⟩ := bnd hF
        try dsimp only at hF
        refine q_callVv C [.int (-34)] (c_X5_push l D ad ca kz C.2.2.2.2.2.2.1 _ _ _ _ h49) tw_621 gm_X5_push pi_4.1 (pe_4 pi_4.2) rfl ⟨rfl, rfl⟩ ⟨Nat.le_of_ble_eq_true rfl, Nat.le_of_ble_eq_true rfl⟩ rfl (Nat.le_of_ble_eq_true rfl) dX5_closeFact_149 q00 ?_
        refine q_iconst (v := 1) C dX5_closeFact_152 (by decide) ?_
        exact q_zret C hr hlk dX5_closeFact_153 (by decide) hF
    · replace hF := ife c37 hF
      refine q_aload_n C 0 dX5_closeFact_114 rfl rfl ?_
      refine q_bipush (v := -35) C dX5_closeFact_115 (by decide) ?_
      obtain ⟨q50, h51, hF⟩ := bnd hF
      try dsimp only at hF
      refine q_callVv C [.int (-35)] (c_X5_popDownTo l D ad ca kz C.2.2.2.2.2.2.1 _ _ _ _ h51) tw_636 gm_X5_popDownTo pi_4.1 (pe_4 pi_4.2) rfl ⟨rfl, rfl⟩ ⟨Nat.le_of_ble_eq_true rfl, Nat.le_of_ble_eq_true rfl⟩ rfl (Nat.le_of_ble_eq_true rfl) dX5_closeFact_117 q00 ?_
      refine q_aload_n C 0 dX5_closeFact_120 rfl rfl ?_
      refine q_bipush (v := -35) C dX5_closeFact_121 (by decide) ?_
      obtain ⟨q52, h53, hF⟩ := bnd hF
      try dsimp only at hF
      refine q_callVv C [.int (-35)] (c_X5_push l D ad ca kz C.2.2.2.2.2.2.1 _ _ _ _ h53) tw_621 gm_X5_push pi_4.1 (pe_4 pi_4.2) rfl ⟨rfl, rfl⟩ ⟨Nat.le_of_ble_eq_true rfl, Nat.le_of_ble_eq_true rfl⟩ rfl (Nat.le_of_ble_eq_true rfl) dX5_closeFact_123 q00 ?_
      refine q_iconst (v := 1) C dX5_closeFact_126 (by decide) ?_
      exact q_zret C hr hlk dX5_closeFact_127 (by decide) hF
-- X5_takeOpening
def F_X5_takeOpening (n : Nat) (σ : PS) : Option (Int32 × PS) := (F_X9_peek n σ).bind (fun q1 => (if q1.1 = (91 : Int32) then some ((-33 : Int32), psI (psI (psI q1.2 1 3 (q1.2.1 1 2)) 1 2 (((psI q1.2 1 3 (q1.2.1 1 2)).1 1 2) + (1 : Int32))) 4 6 (((psI (psI q1.2 1 3 (q1.2.1 1 2)) 1 2 (((psI q1.2 1 3 (q1.2.1 1 2)).1 1 2) + (1 : Int32))).1 4 6) + (1 : Int32))) else (F_X9_takeWord n q1.2).bind (fun q4 => (F_X9_wordIs n 5 q4).bind (fun q6 => (if q6.1 = 0 then (F_X9_putWordBack n q6.2).bind (fun q9 => some ((0 : Int32), q9)) else some ((-36 : Int32), q6.2))))))
theorem gm_X5_takeOpening : gM "AskedCamp$RuleReader" yX5_takeOpening (Cond.code yX5_takeOpening cX5_takeOpening 1 (Option.some Jvm.ClassFile.FieldType.int)) 0 := ⟨by decide +kernel, tw_618, tw_p9, tw_4, tw_619⟩
set_option maxHeartbeats 4000000 in
set_option maxRecDepth 100000 in
theorem c_X5_takeOpening (l : Launch) (D : va_G) (ad : Nat → Nat) (ca : Nat → ClassId) (kz : Nat → Nat) (hJ : pInj ad) (n : Nat) (σ : PS) (out : Int32 × PS) (hF : F_X5_takeOpening n σ = some out) : Met l yX5_takeOpening (Cond.code yX5_takeOpening cX5_takeOpening 1 (Option.some Jvm.ClassFile.FieldType.int) :: gw_tbl) { frames := 5, cells := 0, slots := 0, locals := 109 } (va_Pc [.ref (ad (4))] (pU D ad ca kz σ)) (pQi D ad ca out) 0 0 (pAD ad) := by
  refine q_entry (own := "AskedCamp$RuleReader") hJ (by decide) rfl (Nat.le_of_ble_eq_true rfl) (fun p e s m below meth c C hr hlk => ?_)
  refine q_lv [(0, .ref (ad (4)))] rfl ?_
  rw [F_X5_takeOpening] at hF
  refine q_aload_n C 0 dX5_takeOpening_0 rfl rfl ?_
  refine qg_4_2 C pi_4 tw_86 dX5_takeOpening_1 ?_
  obtain ⟨q1, h2, hF⟩ := bnd hF
  try dsimp only at hF
  refine q_callVi C [] (c_X9_peek l D ad ca kz C.2.2.2.2.2.2.1 _ _ _ h2) tw_600 gm_X9_peek pi_1.1 (pe_8 pi_1.2) rfl ⟨rfl, rfl⟩ ⟨Nat.le_of_ble_eq_true rfl, Nat.le_of_ble_eq_true rfl⟩ rfl (Nat.le_of_ble_eq_true rfl) dX5_takeOpening_4 q00 ?_
  refine q_bipush (v := 91) C dX5_takeOpening_7 (by decide) ?_
  refine q_icmp_ne (tgt := 52) C dX5_takeOpening_9 (by decide) (fun c3 => ?_) (fun c3 => ?_)
  · replace hF := ife c3 hF
    refine q_aload_n C 0 dX5_takeOpening_52 rfl rfl ?_
    refine qg_4_2 C pi_4 tw_86 dX5_takeOpening_53 ?_
    obtain ⟨q4, h5, hF⟩ := bnd hF
    try dsimp only at hF
    refine q_callVv C [] (c_X9_takeWord l D ad ca kz C.2.2.2.2.2.2.1 _ _ _ h5) tw_559 gm_X9_takeWord pi_1.1 (pe_8 pi_1.2) rfl ⟨rfl, rfl⟩ ⟨Nat.le_of_ble_eq_true rfl, Nat.le_of_ble_eq_true rfl⟩ rfl (Nat.le_of_ble_eq_true rfl) dX5_takeOpening_56 q00 ?_
    refine q_aload_n C 0 dX5_takeOpening_59 rfl rfl ?_
    refine qg_4_2 C pi_4 tw_86 dX5_takeOpening_60 ?_
    refine q_str16 C dX5_takeOpening_63 ?_
    obtain ⟨q6, h7, hF⟩ := bnd hF
    try dsimp only at hF
    refine q_callVi C [.ref (kz (10 + 5))] (c_X9_wordIs l D ad ca kz C.2.2.2.2.2.2.1 _ (by decide) _ _ h7) tw_561 gm_X9_wordIs pi_1.1 (pe_8 pi_1.2) rfl ⟨rfl, rfl⟩ ⟨Nat.le_of_ble_eq_true rfl, Nat.le_of_ble_eq_true rfl⟩ rfl (Nat.le_of_ble_eq_true rfl) dX5_takeOpening_65 q00 ?_
    refine q_if_eq (tgt := 74) C dX5_takeOpening_68 (by decide) (fun c8 => ?_) (fun c8 => ?_)
    · replace hF := ift c8 hF
      refine q_aload_n C 0 dX5_takeOpening_74 rfl rfl ?_
      refine qg_4_2 C pi_4 tw_86 dX5_takeOpening_75 ?_
      obtain ⟨q9, h10, hF⟩ := bnd hF
      try dsimp only at hF
      refine q_callVv C [] (c_X9_putWordBack l D ad ca kz C.2.2.2.2.2.2.1 _ _ _ h10) tw_586 gm_X9_putWordBack pi_1.1 (pe_8 pi_1.2) rfl ⟨rfl, rfl⟩ ⟨Nat.le_of_ble_eq_true rfl, Nat.le_of_ble_eq_true rfl⟩ rfl (Nat.le_of_ble_eq_true rfl) dX5_takeOpening_78 q00 ?_
      refine q_iconst (v := 0) C dX5_takeOpening_81 (by decide) ?_
      exact q_iret C hr hlk dX5_takeOpening_82 hF
    · replace hF := ife c8 hF
      refine q_bipush (v := -36) C dX5_takeOpening_71 (by decide) ?_
      exact q_iret C hr hlk dX5_takeOpening_73 hF
  · replace hF := ift c3 hF
    refine q_aload_n C 0 dX5_takeOpening_12 rfl rfl ?_
    refine qg_4_2 C pi_4 tw_86 dX5_takeOpening_13 ?_
    refine q_aload_n C 0 dX5_takeOpening_16 rfl rfl ?_
    refine qg_4_2 C pi_4 tw_86 dX5_takeOpening_17 ?_
    refine qg_8_2 C pi_1 tw_42 dX5_takeOpening_20 ?_
    refine qs_8_3 C pi_1 tw_43 dX5_takeOpening_23 ?_
    refine q_aload_n C 0 dX5_takeOpening_26 rfl rfl ?_
    refine qg_4_2 C pi_4 tw_86 dX5_takeOpening_27 ?_
    refine q_dup C dX5_takeOpening_30 rfl ?_
    refine qg_8_2 C pi_1 tw_42 dX5_takeOpening_31 ?_
    refine q_iconst (v := 1) C dX5_takeOpening_34 (by decide) ?_
    refine q_iadd C dX5_takeOpening_35 ?_
    refine qs_8_2 C pi_1 tw_42 dX5_takeOpening_36 ?_
    refine q_aload_n C 0 dX5_takeOpening_39 rfl rfl ?_
    refine q_dup C dX5_takeOpening_40 rfl ?_
    refine qg_4_6 C pi_4 tw_90 dX5_takeOpening_41 ?_
    refine q_iconst (v := 1) C dX5_takeOpening_44 (by decide) ?_
    refine q_iadd C dX5_takeOpening_45 ?_
    refine qs_4_6 C pi_4 tw_90 dX5_takeOpening_46 ?_
    refine q_bipush (v := -33) C dX5_takeOpening_49 (by decide) ?_
    exact q_iret C hr hlk dX5_takeOpening_51 hF
-- X5_openFact
def L_X5_openFact_2 (n : Nat) : Nat → Int32 → PS → Option (Nat × PS)
  | 0, _, _ => none
  | k + 1, x1, σ => (if (10 : Int32) < x1 then some (2, σ) else (F_X5_takeOpening n σ).bind (fun q2 => (if q2.1 = 0 then some (0, q2.2) else (if (q2.2.1 4 5) < (10 : Int32) then (F_X5_push n q2.1 (psI q2.2 4 5 ((q2.2.1 4 5) + (1 : Int32)))).bind (fun q6 => L_X5_openFact_2 n k (x1 + 1) q6) else some (1, q2.2)))))
def F_X5_openFact (n : Nat) (σ : PS) : Option (PS) := (L_X5_openFact_2 n n (0 : Int32) σ).bind (fun o8 => (if o8.1 = 0 then some o8.2 else (if o8.1 = 1 then (F_X9_fail n (o8.2.1 1 3) (2 : Int32) o8.2).bind (fun q10 => some q10) else some o8.2)))
theorem gm_X5_openFact : gM "AskedCamp$RuleReader" yX5_openFact (Cond.code yX5_openFact cX5_openFact 3 (Option.none : Option Jvm.ClassFile.FieldType)) 0 := ⟨by decide +kernel, tw_614, tw_p8, tw_4, tw_615⟩
set_option maxHeartbeats 4000000 in
set_option maxRecDepth 100000 in
theorem l_X5_openFact_2 {p : Program} {l : Launch} {e : Env} {R : Room} {s : State} {m : MethodId} {args : Array Value} {below : List Frame} {meth : Method} {c : Code} {D : va_G} {ad : Nat → Nat} {ca : Nat → ClassId} {kz : Nat → Nat} {Q : State → Prop} (C : pC p s m args c cX5_openFact "AskedCamp$RuleReader" 3 D ad ca kz) (hR : 6 ≤ R.frames ∧ 129 ≤ R.locals) {n : Nat} (o : Nat × PS) (hx0 : o.1 = 0 → PW p l e R s m args below meth c 3 D ad ca 0 0 Q (o.2) 17 [] []) (hx1 : o.1 = 1 → PW p l e R s m args below meth c 3 D ad ca 0 0 Q (o.2) 27 [(0, .ref (ad (4)))] []) (hx2 : o.1 = 2 → PW p l e R s m args below meth c 3 D ad ca 0 0 Q (o.2) 64 [] []) : ∀ (k : Nat) (x1 : Int32) (σ : PS), L_X5_openFact_2 n k x1 σ = some o → PW p l e R s m args below meth c 3 D ad ca 0 0 Q σ 2 [(0, .ref (ad (4))), (1, .int x1)] [] := by
  intro k
  induction k with
  | zero => intro x1 σ hF; exact nomatch (show (none : Option (Nat × PS)) = some o from hF)
  | succ k ih =>
    intro x1 σ hF
    rw [L_X5_openFact_2] at hF
    refine q_iload_n C 1 dX5_openFact_2 rfl rfl ?_
    refine q_bipush (v := 10) C dX5_openFact_3 (by decide) ?_
    refine q_icmp_gt (tgt := 64) C dX5_openFact_5 (by decide) (fun c1 => ?_) (fun c1 => ?_)
    · replace hF := ift c1 hF
      cases hF
      refine q_sub [] rfl ?_
      exact hx2 rfl
    · replace hF := ife c1 hF
      refine q_aload_n C 0 dX5_openFact_8 rfl rfl ?_
      obtain ⟨q2, h3, hF⟩ := bnd hF
      try dsimp only at hF
      refine q_callVi C [] (c_X5_takeOpening l D ad ca kz C.2.2.2.2.2.2.1 _ _ _ h3) tw_616 gm_X5_takeOpening pi_4.1 (pe_4 pi_4.2) rfl ⟨rfl, rfl⟩ ⟨Nat.le_trans (Nat.le_of_ble_eq_true rfl) hR.1, Nat.le_trans (Nat.le_of_ble_eq_true rfl) hR.2⟩ rfl (Nat.le_of_ble_eq_true rfl) dX5_openFact_9 q00 ?_
      refine q_istore_n C [(2, .int q2.1), (0, .ref (ad (4))), (1, .int x1)] dX5_openFact_12 rfl (by decide) rfl ?_
      refine q_iload_n C 0 dX5_openFact_13 rfl rfl ?_
      refine q_if_ne (tgt := 18) C dX5_openFact_14 (by decide) (fun c4 => ?_) (fun c4 => ?_)
      · replace hF := ife c4 hF
        refine q_aload_n C 1 dX5_openFact_18 rfl rfl ?_
        refine qg_4_5 C pi_4 tw_89 dX5_openFact_19 ?_
        refine q_bipush (v := 10) C dX5_openFact_22 (by decide) ?_
        refine q_icmp_lt (tgt := 43) C dX5_openFact_24 (by decide) (fun c5 => ?_) (fun c5 => ?_)
        · replace hF := ift c5 hF
          refine q_aload_n C 1 dX5_openFact_43 rfl rfl ?_
          refine q_dup C dX5_openFact_44 rfl ?_
          refine qg_4_5 C pi_4 tw_89 dX5_openFact_45 ?_
          refine q_iconst (v := 1) C dX5_openFact_48 (by decide) ?_
          refine q_iadd C dX5_openFact_49 ?_
          refine qs_4_5 C pi_4 tw_89 dX5_openFact_50 ?_
          refine q_aload_n C 1 dX5_openFact_53 rfl rfl ?_
          refine q_iload_n C 0 dX5_openFact_54 rfl rfl ?_
          obtain ⟨q6, h7, hF⟩ := bnd hF
          try dsimp only at hF
          refine q_callVv C [.int q2.1] (c_X5_push l D ad ca kz C.2.2.2.2.2.2.1 _ _ _ _ h7) tw_621 gm_X5_push pi_4.1 (pe_4 pi_4.2) rfl ⟨rfl, rfl⟩ ⟨Nat.le_trans (Nat.le_of_ble_eq_true rfl) hR.1, Nat.le_trans (Nat.le_of_ble_eq_true rfl) hR.2⟩ rfl (Nat.le_of_ble_eq_true rfl) dX5_openFact_55 q00 ?_
          refine q_iinc C 2 [(1, .int (x1 + 1)), (2, .int q2.1), (0, .ref (ad (4)))] dX5_openFact_58 rfl rfl (by decide) rfl ?_
          refine q_goto (tgt := 2) C dX5_openFact_61 (by decide) ?_
          refine q_sub [2, 0] rfl ?_
          exact ih _ _ hF
        · replace hF := ife c5 hF
          cases hF
          refine q_sub [1] rfl ?_
          exact hx1 rfl
      · replace hF := ift c4 hF
        cases hF
        refine q_sub [] rfl ?_
        exact hx0 rfl
set_option maxHeartbeats 4000000 in
set_option maxRecDepth 100000 in
theorem c_X5_openFact (l : Launch) (D : va_G) (ad : Nat → Nat) (ca : Nat → ClassId) (kz : Nat → Nat) (hJ : pInj ad) (n : Nat) (σ : PS) (out : PS) (hF : F_X5_openFact n σ = some out) : Met l yX5_openFact (Cond.code yX5_openFact cX5_openFact 3 (Option.none : Option Jvm.ClassFile.FieldType) :: gw_tbl) { frames := 6, cells := 0, slots := 0, locals := 129 } (va_Pc [.ref (ad (4))] (pU D ad ca kz σ)) (pQv D ad ca out) 0 0 (pAD ad) := by
  refine q_entry (own := "AskedCamp$RuleReader") hJ (by decide) rfl (Nat.le_of_ble_eq_true rfl) (fun p e s m below meth c C hr hlk => ?_)
  refine q_lv [(0, .ref (ad (4)))] rfl ?_
  rw [F_X5_openFact] at hF
  refine q_iconst (v := 0) C dX5_openFact_0 (by decide) ?_
  refine q_istore_n C [(1, .int 0), (0, .ref (ad (4)))] dX5_openFact_1 rfl (by decide) rfl ?_
  obtain ⟨o8, h9, hF⟩ := bnd hF
  try dsimp only at hF
  refine q_sub [1, 0] rfl ?_
  refine l_X5_openFact_2 C ⟨Nat.le_of_ble_eq_true rfl, Nat.le_of_ble_eq_true rfl⟩ o8 (fun eo8_0 => ?_) (fun eo8_1 => ?_) (fun eo8_2 => ?_) n _ _ h9
  · -- exit 0
    replace hF := ift eo8_0 hF
    exact q_vret C hr hlk dX5_openFact_17 hF
  · -- exit 1
    replace hF := ife (by rw [eo8_1]; decide) hF
    replace hF := ift eo8_1 hF
    refine q_aload_n C 0 dX5_openFact_27 rfl rfl ?_
    refine qg_4_2 C pi_4 tw_86 dX5_openFact_28 ?_
    refine q_aload_n C 0 dX5_openFact_31 rfl rfl ?_
    refine qg_4_2 C pi_4 tw_86 dX5_openFact_32 ?_
    refine qg_8_3 C pi_1 tw_43 dX5_openFact_35 ?_
    refine q_iconst (v := 2) C dX5_openFact_38 (by decide) ?_
    obtain ⟨q10, h11, hF⟩ := bnd hF
    try dsimp only at hF
    refine q_callVv C [.int (o8.2.1 1 3), .int 2] (c_X9_fail l D ad ca kz C.2.2.2.2.2.2.1 _ _ _ _ _ h11) tw_562 gm_X9_fail pi_1.1 (pe_8 pi_1.2) rfl ⟨rfl, rfl⟩ ⟨Nat.le_of_ble_eq_true rfl, Nat.le_of_ble_eq_true rfl⟩ rfl (Nat.le_of_ble_eq_true rfl) dX5_openFact_39 q00 ?_
    exact q_vret C hr hlk dX5_openFact_42 hF
  · -- exit 2
    replace hF := ife (by rw [eo8_2]; decide) hF
    replace hF := ife (by rw [eo8_2]; decide) hF
    exact q_vret C hr hlk dX5_openFact_64 hF
-- X3_ofSign
def F_X3_ofSign (n : Nat) (a0 : Int32) (σ : PS) : Option (Int32 × PS) := (if a0 = (60 : Int32) then some ((-25 : Int32), σ) else (if a0 = (61 : Int32) then some ((-27 : Int32), σ) else (if a0 = (62 : Int32) then some ((-29 : Int32), σ) else some ((0 : Int32), σ))))
theorem gm_X3_ofSign : gS yX3_ofSign (Cond.code yX3_ofSign cX3_ofSign 1 (Option.some Jvm.ClassFile.FieldType.int)) 1 := ⟨by decide +kernel, tw_630, tw_18, tw_631⟩
set_option maxHeartbeats 4000000 in
set_option maxRecDepth 100000 in
theorem c_X3_ofSign (l : Launch) (D : va_G) (ad : Nat → Nat) (ca : Nat → ClassId) (kz : Nat → Nat) (hJ : pInj ad) (n : Nat) (a0 : Int32) (σ : PS) (out : Int32 × PS) (hF : F_X3_ofSign n a0 σ = some out) : Met l yX3_ofSign (Cond.code yX3_ofSign cX3_ofSign 1 (Option.some Jvm.ClassFile.FieldType.int) :: gw_tbl) { frames := 0, cells := 0, slots := 0, locals := 0 } (va_Pc [.int a0] (pU D ad ca kz σ)) (pQi D ad ca out) 0 0 (pAD ad) := by
  refine q_entry (own := "AskedCamp$Op") hJ (by decide) rfl (Nat.le_of_ble_eq_true rfl) (fun p e s m below meth c C hr hlk => ?_)
  refine q_lv [(0, .int a0)] rfl ?_
  rw [F_X3_ofSign] at hF
  refine q_iload_n C 0 dX3_ofSign_0 rfl rfl ?_
  by_cases c1 : a0 = (60 : Int32)
  · replace hF := ift c1 hF
    refine q_tableIn (off := 27) (tgt := 28) C dX3_ofSign_1 (by rw [c1]; decide) (by rw [c1]; decide) (by rw [c1] <;> rfl) (by decide) ?_
    refine q_bipush (v := -25) C dX3_ofSign_28 (by decide) ?_
    exact q_iret C hr hlk dX3_ofSign_30 hF
  replace hF := ife c1 hF
  by_cases c2 : a0 = (61 : Int32)
  · replace hF := ift c2 hF
    refine q_tableIn (off := 30) (tgt := 31) C dX3_ofSign_1 (by rw [c2]; decide) (by rw [c2]; decide) (by rw [c2] <;> rfl) (by decide) ?_
    refine q_bipush (v := -27) C dX3_ofSign_31 (by decide) ?_
    exact q_iret C hr hlk dX3_ofSign_33 hF
  replace hF := ife c2 hF
  by_cases c3 : a0 = (62 : Int32)
  · replace hF := ift c3 hF
    refine q_tableIn (off := 33) (tgt := 34) C dX3_ofSign_1 (by rw [c3]; decide) (by rw [c3]; decide) (by rw [c3] <;> rfl) (by decide) ?_
    refine q_bipush (v := -29) C dX3_ofSign_34 (by decide) ?_
    exact q_iret C hr hlk dX3_ofSign_36 hF
  replace hF := ife c3 hF
  refine q_tableOut (tgt := 37) C dX3_ofSign_1 (by have ec1 := sw_ne c1; have ec2 := sw_ne c2; have ec3 := sw_ne c3; simp only [sw_lit] at ec1 ec2 ec3; omega) (by decide) ?_
  refine q_iconst (v := 0) C dX3_ofSign_37 (by decide) ?_
  exact q_iret C hr hlk dX3_ofSign_38 hF
