-- X12_summedBy
def L_X12_summedBy_2 (n : Nat) : Nat → Int32 → Int32 → PS → Option (Nat × Int32 × Int32 × PS)
  | 0, _, _, _ => none
  | k + 1, x1, x2, σ => (if 0 ≤ x1 ∧ x1.toNatClampNeg < 6 then (if (σ.1 254 x1.toNatClampNeg) ≤ x2 then some (1, 0, 0, σ) else (if 0 ≤ ((((48 : Int32) * x1) + ((4 : Int32) * x2)) + (2 : Int32)) ∧ ((((48 : Int32) * x1) + ((4 : Int32) * x2)) + (2 : Int32)).toNatClampNeg < 288 then (if (σ.1 253 (((((48 : Int32) * x1) + ((4 : Int32) * x2)) + (2 : Int32)).toNatClampNeg)) < 0 then some (0, x1, (((48 : Int32) * x1) + ((4 : Int32) * x2)), σ) else (if 0 ≤ ((((48 : Int32) * x1) + ((4 : Int32) * x2)) + (3 : Int32)) ∧ ((((48 : Int32) * x1) + ((4 : Int32) * x2)) + (3 : Int32)).toNatClampNeg < 288 then (F_X12_reckons n x1 (σ.1 253 (((((48 : Int32) * x1) + ((4 : Int32) * x2)) + (2 : Int32)).toNatClampNeg)) (σ.1 253 (((((48 : Int32) * x1) + ((4 : Int32) * x2)) + (3 : Int32)).toNatClampNeg)) σ).bind (fun q6 => (if (lg_cmp q6.1 (1 : Int64)) = 0 then some (0, x1, (((48 : Int32) * x1) + ((4 : Int32) * x2)), q6.2) else L_X12_summedBy_2 n k x1 (x2 + 1) q6.2)) else none)) else none)) else none)
def F_X12_summedBy (n : Nat) (a1 : Int32) (σ : PS) : Option (Int64 × PS) := (L_X12_summedBy_2 n n a1 (0 : Int32) σ).bind (fun o9 => (if o9.1 = 0 then (if 0 ≤ o9.2.2.1 ∧ o9.2.2.1.toNatClampNeg < 288 then (if 0 ≤ (o9.2.2.1 + (1 : Int32)) ∧ (o9.2.2.1 + (1 : Int32)).toNatClampNeg < 288 then (F_X12_reckons n o9.2.1 (o9.2.2.2.1 253 o9.2.2.1.toNatClampNeg) (o9.2.2.2.1 253 ((o9.2.2.1 + (1 : Int32)).toNatClampNeg)) o9.2.2.2).bind (fun q13 => some (q13.1, q13.2)) else none) else none) else some ((0 : Int64), o9.2.2.2)))
theorem gm_X12_summedBy : gM "AskedCampModel" yX12_summedBy (Cond.code yX12_summedBy cX12_summedBy 4 (Option.some Jvm.ClassFile.FieldType.long)) 1 := ⟨by decide +kernel, tw_1460, tw_p77, tw_12, tw_1461⟩
set_option maxHeartbeats 4000000 in
set_option maxRecDepth 100000 in
theorem l_X12_summedBy_2 {p : Program} {l : Launch} {e : Env} {R : Room} {s : State} {m : MethodId} {args : Array Value} {below : List Frame} {meth : Method} {c : Code} {D : va_G} {ad : Nat → Nat} {ca : Nat → ClassId} {kz : Nat → Nat} {Q : State → Prop} (C : pC p s m args c cX12_summedBy "AskedCampModel" 4 D ad ca kz) (hR : 2 ≤ R.frames ∧ 54 ≤ R.locals) {n : Nat} (o : Nat × Int32 × Int32 × PS) (hx0 : o.1 = 0 → PW p l e R s m args below meth c 4 D ad ca 0 0 Q (o.2.2.2) 58 [(0, .ref (ad (249))), (1, .int o.2.1), (3, .int o.2.2.1)] []) (hx1 : o.1 = 1 → PW p l e R s m args below meth c 4 D ad ca 0 0 Q (o.2.2.2) 84 [] []) : ∀ (k : Nat) (x1 : Int32) (x2 : Int32) (σ : PS), L_X12_summedBy_2 n k x1 x2 σ = some o → PW p l e R s m args below meth c 4 D ad ca 0 0 Q σ 2 [(0, .ref (ad (249))), (1, .int x1), (2, .int x2)] [] := by
  intro k
  induction k with
  | zero => intro x1 x2 σ hF; exact nomatch (show (none : Option (Nat × Int32 × Int32 × PS)) = some o from hF)
  | succ k ih =>
    intro x1 x2 σ hF
    rw [L_X12_summedBy_2] at hF
    refine q_iload_n C 2 dX12_summedBy_2 rfl rfl ?_
    refine q_aload_n C 0 dX12_summedBy_3 rfl rfl ?_
    refine qg_11_6 C pi_249 tw_1059 dX12_summedBy_4 ?_
    refine q_iload_n C 1 dX12_summedBy_7 rfl rfl ?_
    obtain ⟨g1, hF⟩ := grd hF
    refine q_iald C pa_254 (vp_of g1) dX12_summedBy_8 ?_
    refine q_icmp_ge (tgt := 84) C dX12_summedBy_9 (by decide) (fun c2 => ?_) (fun c2 => ?_)
    · replace hF := ift c2 hF
      cases hF
      refine q_sub [] rfl ?_
      exact hx1 rfl
    · replace hF := ife c2 hF
      refine q_bipush (v := 48) C dX12_summedBy_12 (by decide) ?_
      refine q_iload_n C 1 dX12_summedBy_14 rfl rfl ?_
      refine q_imul C dX12_summedBy_15 ?_
      refine q_iconst (v := 4) C dX12_summedBy_16 (by decide) ?_
      refine q_iload_n C 2 dX12_summedBy_17 rfl rfl ?_
      refine q_imul C dX12_summedBy_18 ?_
      refine q_iadd C dX12_summedBy_19 ?_
      refine q_istore_n C [(3, .int (((48 : Int32) * x1) + ((4 : Int32) * x2))), (0, .ref (ad (249))), (1, .int x1), (2, .int x2)] dX12_summedBy_20 rfl (by decide) rfl ?_
      refine q_aload_n C 1 dX12_summedBy_21 rfl rfl ?_
      refine qg_11_5 C pi_249 tw_1058 dX12_summedBy_22 ?_
      refine q_iload_n C 0 dX12_summedBy_25 rfl rfl ?_
      refine q_iconst (v := 2) C dX12_summedBy_26 (by decide) ?_
      refine q_iadd C dX12_summedBy_27 ?_
      obtain ⟨g3, hF⟩ := grd hF
      refine q_iald C pa_253 (vp_of g3) dX12_summedBy_28 ?_
      refine q_if_lt (tgt := 58) C dX12_summedBy_29 (by decide) (fun c4 => ?_) (fun c4 => ?_)
      · replace hF := ift c4 hF
        cases hF
        refine q_sub [1, 2, 0] rfl ?_
        exact hx0 rfl
      · replace hF := ife c4 hF
        refine q_aload_n C 1 dX12_summedBy_32 rfl rfl ?_
        refine q_iload_n C 2 dX12_summedBy_33 rfl rfl ?_
        refine q_aload_n C 1 dX12_summedBy_34 rfl rfl ?_
        refine qg_11_5 C pi_249 tw_1058 dX12_summedBy_35 ?_
        refine q_iload_n C 0 dX12_summedBy_38 rfl rfl ?_
        refine q_iconst (v := 2) C dX12_summedBy_39 (by decide) ?_
        refine q_iadd C dX12_summedBy_40 ?_
        refine q_iald C pa_253 (vp_of g3) dX12_summedBy_41 ?_
        refine q_aload_n C 1 dX12_summedBy_42 rfl rfl ?_
        refine qg_11_5 C pi_249 tw_1058 dX12_summedBy_43 ?_
        refine q_iload_n C 0 dX12_summedBy_46 rfl rfl ?_
        refine q_iconst (v := 3) C dX12_summedBy_47 (by decide) ?_
        refine q_iadd C dX12_summedBy_48 ?_
        obtain ⟨g5, hF⟩ := grd hF
        refine q_iald C pa_253 (vp_of g5) dX12_summedBy_49 ?_
        obtain ⟨q6, h7, hF⟩ := bnd hF
        try dsimp only at hF
        refine q_callVl C [.int x1, .int (σ.1 253 (((((48 : Int32) * x1) + ((4 : Int32) * x2)) + (2 : Int32)).toNatClampNeg)), .int (σ.1 253 (((((48 : Int32) * x1) + ((4 : Int32) * x2)) + (3 : Int32)).toNatClampNeg))] (c_X12_reckons l D ad ca kz C.2.2.2.2.2.2.1 _ _ _ _ _ _ h7) tw_1462 gm_X12_reckons pi_249.1 (pe_11 pi_249.2) rfl ⟨rfl, rfl⟩ ⟨Nat.le_trans (Nat.le_of_ble_eq_true rfl) hR.1, Nat.le_trans (Nat.le_of_ble_eq_true rfl) hR.2⟩ rfl (Nat.le_of_ble_eq_true rfl) dX12_summedBy_50 q00 ?_
        refine q_lconst (v := 1) C dX12_summedBy_53 (by decide) ?_
        refine q_lcmp C dX12_summedBy_54 ?_
        refine q_if_ne (tgt := 78) C dX12_summedBy_55 (by decide) (fun c8 => ?_) (fun c8 => ?_)
        · replace hF := ife c8 hF
          refine q_iinc C 3 [(2, .int (x2 + 1)), (3, .int (((48 : Int32) * x1) + ((4 : Int32) * x2))), (0, .ref (ad (249))), (1, .int x1)] dX12_summedBy_78 rfl rfl (by decide) rfl ?_
          refine q_goto (tgt := 2) C dX12_summedBy_81 (by decide) ?_
          refine q_sub [2, 3, 0] rfl ?_
          exact ih _ _ _ hF
        · replace hF := ift c8 hF
          cases hF
          refine q_sub [1, 2, 0] rfl ?_
          exact hx0 rfl
set_option maxHeartbeats 4000000 in
set_option maxRecDepth 100000 in
theorem c_X12_summedBy (l : Launch) (D : va_G) (ad : Nat → Nat) (ca : Nat → ClassId) (kz : Nat → Nat) (hJ : pInj ad) (n : Nat) (a1 : Int32) (σ : PS) (out : Int64 × PS) (hF : F_X12_summedBy n a1 σ = some out) : Met l yX12_summedBy (Cond.code yX12_summedBy cX12_summedBy 4 (Option.some Jvm.ClassFile.FieldType.long) :: gw_tbl) { frames := 2, cells := 0, slots := 0, locals := 54 } (va_Pc [.ref (ad (249)), .int a1] (pU D ad ca kz σ)) (pQl D ad ca out) 0 0 (pAD ad) := by
  refine q_entry (own := "AskedCampModel") hJ (by decide) rfl (Nat.le_of_ble_eq_true rfl) (fun p e s m below meth c C hr hlk => ?_)
  refine q_lv [(0, .ref (ad (249))), (1, .int a1)] rfl ?_
  rw [F_X12_summedBy] at hF
  refine q_iconst (v := 0) C dX12_summedBy_0 (by decide) ?_
  refine q_istore_n C [(2, .int 0), (0, .ref (ad (249))), (1, .int a1)] dX12_summedBy_1 rfl (by decide) rfl ?_
  obtain ⟨o9, h10, hF⟩ := bnd hF
  try dsimp only at hF
  refine q_sub [1, 2, 0] rfl ?_
  refine l_X12_summedBy_2 C ⟨Nat.le_of_ble_eq_true rfl, Nat.le_of_ble_eq_true rfl⟩ o9 (fun eo9_0 => ?_) (fun eo9_1 => ?_) n _ _ _ h10
  · -- exit 0
    replace hF := ift eo9_0 hF
    refine q_aload_n C 0 dX12_summedBy_58 rfl rfl ?_
    refine q_iload_n C 1 dX12_summedBy_59 rfl rfl ?_
    refine q_aload_n C 0 dX12_summedBy_60 rfl rfl ?_
    refine qg_11_5 C pi_249 tw_1058 dX12_summedBy_61 ?_
    refine q_iload_n C 2 dX12_summedBy_64 rfl rfl ?_
    obtain ⟨g11, hF⟩ := grd hF
    refine q_iald C pa_253 (vp_of g11) dX12_summedBy_65 ?_
    refine q_aload_n C 0 dX12_summedBy_66 rfl rfl ?_
    refine qg_11_5 C pi_249 tw_1058 dX12_summedBy_67 ?_
    refine q_iload_n C 2 dX12_summedBy_70 rfl rfl ?_
    refine q_iconst (v := 1) C dX12_summedBy_71 (by decide) ?_
    refine q_iadd C dX12_summedBy_72 ?_
    obtain ⟨g12, hF⟩ := grd hF
    refine q_iald C pa_253 (vp_of g12) dX12_summedBy_73 ?_
    obtain ⟨q13, h14, hF⟩ := bnd hF
    try dsimp only at hF
    refine q_callVl C [.int o9.2.1, .int (o9.2.2.2.1 253 o9.2.2.1.toNatClampNeg), .int (o9.2.2.2.1 253 ((o9.2.2.1 + (1 : Int32)).toNatClampNeg))] (c_X12_reckons l D ad ca kz C.2.2.2.2.2.2.1 _ _ _ _ _ _ h14) tw_1462 gm_X12_reckons pi_249.1 (pe_11 pi_249.2) rfl ⟨rfl, rfl⟩ ⟨Nat.le_of_ble_eq_true rfl, Nat.le_of_ble_eq_true rfl⟩ rfl (Nat.le_of_ble_eq_true rfl) dX12_summedBy_74 q00 ?_
    exact q_lret C hr hlk dX12_summedBy_77 hF
  · -- exit 1
    replace hF := ife (by rw [eo9_1]; decide) hF
    refine q_lconst (v := 0) C dX12_summedBy_84 (by decide) ?_
    exact q_lret C hr hlk dX12_summedBy_85 hF
-- X12_tentsOn
def L_X12_tentsOn_4 (n : Nat) : Nat → Int32 → Int32 → Int32 → PS → Option (Int32 × PS)
  | 0, _, _, _, _ => none
  | k + 1, x1, x2, x3, σ => (if (σ.1 259 2) ≤ x3 then some (x2, σ) else (F_X12_cellOf n x3 σ).bind (fun q2 => (if q2.1 = x1 then L_X12_tentsOn_4 n k x1 (x2 ||| ((1 : Int32) <<< (x3 &&& 31))) (x3 + 1) q2.2 else L_X12_tentsOn_4 n k x1 (x2 ||| (0 : Int32)) (x3 + 1) q2.2)))
def F_X12_tentsOn (n : Nat) (a1 : Int32) (σ : PS) : Option (Int32 × PS) := (L_X12_tentsOn_4 n n a1 (0 : Int32) (0 : Int32) σ).bind (fun o5 => some (o5.1, o5.2))
theorem gm_X12_tentsOn : gM "AskedCampModel" yX12_tentsOn (Cond.code yX12_tentsOn cX12_tentsOn 4 (Option.some Jvm.ClassFile.FieldType.int)) 1 := ⟨by decide +kernel, tw_1389, tw_p62, tw_12, tw_1390⟩
set_option maxHeartbeats 4000000 in
set_option maxRecDepth 100000 in
theorem l_X12_tentsOn_4 {p : Program} {l : Launch} {e : Env} {R : Room} {s : State} {m : MethodId} {args : Array Value} {below : List Frame} {meth : Method} {c : Code} {D : va_G} {ad : Nat → Nat} {ca : Nat → ClassId} {kz : Nat → Nat} {Q : State → Prop} (C : pC p s m args c cX12_tentsOn "AskedCampModel" 4 D ad ca kz) (hR : 1 ≤ R.frames ∧ 21 ≤ R.locals) {n : Nat} (o : Int32 × PS) (hx0 : PW p l e R s m args below meth c 4 D ad ca 0 0 Q (o.2) 39 [(2, .int o.1)] []) : ∀ (k : Nat) (x1 : Int32) (x2 : Int32) (x3 : Int32) (σ : PS), L_X12_tentsOn_4 n k x1 x2 x3 σ = some o → PW p l e R s m args below meth c 4 D ad ca 0 0 Q σ 4 [(0, .ref (ad (249))), (1, .int x1), (2, .int x2), (3, .int x3)] [] := by
  intro k
  induction k with
  | zero => intro x1 x2 x3 σ hF; exact nomatch (show (none : Option (Int32 × PS)) = some o from hF)
  | succ k ih =>
    intro x1 x2 x3 σ hF
    rw [L_X12_tentsOn_4] at hF
    refine q_iload_n C 3 dX12_tentsOn_4 rfl rfl ?_
    refine q_aload_n C 0 dX12_tentsOn_5 rfl rfl ?_
    refine qg_11_20 C pi_249 tw_1073 dX12_tentsOn_6 ?_
    refine q_iconst (v := 2) C dX12_tentsOn_9 (by decide) ?_
    refine q_ialdk (jn := 2) C pa_259 (vp_of (by decide)) rfl dX12_tentsOn_10 ?_
    refine q_icmp_ge (tgt := 39) C dX12_tentsOn_11 (by decide) (fun c1 => ?_) (fun c1 => ?_)
    · replace hF := ift c1 hF
      cases hF
      refine q_sub [2] rfl ?_
      exact hx0
    · replace hF := ife c1 hF
      refine q_iload_n C 2 dX12_tentsOn_14 rfl rfl ?_
      refine q_aload_n C 0 dX12_tentsOn_15 rfl rfl ?_
      refine q_iload_n C 3 dX12_tentsOn_16 rfl rfl ?_
      obtain ⟨q2, h3, hF⟩ := bnd hF
      try dsimp only at hF
      refine q_callVi C [.int x3] (c_X12_cellOf l D ad ca kz C.2.2.2.2.2.2.1 _ _ _ _ h3) tw_1391 gm_X12_cellOf pi_249.1 (pe_11 pi_249.2) rfl ⟨rfl, rfl⟩ ⟨Nat.le_trans (Nat.le_of_ble_eq_true rfl) hR.1, Nat.le_trans (Nat.le_of_ble_eq_true rfl) hR.2⟩ rfl (Nat.le_of_ble_eq_true rfl) dX12_tentsOn_17 q00 ?_
      refine q_iload_n C 1 dX12_tentsOn_20 rfl rfl ?_
      refine q_icmp_ne (tgt := 30) C dX12_tentsOn_21 (by decide) (fun c4 => ?_) (fun c4 => ?_)
      · replace hF := ife c4 hF
        refine q_iconst (v := 0) C dX12_tentsOn_30 (by decide) ?_
        refine q_ior C dX12_tentsOn_31 ?_
        refine q_istore_n C [(2, .int (x2 ||| (0 : Int32))), (0, .ref (ad (249))), (1, .int x1), (3, .int x3)] dX12_tentsOn_32 rfl (by decide) rfl ?_
        refine q_iinc C 3 [(3, .int (x3 + 1)), (2, .int (x2 ||| (0 : Int32))), (0, .ref (ad (249))), (1, .int x1)] dX12_tentsOn_33 rfl rfl (by decide) rfl ?_
        refine q_goto (tgt := 4) C dX12_tentsOn_36 (by decide) ?_
        refine q_sub [2, 3, 1, 0] rfl ?_
        exact ih _ _ _ _ hF
      · replace hF := ift c4 hF
        refine q_iconst (v := 1) C dX12_tentsOn_24 (by decide) ?_
        refine q_iload_n C 3 dX12_tentsOn_25 rfl rfl ?_
        refine q_ishl C dX12_tentsOn_26 ?_
        refine q_goto (tgt := 31) C dX12_tentsOn_27 (by decide) ?_
        refine q_ior C dX12_tentsOn_31 ?_
        refine q_istore_n C [(2, .int (x2 ||| ((1 : Int32) <<< (x3 &&& 31)))), (0, .ref (ad (249))), (1, .int x1), (3, .int x3)] dX12_tentsOn_32 rfl (by decide) rfl ?_
        refine q_iinc C 3 [(3, .int (x3 + 1)), (2, .int (x2 ||| ((1 : Int32) <<< (x3 &&& 31)))), (0, .ref (ad (249))), (1, .int x1)] dX12_tentsOn_33 rfl rfl (by decide) rfl ?_
        refine q_goto (tgt := 4) C dX12_tentsOn_36 (by decide) ?_
        refine q_sub [2, 3, 1, 0] rfl ?_
        exact ih _ _ _ _ hF
set_option maxHeartbeats 4000000 in
set_option maxRecDepth 100000 in
theorem c_X12_tentsOn (l : Launch) (D : va_G) (ad : Nat → Nat) (ca : Nat → ClassId) (kz : Nat → Nat) (hJ : pInj ad) (n : Nat) (a1 : Int32) (σ : PS) (out : Int32 × PS) (hF : F_X12_tentsOn n a1 σ = some out) : Met l yX12_tentsOn (Cond.code yX12_tentsOn cX12_tentsOn 4 (Option.some Jvm.ClassFile.FieldType.int) :: gw_tbl) { frames := 1, cells := 0, slots := 0, locals := 21 } (va_Pc [.ref (ad (249)), .int a1] (pU D ad ca kz σ)) (pQi D ad ca out) 0 0 (pAD ad) := by
  refine q_entry (own := "AskedCampModel") hJ (by decide) rfl (Nat.le_of_ble_eq_true rfl) (fun p e s m below meth c C hr hlk => ?_)
  refine q_lv [(0, .ref (ad (249))), (1, .int a1)] rfl ?_
  rw [F_X12_tentsOn] at hF
  refine q_iconst (v := 0) C dX12_tentsOn_0 (by decide) ?_
  refine q_istore_n C [(2, .int 0), (0, .ref (ad (249))), (1, .int a1)] dX12_tentsOn_1 rfl (by decide) rfl ?_
  refine q_iconst (v := 0) C dX12_tentsOn_2 (by decide) ?_
  refine q_istore_n C [(3, .int 0), (2, .int 0), (0, .ref (ad (249))), (1, .int a1)] dX12_tentsOn_3 rfl (by decide) rfl ?_
  obtain ⟨o5, h6, hF⟩ := bnd hF
  try dsimp only at hF
  refine q_sub [2, 3, 1, 0] rfl ?_
  refine l_X12_tentsOn_4 C ⟨Nat.le_of_ble_eq_true rfl, Nat.le_of_ble_eq_true rfl⟩ o5 ?_ n _ _ _ _ h6
  refine q_iload_n C 0 dX12_tentsOn_39 rfl rfl ?_
  exact q_iret C hr hlk dX12_tentsOn_40 hF
-- X12_sumOf
def L_X12_sumOf_8 (n : Nat) : Nat → Int32 → Int32 → Int32 → Int32 → PS → Option (Int32 × Int32 × Int32 × PS)
  | 0, _, _, _, _, _ => none
  | k + 1, x1, x2, x3, x4, σ => (if (σ.1 259 2) ≤ x4 then some (x1, x2, x3, σ) else (F_X12_cellOf n x4 σ).bind (fun q2 => (if q2.1 = x1 then (F_X12_nerveOf n x4 q2.2).bind (fun q5 => (if x2 ≤ q5.1 then L_X12_sumOf_8 n k x1 x2 x3 (x4 + 1) q5.2 else (F_X12_nerveOf n x4 q5.2).bind (fun q8 => L_X12_sumOf_8 n k x1 q8.1 x3 (x4 + 1) q8.2))) else L_X12_sumOf_8 n k x1 x2 x3 (x4 + 1) q2.2)))
def L_X12_sumOf_55 (n : Nat) : Nat → Int32 → Int32 → Int32 → Int32 → PS → Option (Int32 × Int32 × Int32 × PS)
  | 0, _, _, _, _, _ => none
  | k + 1, x1, x2, x3, x4, σ => (if (4 : Int32) ≤ x4 then some (x1, x2, x3, σ) else (F_X12_besideOf n x1 x4 σ).bind (fun q13 => (if q13.1 < 0 then L_X12_sumOf_55 n k x1 x2 (x3 + (0 : Int32)) (x4 + 1) q13.2 else (F_X12_besideOf n x1 x4 q13.2).bind (fun q16 => (F_X12_isBush n q16.1 q16.2).bind (fun q18 => (if q18.1 = 0 then L_X12_sumOf_55 n k x1 x2 (x3 + (0 : Int32)) (x4 + 1) q18.2 else L_X12_sumOf_55 n k x1 x2 (x3 + (1 : Int32)) (x4 + 1) q18.2))))))
def F_X12_sumOf (n : Nat) (a1 : Int32) (σ : PS) : Option (Int64 × PS) := (L_X12_sumOf_8 n n a1 (99 : Int32) (0 : Int32) (0 : Int32) σ).bind (fun o10 => (L_X12_sumOf_55 n n o10.1 o10.2.1 o10.2.2.1 (0 : Int32) o10.2.2.2).bind (fun o21 => (if ((psJ o21.2.2.2 258 0 o21.1.toInt64).1 259 1) = 0 then none else (if ((psJ (psJ o21.2.2.2 258 0 o21.1.toInt64) 258 1 ((o21.1 / ((psJ o21.2.2.2 258 0 o21.1.toInt64).1 259 1)).toInt64)).1 259 1) = 0 then none else (F_X12_tentsOn n o21.1 (psJ (psJ (psJ o21.2.2.2 258 0 o21.1.toInt64) 258 1 ((o21.1 / ((psJ o21.2.2.2 258 0 o21.1.toInt64).1 259 1)).toInt64)) 258 2 ((o21.1 - o21.1 / ((psJ (psJ o21.2.2.2 258 0 o21.1.toInt64) 258 1 ((o21.1 / ((psJ o21.2.2.2 258 0 o21.1.toInt64).1 259 1)).toInt64)).1 259 1) * ((psJ (psJ o21.2.2.2 258 0 o21.1.toInt64) 258 1 ((o21.1 / ((psJ o21.2.2.2 258 0 o21.1.toInt64).1 259 1)).toInt64)).1 259 1)).toInt64))).bind (fun q25 => (F_X12_bits n q25.1 q25.2).bind (fun q27 => (if 0 ≤ ((73 : Int32) + o21.1) ∧ ((73 : Int32) + o21.1).toNatClampNeg < 179 then (F_X12_nearest n o21.1 (psJ (psJ (psJ q27.2 258 3 q27.1.toInt64) 258 4 o21.2.1.toInt64) 258 5 (((psJ (psJ q27.2 258 3 q27.1.toInt64) 258 4 o21.2.1.toInt64).1 259 (((73 : Int32) + o21.1).toNatClampNeg)).toInt64))).bind (fun q30 => (F_X12_bits n ((psJ (psJ q30.2 258 6 q30.1.toInt64) 258 7 o21.2.2.1.toInt64).1 259 12) (psJ (psJ q30.2 258 6 q30.1.toInt64) 258 7 o21.2.2.1.toInt64)).bind (fun q32 => (F_X12_askedAll n (psJ q32.2 258 8 q32.1.toInt64)).bind (fun q34 => (F_X12_summedBy n ((psJ (psJ q34.2 258 9 q34.1.toInt64) 258 10 (((psJ q34.2 258 9 q34.1.toInt64).1 259 10).toInt64)).1 249 21) (psJ (psJ q34.2 258 9 q34.1.toInt64) 258 10 (((psJ q34.2 258 9 q34.1.toInt64).1 259 10).toInt64))).bind (fun q36 => some (q36.1, q36.2))))) else none)))))))
theorem gm_X12_sumOf : gM "AskedCampModel" yX12_sumOf (Cond.code yX12_sumOf cX12_sumOf 5 (Option.some Jvm.ClassFile.FieldType.long)) 1 := ⟨by decide +kernel, tw_1445, tw_p74, tw_12, tw_1446⟩
set_option maxHeartbeats 4000000 in
set_option maxRecDepth 100000 in
theorem l_X12_sumOf_8 {p : Program} {l : Launch} {e : Env} {R : Room} {s : State} {m : MethodId} {args : Array Value} {below : List Frame} {meth : Method} {c : Code} {D : va_G} {ad : Nat → Nat} {ca : Nat → ClassId} {kz : Nat → Nat} {Q : State → Prop} (C : pC p s m args c cX12_sumOf "AskedCampModel" 5 D ad ca kz) (hR : 4 ≤ R.frames ∧ 92 ≤ R.locals) {n : Nat} (o : Int32 × Int32 × Int32 × PS) (hx0 : PW p l e R s m args below meth c 5 D ad ca 0 0 Q (o.2.2.2) 52 [(0, .ref (ad (249))), (1, .int o.1), (2, .int o.2.1), (3, .int o.2.2.1)] []) : ∀ (k : Nat) (x1 : Int32) (x2 : Int32) (x3 : Int32) (x4 : Int32) (σ : PS), L_X12_sumOf_8 n k x1 x2 x3 x4 σ = some o → PW p l e R s m args below meth c 5 D ad ca 0 0 Q σ 8 [(0, .ref (ad (249))), (1, .int x1), (2, .int x2), (3, .int x3), (4, .int x4)] [] := by
  intro k
  induction k with
  | zero => intro x1 x2 x3 x4 σ hF; exact nomatch (show (none : Option (Int32 × Int32 × Int32 × PS)) = some o from hF)
  | succ k ih =>
    intro x1 x2 x3 x4 σ hF
    rw [L_X12_sumOf_8] at hF
    refine q_iload C 4 dX12_sumOf_8 rfl ?_
    refine q_aload_n C 0 dX12_sumOf_10 rfl rfl ?_
    refine qg_11_20 C pi_249 tw_1073 dX12_sumOf_11 ?_
    refine q_iconst (v := 2) C dX12_sumOf_14 (by decide) ?_
    refine q_ialdk (jn := 2) C pa_259 (vp_of (by decide)) rfl dX12_sumOf_15 ?_
    refine q_icmp_ge (tgt := 52) C dX12_sumOf_16 (by decide) (fun c1 => ?_) (fun c1 => ?_)
    · replace hF := ift c1 hF
      cases hF
      refine q_sub [0, 1, 2, 3] rfl ?_
      exact hx0
    · replace hF := ife c1 hF
      refine q_aload_n C 0 dX12_sumOf_19 rfl rfl ?_
      refine q_iload C 4 dX12_sumOf_20 rfl ?_
      obtain ⟨q2, h3, hF⟩ := bnd hF
      try dsimp only at hF
      refine q_callVi C [.int x4] (c_X12_cellOf l D ad ca kz C.2.2.2.2.2.2.1 _ _ _ _ h3) tw_1391 gm_X12_cellOf pi_249.1 (pe_11 pi_249.2) rfl ⟨rfl, rfl⟩ ⟨Nat.le_trans (Nat.le_of_ble_eq_true rfl) hR.1, Nat.le_trans (Nat.le_of_ble_eq_true rfl) hR.2⟩ rfl (Nat.le_of_ble_eq_true rfl) dX12_sumOf_22 q00 ?_
      refine q_iload_n C 1 dX12_sumOf_25 rfl rfl ?_
      refine q_icmp_ne (tgt := 46) C dX12_sumOf_26 (by decide) (fun c4 => ?_) (fun c4 => ?_)
      · replace hF := ife c4 hF
        refine q_iinc C 4 [(4, .int (x4 + 1)), (0, .ref (ad (249))), (1, .int x1), (2, .int x2), (3, .int x3)] dX12_sumOf_46 rfl rfl (by decide) rfl ?_
        refine q_goto (tgt := 8) C dX12_sumOf_49 (by decide) ?_
        refine q_sub [1, 2, 3, 4, 0] rfl ?_
        exact ih _ _ _ _ _ hF
      · replace hF := ift c4 hF
        refine q_aload_n C 0 dX12_sumOf_29 rfl rfl ?_
        refine q_iload C 4 dX12_sumOf_30 rfl ?_
        obtain ⟨q5, h6, hF⟩ := bnd hF
        try dsimp only at hF
        refine q_callVi C [.int x4] (c_X12_nerveOf l D ad ca kz C.2.2.2.2.2.2.1 _ _ _ _ h6) tw_1447 gm_X12_nerveOf pi_249.1 (pe_11 pi_249.2) rfl ⟨rfl, rfl⟩ ⟨Nat.le_trans (Nat.le_of_ble_eq_true rfl) hR.1, Nat.le_trans (Nat.le_of_ble_eq_true rfl) hR.2⟩ rfl (Nat.le_of_ble_eq_true rfl) dX12_sumOf_32 q00 ?_
        refine q_iload_n C 2 dX12_sumOf_35 rfl rfl ?_
        refine q_icmp_ge (tgt := 46) C dX12_sumOf_36 (by decide) (fun c7 => ?_) (fun c7 => ?_)
        · replace hF := ift c7 hF
          refine q_iinc C 4 [(4, .int (x4 + 1)), (0, .ref (ad (249))), (1, .int x1), (2, .int x2), (3, .int x3)] dX12_sumOf_46 rfl rfl (by decide) rfl ?_
          refine q_goto (tgt := 8) C dX12_sumOf_49 (by decide) ?_
          refine q_sub [1, 2, 3, 4, 0] rfl ?_
          exact ih _ _ _ _ _ hF
        · replace hF := ife c7 hF
          refine q_aload_n C 0 dX12_sumOf_39 rfl rfl ?_
          refine q_iload C 4 dX12_sumOf_40 rfl ?_
          obtain ⟨q8, h9, hF⟩ := bnd hF
          try dsimp only at hF
          refine q_callVi C [.int x4] (c_X12_nerveOf l D ad ca kz C.2.2.2.2.2.2.1 _ _ _ _ h9) tw_1447 gm_X12_nerveOf pi_249.1 (pe_11 pi_249.2) rfl ⟨rfl, rfl⟩ ⟨Nat.le_trans (Nat.le_of_ble_eq_true rfl) hR.1, Nat.le_trans (Nat.le_of_ble_eq_true rfl) hR.2⟩ rfl (Nat.le_of_ble_eq_true rfl) dX12_sumOf_42 q00 ?_
          refine q_istore_n C [(2, .int q8.1), (0, .ref (ad (249))), (1, .int x1), (3, .int x3), (4, .int x4)] dX12_sumOf_45 rfl (by decide) rfl ?_
          refine q_iinc C 4 [(4, .int (x4 + 1)), (2, .int q8.1), (0, .ref (ad (249))), (1, .int x1), (3, .int x3)] dX12_sumOf_46 rfl rfl (by decide) rfl ?_
          refine q_goto (tgt := 8) C dX12_sumOf_49 (by decide) ?_
          refine q_sub [2, 3, 1, 4, 0] rfl ?_
          exact ih _ _ _ _ _ hF
set_option maxHeartbeats 4000000 in
set_option maxRecDepth 100000 in
theorem l_X12_sumOf_55 {p : Program} {l : Launch} {e : Env} {R : Room} {s : State} {m : MethodId} {args : Array Value} {below : List Frame} {meth : Method} {c : Code} {D : va_G} {ad : Nat → Nat} {ca : Nat → ClassId} {kz : Nat → Nat} {Q : State → Prop} (C : pC p s m args c cX12_sumOf "AskedCampModel" 5 D ad ca kz) (hR : 4 ≤ R.frames ∧ 92 ≤ R.locals) {n : Nat} (o : Int32 × Int32 × Int32 × PS) (hx0 : PW p l e R s m args below meth c 5 D ad ca 0 0 Q (o.2.2.2) 99 [(0, .ref (ad (249))), (1, .int o.1), (2, .int o.2.1), (3, .int o.2.2.1)] []) : ∀ (k : Nat) (x1 : Int32) (x2 : Int32) (x3 : Int32) (x4 : Int32) (σ : PS), L_X12_sumOf_55 n k x1 x2 x3 x4 σ = some o → PW p l e R s m args below meth c 5 D ad ca 0 0 Q σ 55 [(0, .ref (ad (249))), (1, .int x1), (2, .int x2), (3, .int x3), (4, .int x4)] [] := by
  intro k
  induction k with
  | zero => intro x1 x2 x3 x4 σ hF; exact nomatch (show (none : Option (Int32 × Int32 × Int32 × PS)) = some o from hF)
  | succ k ih =>
    intro x1 x2 x3 x4 σ hF
    rw [L_X12_sumOf_55] at hF
    refine q_iload C 4 dX12_sumOf_55 rfl ?_
    refine q_iconst (v := 4) C dX12_sumOf_57 (by decide) ?_
    refine q_icmp_ge (tgt := 99) C dX12_sumOf_58 (by decide) (fun c12 => ?_) (fun c12 => ?_)
    · replace hF := ift c12 hF
      cases hF
      refine q_sub [0, 1, 2, 3] rfl ?_
      exact hx0
    · replace hF := ife c12 hF
      refine q_iload_n C 3 dX12_sumOf_61 rfl rfl ?_
      refine q_aload_n C 0 dX12_sumOf_62 rfl rfl ?_
      refine q_iload_n C 1 dX12_sumOf_63 rfl rfl ?_
      refine q_iload C 4 dX12_sumOf_64 rfl ?_
      obtain ⟨q13, h14, hF⟩ := bnd hF
      try dsimp only at hF
      refine q_callVi C [.int x1, .int x4] (c_X12_besideOf l D ad ca kz C.2.2.2.2.2.2.1 _ _ _ _ _ h14) tw_1427 gm_X12_besideOf pi_249.1 (pe_11 pi_249.2) rfl ⟨rfl, rfl⟩ ⟨Nat.le_trans (Nat.le_of_ble_eq_true rfl) hR.1, Nat.le_trans (Nat.le_of_ble_eq_true rfl) hR.2⟩ rfl (Nat.le_of_ble_eq_true rfl) dX12_sumOf_66 q00 ?_
      refine q_if_lt (tgt := 90) C dX12_sumOf_69 (by decide) (fun c15 => ?_) (fun c15 => ?_)
      · replace hF := ift c15 hF
        refine q_iconst (v := 0) C dX12_sumOf_90 (by decide) ?_
        refine q_iadd C dX12_sumOf_91 ?_
        refine q_istore_n C [(3, .int (x3 + (0 : Int32))), (0, .ref (ad (249))), (1, .int x1), (2, .int x2), (4, .int x4)] dX12_sumOf_92 rfl (by decide) rfl ?_
        refine q_iinc C 4 [(4, .int (x4 + 1)), (3, .int (x3 + (0 : Int32))), (0, .ref (ad (249))), (1, .int x1), (2, .int x2)] dX12_sumOf_93 rfl rfl (by decide) rfl ?_
        refine q_goto (tgt := 55) C dX12_sumOf_96 (by decide) ?_
        refine q_sub [2, 3, 4, 1, 0] rfl ?_
        exact ih _ _ _ _ _ hF
      · replace hF := ife c15 hF
        refine q_aload_n C 0 dX12_sumOf_72 rfl rfl ?_
        refine q_aload_n C 0 dX12_sumOf_73 rfl rfl ?_
        refine q_iload_n C 1 dX12_sumOf_74 rfl rfl ?_
        refine q_iload C 4 dX12_sumOf_75 rfl ?_
        obtain ⟨q16, h17, hF⟩ := bnd hF
        try dsimp only at hF
        refine q_callVi C [.int x1, .int x4] (c_X12_besideOf l D ad ca kz C.2.2.2.2.2.2.1 _ _ _ _ _ h17) tw_1427 gm_X12_besideOf pi_249.1 (pe_11 pi_249.2) rfl ⟨rfl, rfl⟩ ⟨Nat.le_trans (Nat.le_of_ble_eq_true rfl) hR.1, Nat.le_trans (Nat.le_of_ble_eq_true rfl) hR.2⟩ rfl (Nat.le_of_ble_eq_true rfl) dX12_sumOf_77 q00 ?_
        obtain ⟨q18, h19, hF⟩ := bnd hF
        try dsimp only at hF
        refine q_callVi C [.int q16.1] (c_X12_isBush l D ad ca kz C.2.2.2.2.2.2.1 _ _ _ _ h19) tw_1431 gm_X12_isBush pi_249.1 (pe_11 pi_249.2) rfl ⟨rfl, rfl⟩ ⟨Nat.le_trans (Nat.le_of_ble_eq_true rfl) hR.1, Nat.le_trans (Nat.le_of_ble_eq_true rfl) hR.2⟩ rfl (Nat.le_of_ble_eq_true rfl) dX12_sumOf_80 q00 ?_
        refine q_if_eq (tgt := 90) C dX12_sumOf_83 (by decide) (fun c20 => ?_) (fun c20 => ?_)
        · replace hF := ift c20 hF
          refine q_iconst (v := 0) C dX12_sumOf_90 (by decide) ?_
          refine q_iadd C dX12_sumOf_91 ?_
          refine q_istore_n C [(3, .int (x3 + (0 : Int32))), (0, .ref (ad (249))), (1, .int x1), (2, .int x2), (4, .int x4)] dX12_sumOf_92 rfl (by decide) rfl ?_
          refine q_iinc C 4 [(4, .int (x4 + 1)), (3, .int (x3 + (0 : Int32))), (0, .ref (ad (249))), (1, .int x1), (2, .int x2)] dX12_sumOf_93 rfl rfl (by decide) rfl ?_
          refine q_goto (tgt := 55) C dX12_sumOf_96 (by decide) ?_
          refine q_sub [2, 3, 4, 1, 0] rfl ?_
          exact ih _ _ _ _ _ hF
        · replace hF := ife c20 hF
          refine q_iconst (v := 1) C dX12_sumOf_86 (by decide) ?_
          refine q_goto (tgt := 91) C dX12_sumOf_87 (by decide) ?_
          refine q_iadd C dX12_sumOf_91 ?_
          refine q_istore_n C [(3, .int (x3 + (1 : Int32))), (0, .ref (ad (249))), (1, .int x1), (2, .int x2), (4, .int x4)] dX12_sumOf_92 rfl (by decide) rfl ?_
          refine q_iinc C 4 [(4, .int (x4 + 1)), (3, .int (x3 + (1 : Int32))), (0, .ref (ad (249))), (1, .int x1), (2, .int x2)] dX12_sumOf_93 rfl rfl (by decide) rfl ?_
          refine q_goto (tgt := 55) C dX12_sumOf_96 (by decide) ?_
          refine q_sub [2, 3, 4, 1, 0] rfl ?_
          exact ih _ _ _ _ _ hF
set_option maxHeartbeats 4000000 in
set_option maxRecDepth 100000 in
theorem c_X12_sumOf (l : Launch) (D : va_G) (ad : Nat → Nat) (ca : Nat → ClassId) (kz : Nat → Nat) (hJ : pInj ad) (n : Nat) (a1 : Int32) (σ : PS) (out : Int64 × PS) (hF : F_X12_sumOf n a1 σ = some out) : Met l yX12_sumOf (Cond.code yX12_sumOf cX12_sumOf 5 (Option.some Jvm.ClassFile.FieldType.long) :: gw_tbl) { frames := 4, cells := 0, slots := 0, locals := 92 } (va_Pc [.ref (ad (249)), .int a1] (pU D ad ca kz σ)) (pQl D ad ca out) 0 0 (pAD ad) := by
  refine q_entry (own := "AskedCampModel") hJ (by decide) rfl (Nat.le_of_ble_eq_true rfl) (fun p e s m below meth c C hr hlk => ?_)
  refine q_lv [(0, .ref (ad (249))), (1, .int a1)] rfl ?_
  rw [F_X12_sumOf] at hF
  refine q_bipush (v := 99) C dX12_sumOf_0 (by decide) ?_
  refine q_istore_n C [(2, .int 99), (0, .ref (ad (249))), (1, .int a1)] dX12_sumOf_2 rfl (by decide) rfl ?_
  refine q_iconst (v := 0) C dX12_sumOf_3 (by decide) ?_
  refine q_istore_n C [(3, .int 0), (2, .int 99), (0, .ref (ad (249))), (1, .int a1)] dX12_sumOf_4 rfl (by decide) rfl ?_
  refine q_iconst (v := 0) C dX12_sumOf_5 (by decide) ?_
  refine q_istore C [(4, .int 0), (3, .int 0), (2, .int 99), (0, .ref (ad (249))), (1, .int a1)] dX12_sumOf_6 (by decide) rfl ?_
  obtain ⟨o10, h11, hF⟩ := bnd hF
  try dsimp only at hF
  refine q_sub [3, 4, 2, 1, 0] rfl ?_
  refine l_X12_sumOf_8 C ⟨Nat.le_of_ble_eq_true rfl, Nat.le_of_ble_eq_true rfl⟩ o10 ?_ n _ _ _ _ _ h11
  refine q_iconst (v := 0) C dX12_sumOf_52 (by decide) ?_
  refine q_istore C [(4, .int 0), (0, .ref (ad (249))), (1, .int o10.1), (2, .int o10.2.1), (3, .int o10.2.2.1)] dX12_sumOf_53 (by decide) rfl ?_
  obtain ⟨o21, h22, hF⟩ := bnd hF
  try dsimp only at hF
  refine q_sub [1, 2, 3, 4, 0] rfl ?_
  refine l_X12_sumOf_55 C ⟨Nat.le_of_ble_eq_true rfl, Nat.le_of_ble_eq_true rfl⟩ o21 ?_ n _ _ _ _ _ h22
  refine q_aload_n C 0 dX12_sumOf_99 rfl rfl ?_
  refine qg_11_19 C pi_249 tw_1072 dX12_sumOf_100 ?_
  refine q_iconst (v := 0) C dX12_sumOf_103 (by decide) ?_
  refine q_iload_n C 1 dX12_sumOf_104 rfl rfl ?_
  refine q_i2l C dX12_sumOf_105 ?_
  refine q_lastk (jn := 0) C pa_258 (vp_of (by decide)) rfl dX12_sumOf_106 ?_
  refine q_aload_n C 0 dX12_sumOf_107 rfl rfl ?_
  refine qg_11_19 C pi_249 tw_1072 dX12_sumOf_108 ?_
  refine q_iconst (v := 1) C dX12_sumOf_111 (by decide) ?_
  refine q_iload_n C 1 dX12_sumOf_112 rfl rfl ?_
  refine q_aload_n C 0 dX12_sumOf_113 rfl rfl ?_
  refine qg_11_20 C pi_249 tw_1073 dX12_sumOf_114 ?_
  refine q_iconst (v := 1) C dX12_sumOf_117 (by decide) ?_
  refine q_ialdk (jn := 1) C pa_259 (vp_of (by decide)) rfl dX12_sumOf_118 ?_
  obtain ⟨g23, hF⟩ := grn hF
  refine q_idiv C dX12_sumOf_119 g23 ?_
  refine q_i2l C dX12_sumOf_120 ?_
  refine q_lastk (jn := 1) C pa_258 (vp_of (by decide)) rfl dX12_sumOf_121 ?_
  refine q_aload_n C 0 dX12_sumOf_122 rfl rfl ?_
  refine qg_11_19 C pi_249 tw_1072 dX12_sumOf_123 ?_
  refine q_iconst (v := 2) C dX12_sumOf_126 (by decide) ?_
  refine q_iload_n C 1 dX12_sumOf_127 rfl rfl ?_
  refine q_aload_n C 0 dX12_sumOf_128 rfl rfl ?_
  refine qg_11_20 C pi_249 tw_1073 dX12_sumOf_129 ?_
  refine q_iconst (v := 1) C dX12_sumOf_132 (by decide) ?_
  refine q_ialdk (jn := 1) C pa_259 (vp_of (by decide)) rfl dX12_sumOf_133 ?_
  obtain ⟨g24, hF⟩ := grn hF
  refine q_irem C dX12_sumOf_134 g24 ?_
  refine q_i2l C dX12_sumOf_135 ?_
  refine q_lastk (jn := 2) C pa_258 (vp_of (by decide)) rfl dX12_sumOf_136 ?_
  refine q_aload_n C 0 dX12_sumOf_137 rfl rfl ?_
  refine qg_11_19 C pi_249 tw_1072 dX12_sumOf_138 ?_
  refine q_iconst (v := 3) C dX12_sumOf_141 (by decide) ?_
  refine q_aload_n C 0 dX12_sumOf_142 rfl rfl ?_
  refine q_iload_n C 1 dX12_sumOf_143 rfl rfl ?_
  obtain ⟨q25, h26, hF⟩ := bnd hF
  try dsimp only at hF
  refine q_callVi C [.int o21.1] (c_X12_tentsOn l D ad ca kz C.2.2.2.2.2.2.1 _ _ _ _ h26) tw_1387 gm_X12_tentsOn pi_249.1 (pe_11 pi_249.2) rfl ⟨rfl, rfl⟩ ⟨Nat.le_of_ble_eq_true rfl, Nat.le_of_ble_eq_true rfl⟩ rfl (Nat.le_of_ble_eq_true rfl) dX12_sumOf_144 q00 ?_
  obtain ⟨q27, h28, hF⟩ := bnd hF
  try dsimp only at hF
  refine q_callSi C [.int q25.1] (c_X12_bits l D ad ca kz C.2.2.2.2.2.2.1 _ _ _ _ h28) tw_1451 gm_X12_bits ⟨rfl, rfl⟩ ⟨Nat.le_of_ble_eq_true rfl, Nat.le_of_ble_eq_true rfl⟩ rfl (Nat.le_of_ble_eq_true rfl) dX12_sumOf_147 q00 ?_
  refine q_i2l C dX12_sumOf_150 ?_
  refine q_lastk (jn := 3) C pa_258 (vp_of (by decide)) rfl dX12_sumOf_151 ?_
  refine q_aload_n C 0 dX12_sumOf_152 rfl rfl ?_
  refine qg_11_19 C pi_249 tw_1072 dX12_sumOf_153 ?_
  refine q_iconst (v := 4) C dX12_sumOf_156 (by decide) ?_
  refine q_iload_n C 2 dX12_sumOf_157 rfl rfl ?_
  refine q_i2l C dX12_sumOf_158 ?_
  refine q_lastk (jn := 4) C pa_258 (vp_of (by decide)) rfl dX12_sumOf_159 ?_
  refine q_aload_n C 0 dX12_sumOf_160 rfl rfl ?_
  refine qg_11_19 C pi_249 tw_1072 dX12_sumOf_161 ?_
  refine q_iconst (v := 5) C dX12_sumOf_164 (by decide) ?_
  refine q_aload_n C 0 dX12_sumOf_165 rfl rfl ?_
  refine qg_11_20 C pi_249 tw_1073 dX12_sumOf_166 ?_
  refine q_bipush (v := 73) C dX12_sumOf_169 (by decide) ?_
  refine q_iload_n C 1 dX12_sumOf_171 rfl rfl ?_
  refine q_iadd C dX12_sumOf_172 ?_
  obtain ⟨g29, hF⟩ := grd hF
  refine q_iald C pa_259 (vp_of g29) dX12_sumOf_173 ?_
  refine q_i2l C dX12_sumOf_174 ?_
  refine q_lastk (jn := 5) C pa_258 (vp_of (by decide)) rfl dX12_sumOf_175 ?_
  refine q_aload_n C 0 dX12_sumOf_176 rfl rfl ?_
  refine qg_11_19 C pi_249 tw_1072 dX12_sumOf_177 ?_
  refine q_bipush (v := 6) C dX12_sumOf_180 (by decide) ?_
  refine q_aload_n C 0 dX12_sumOf_182 rfl rfl ?_
  refine q_iload_n C 1 dX12_sumOf_183 rfl rfl ?_
  obtain ⟨q30, h31, hF⟩ := bnd hF
  try dsimp only at hF
  refine q_callVi C [.int o21.1] (c_X12_nearest l D ad ca kz C.2.2.2.2.2.2.1 _ _ _ _ h31) tw_1419 gm_X12_nearest pi_249.1 (pe_11 pi_249.2) rfl ⟨rfl, rfl⟩ ⟨Nat.le_of_ble_eq_true rfl, Nat.le_of_ble_eq_true rfl⟩ rfl (Nat.le_of_ble_eq_true rfl) dX12_sumOf_184 q00 ?_
  refine q_i2l C dX12_sumOf_187 ?_
  refine q_lastk (jn := 6) C pa_258 (vp_of (by decide)) rfl dX12_sumOf_188 ?_
  refine q_aload_n C 0 dX12_sumOf_189 rfl rfl ?_
  refine qg_11_19 C pi_249 tw_1072 dX12_sumOf_190 ?_
  refine q_bipush (v := 7) C dX12_sumOf_193 (by decide) ?_
  refine q_iload_n C 3 dX12_sumOf_195 rfl rfl ?_
  refine q_i2l C dX12_sumOf_196 ?_
  refine q_lastk (jn := 7) C pa_258 (vp_of (by decide)) rfl dX12_sumOf_197 ?_
  refine q_aload_n C 0 dX12_sumOf_198 rfl rfl ?_
  refine qg_11_19 C pi_249 tw_1072 dX12_sumOf_199 ?_
  refine q_bipush (v := 8) C dX12_sumOf_202 (by decide) ?_
  refine q_aload_n C 0 dX12_sumOf_204 rfl rfl ?_
  refine qg_11_20 C pi_249 tw_1073 dX12_sumOf_205 ?_
  refine q_bipush (v := 12) C dX12_sumOf_208 (by decide) ?_
  refine q_ialdk (jn := 12) C pa_259 (vp_of (by decide)) rfl dX12_sumOf_210 ?_
  obtain ⟨q32, h33, hF⟩ := bnd hF
  try dsimp only at hF
  refine q_callSi C [.int ((psJ (psJ q30.2 258 6 q30.1.toInt64) 258 7 o21.2.2.1.toInt64).1 259 12)] (c_X12_bits l D ad ca kz C.2.2.2.2.2.2.1 _ _ _ _ h33) tw_1451 gm_X12_bits ⟨rfl, rfl⟩ ⟨Nat.le_of_ble_eq_true rfl, Nat.le_of_ble_eq_true rfl⟩ rfl (Nat.le_of_ble_eq_true rfl) dX12_sumOf_211 q00 ?_
  refine q_i2l C dX12_sumOf_214 ?_
  refine q_lastk (jn := 8) C pa_258 (vp_of (by decide)) rfl dX12_sumOf_215 ?_
  refine q_aload_n C 0 dX12_sumOf_216 rfl rfl ?_
  refine qg_11_19 C pi_249 tw_1072 dX12_sumOf_217 ?_
  refine q_bipush (v := 9) C dX12_sumOf_220 (by decide) ?_
  refine q_aload_n C 0 dX12_sumOf_222 rfl rfl ?_
  obtain ⟨q34, h35, hF⟩ := bnd hF
  try dsimp only at hF
  refine q_callVi C [] (c_X12_askedAll l D ad ca kz C.2.2.2.2.2.2.1 _ _ _ h35) tw_1454 gm_X12_askedAll pi_249.1 (pe_11 pi_249.2) rfl ⟨rfl, rfl⟩ ⟨Nat.le_of_ble_eq_true rfl, Nat.le_of_ble_eq_true rfl⟩ rfl (Nat.le_of_ble_eq_true rfl) dX12_sumOf_223 q00 ?_
  refine q_i2l C dX12_sumOf_226 ?_
  refine q_lastk (jn := 9) C pa_258 (vp_of (by decide)) rfl dX12_sumOf_227 ?_
  refine q_aload_n C 0 dX12_sumOf_228 rfl rfl ?_
  refine qg_11_19 C pi_249 tw_1072 dX12_sumOf_229 ?_
  refine q_bipush (v := 10) C dX12_sumOf_232 (by decide) ?_
  refine q_aload_n C 0 dX12_sumOf_234 rfl rfl ?_
  refine qg_11_20 C pi_249 tw_1073 dX12_sumOf_235 ?_
  refine q_bipush (v := 10) C dX12_sumOf_238 (by decide) ?_
  refine q_ialdk (jn := 10) C pa_259 (vp_of (by decide)) rfl dX12_sumOf_240 ?_
  refine q_i2l C dX12_sumOf_241 ?_
  refine q_lastk (jn := 10) C pa_258 (vp_of (by decide)) rfl dX12_sumOf_242 ?_
  refine q_aload_n C 0 dX12_sumOf_243 rfl rfl ?_
  refine q_aload_n C 0 dX12_sumOf_244 rfl rfl ?_
  refine qg_11_21 C pi_249 tw_1074 dX12_sumOf_245 ?_
  obtain ⟨q36, h37, hF⟩ := bnd hF
  try dsimp only at hF
  refine q_callVl C [.int ((psJ (psJ q34.2 258 9 q34.1.toInt64) 258 10 (((psJ q34.2 258 9 q34.1.toInt64).1 259 10).toInt64)).1 249 21)] (c_X12_summedBy l D ad ca kz C.2.2.2.2.2.2.1 _ _ _ _ h37) tw_1458 gm_X12_summedBy pi_249.1 (pe_11 pi_249.2) rfl ⟨rfl, rfl⟩ ⟨Nat.le_of_ble_eq_true rfl, Nat.le_of_ble_eq_true rfl⟩ rfl (Nat.le_of_ble_eq_true rfl) dX12_sumOf_248 q00 ?_
  exact q_lret C hr hlk dX12_sumOf_251 hF
-- X12_choice
def L_X12_choice_54 (n : Nat) : Nat → Int32 → Int32 → Int64 → Int32 → Int32 → PS → Option (Int32 × PS)
  | 0, _, _, _, _, _, _ => none
  | k + 1, x1, x2, x3, x5, x6, σ => (F_X12_cells n σ).bind (fun q3 => (if q3.1 ≤ x6 then some (x2, q3.2) else (F_X12_areBeside n x1 x6 q3.2).bind (fun q6 => (if q6.1 = 0 then L_X12_choice_54 n k x1 x2 x3 x5 (x6 + 1) q6.2 else (F_X12_isBush n x6 q6.2).bind (fun q9 => (if q9.1 = 0 then (if 0 ≤ (q9.2.1 249 21) then (F_X12_sumOf n x6 q9.2).bind (fun q13 => (if 0 < (lg_cmp q13.1 x3) then L_X12_choice_54 n k x1 x6 q13.1 x5 (x6 + 1) q13.2 else L_X12_choice_54 n k x1 x2 x3 x5 (x6 + 1) q13.2)) else (F_X12_nearest n x6 q9.2).bind (fun q16 => (if q16.1 = (x5 - (1 : Int32)) then (if 0 < (lg_cmp (1 : Int64) x3) then L_X12_choice_54 n k x1 x6 (1 : Int64) x5 (x6 + 1) q16.2 else L_X12_choice_54 n k x1 x2 x3 x5 (x6 + 1) q16.2) else (if 0 < (lg_cmp (0 : Int64) x3) then L_X12_choice_54 n k x1 x6 (0 : Int64) x5 (x6 + 1) q16.2 else L_X12_choice_54 n k x1 x2 x3 x5 (x6 + 1) q16.2)))) else L_X12_choice_54 n k x1 x2 x3 x5 (x6 + 1) q9.2))))))
def F_X12_choice (n : Nat) (σ : PS) : Option (Int32 × PS) := (if 0 ≤ (σ.1 249 21) then (if 0 ≤ (σ.1 249 21) then (L_X12_choice_54 n n (σ.1 259 11) (σ.1 259 11) (0 : Int64) (0 : Int32) (0 : Int32) σ).bind (fun o21 => some (o21.1, o21.2)) else (if (0 : Int32) = 0 then some ((σ.1 259 11), σ) else (if (0 : Int32) = (99 : Int32) then some ((σ.1 259 11), σ) else (L_X12_choice_54 n n (σ.1 259 11) (σ.1 259 11) (0 : Int64) (0 : Int32) (0 : Int32) σ).bind (fun o25 => some (o25.1, o25.2))))) else (F_X12_nearest n (σ.1 259 11) σ).bind (fun q27 => (if 0 ≤ (q27.2.1 249 21) then (L_X12_choice_54 n n (σ.1 259 11) (σ.1 259 11) (0 : Int64) q27.1 (0 : Int32) q27.2).bind (fun o30 => some (o30.1, o30.2)) else (if q27.1 = 0 then some ((σ.1 259 11), q27.2) else (if q27.1 = (99 : Int32) then some ((σ.1 259 11), q27.2) else (L_X12_choice_54 n n (σ.1 259 11) (σ.1 259 11) (0 : Int64) q27.1 (0 : Int32) q27.2).bind (fun o34 => some (o34.1, o34.2)))))))
theorem gm_X12_choice : gM "AskedCampModel" yX12_choice (Cond.code yX12_choice cX12_choice 9 (Option.some Jvm.ClassFile.FieldType.int)) 0 := ⟨by decide +kernel, tw_1417, tw_p67, tw_12, tw_1418⟩
set_option maxHeartbeats 4000000 in
set_option maxRecDepth 100000 in
theorem l_X12_choice_54 {p : Program} {l : Launch} {e : Env} {R : Room} {s : State} {m : MethodId} {args : Array Value} {below : List Frame} {meth : Method} {c : Code} {D : va_G} {ad : Nat → Nat} {ca : Nat → ClassId} {kz : Nat → Nat} {Q : State → Prop} (C : pC p s m args c cX12_choice "AskedCampModel" 9 D ad ca kz) (hR : 5 ≤ R.frames ∧ 116 ≤ R.locals) {n : Nat} (o : Int32 × PS) (hx0 : PW p l e R s m args below meth c 9 D ad ca 0 0 Q (o.2) 143 [(2, .int o.1)] []) : ∀ (k : Nat) (x1 : Int32) (x2 : Int32) (x3 : Int64) (x5 : Int32) (x6 : Int32) (σ : PS), L_X12_choice_54 n k x1 x2 x3 x5 x6 σ = some o → PW p l e R s m args below meth c 9 D ad ca 0 0 Q σ 54 [(0, .ref (ad (249))), (1, .int x1), (2, .int x2), (3, .long x3), (5, .int x5), (6, .int x6)] [] := by
  intro k
  induction k with
  | zero => intro x1 x2 x3 x5 x6 σ hF; exact nomatch (show (none : Option (Int32 × PS)) = some o from hF)
  | succ k ih =>
    intro x1 x2 x3 x5 x6 σ hF
    rw [L_X12_choice_54] at hF
    refine q_iload C 5 dX12_choice_54 rfl ?_
    refine q_aload_n C 0 dX12_choice_56 rfl rfl ?_
    obtain ⟨q3, h4, hF⟩ := bnd hF
    try dsimp only at hF
    refine q_callVi C [] (c_X12_cells l D ad ca kz C.2.2.2.2.2.2.1 _ _ _ h4) tw_1382 gm_X12_cells pi_249.1 (pe_11 pi_249.2) rfl ⟨rfl, rfl⟩ ⟨Nat.le_trans (Nat.le_of_ble_eq_true rfl) hR.1, Nat.le_trans (Nat.le_of_ble_eq_true rfl) hR.2⟩ rfl (Nat.le_of_ble_eq_true rfl) dX12_choice_57 q00 ?_
    refine q_icmp_ge (tgt := 143) C dX12_choice_60 (by decide) (fun c5 => ?_) (fun c5 => ?_)
    · replace hF := ift c5 hF
      cases hF
      refine q_sub [2] rfl ?_
      exact hx0
    · replace hF := ife c5 hF
      refine q_aload_n C 0 dX12_choice_63 rfl rfl ?_
      refine q_iload_n C 1 dX12_choice_64 rfl rfl ?_
      refine q_iload C 5 dX12_choice_65 rfl ?_
      obtain ⟨q6, h7, hF⟩ := bnd hF
      try dsimp only at hF
      refine q_callVi C [.int x1, .int x6] (c_X12_areBeside l D ad ca kz C.2.2.2.2.2.2.1 _ _ _ _ _ h7) tw_1439 gm_X12_areBeside pi_249.1 (pe_11 pi_249.2) rfl ⟨rfl, rfl⟩ ⟨Nat.le_trans (Nat.le_of_ble_eq_true rfl) hR.1, Nat.le_trans (Nat.le_of_ble_eq_true rfl) hR.2⟩ rfl (Nat.le_of_ble_eq_true rfl) dX12_choice_67 q00 ?_
      refine q_if_eq (tgt := 137) C dX12_choice_70 (by decide) (fun c8 => ?_) (fun c8 => ?_)
      · replace hF := ift c8 hF
        refine q_iinc C 5 [(6, .int (x6 + 1)), (0, .ref (ad (249))), (1, .int x1), (2, .int x2), (3, .long x3), (5, .int x5)] dX12_choice_137 rfl rfl (by decide) rfl ?_
        refine q_goto (tgt := 54) C dX12_choice_140 (by decide) ?_
        refine q_sub [1, 2, 3, 4, 5, 0] rfl ?_
        exact ih _ _ _ _ _ _ hF
      · replace hF := ife c8 hF
        refine q_aload_n C 0 dX12_choice_73 rfl rfl ?_
        refine q_iload C 5 dX12_choice_74 rfl ?_
        obtain ⟨q9, h10, hF⟩ := bnd hF
        try dsimp only at hF
        refine q_callVi C [.int x6] (c_X12_isBush l D ad ca kz C.2.2.2.2.2.2.1 _ _ _ _ h10) tw_1431 gm_X12_isBush pi_249.1 (pe_11 pi_249.2) rfl ⟨rfl, rfl⟩ ⟨Nat.le_trans (Nat.le_of_ble_eq_true rfl) hR.1, Nat.le_trans (Nat.le_of_ble_eq_true rfl) hR.2⟩ rfl (Nat.le_of_ble_eq_true rfl) dX12_choice_76 q00 ?_
        refine q_if_eq (tgt := 85) C dX12_choice_79 (by decide) (fun c11 => ?_) (fun c11 => ?_)
        · replace hF := ift c11 hF
          refine q_aload_n C 0 dX12_choice_85 rfl rfl ?_
          refine qg_11_21 C pi_249 tw_1074 dX12_choice_86 ?_
          refine q_if_ge (tgt := 113) C dX12_choice_89 (by decide) (fun c12 => ?_) (fun c12 => ?_)
          · replace hF := ift c12 hF
            refine q_aload_n C 0 dX12_choice_113 rfl rfl ?_
            refine q_iload C 5 dX12_choice_114 rfl ?_
            obtain ⟨q13, h14, hF⟩ := bnd hF
            try dsimp only at hF
            refine q_callVl C [.int x6] (c_X12_sumOf l D ad ca kz C.2.2.2.2.2.2.1 _ _ _ _ h14) tw_1443 gm_X12_sumOf pi_249.1 (pe_11 pi_249.2) rfl ⟨rfl, rfl⟩ ⟨Nat.le_trans (Nat.le_of_ble_eq_true rfl) hR.1, Nat.le_trans (Nat.le_of_ble_eq_true rfl) hR.2⟩ rfl (Nat.le_of_ble_eq_true rfl) dX12_choice_116 q00 ?_
            refine q_lstore C [(7, .long q13.1), (0, .ref (ad (249))), (1, .int x1), (2, .int x2), (3, .long x3), (5, .int x5), (6, .int x6)] dX12_choice_119 (by decide) rfl ?_
            refine q_lload C 0 dX12_choice_121 rfl ?_
            refine q_lload_n C 4 dX12_choice_123 rfl rfl ?_
            refine q_lcmp C dX12_choice_124 ?_
            refine q_if_gt (tgt := 131) C dX12_choice_125 (by decide) (fun c15 => ?_) (fun c15 => ?_)
            · replace hF := ift c15 hF
              refine q_iload C 6 dX12_choice_131 rfl ?_
              refine q_istore_n C [(2, .int x6), (7, .long q13.1), (0, .ref (ad (249))), (1, .int x1), (3, .long x3), (5, .int x5), (6, .int x6)] dX12_choice_133 rfl (by decide) rfl ?_
              refine q_lload C 1 dX12_choice_134 rfl ?_
              refine q_lstore_n C [(3, .long q13.1), (2, .int x6), (7, .long q13.1), (0, .ref (ad (249))), (1, .int x1), (5, .int x5), (6, .int x6)] dX12_choice_136 rfl (by decide) rfl ?_
              refine q_iinc C 6 [(6, .int (x6 + 1)), (3, .long q13.1), (2, .int x6), (7, .long q13.1), (0, .ref (ad (249))), (1, .int x1), (5, .int x5)] dX12_choice_137 rfl rfl (by decide) rfl ?_
              refine q_goto (tgt := 54) C dX12_choice_140 (by decide) ?_
              refine q_sub [4, 5, 2, 1, 6, 0] rfl ?_
              exact ih _ _ _ _ _ _ hF
            · replace hF := ife c15 hF
              refine q_goto (tgt := 137) C dX12_choice_128 (by decide) ?_
              refine q_iinc C 6 [(6, .int (x6 + 1)), (7, .long q13.1), (0, .ref (ad (249))), (1, .int x1), (2, .int x2), (3, .long x3), (5, .int x5)] dX12_choice_137 rfl rfl (by decide) rfl ?_
              refine q_goto (tgt := 54) C dX12_choice_140 (by decide) ?_
              refine q_sub [2, 3, 4, 5, 6, 0] rfl ?_
              exact ih _ _ _ _ _ _ hF
          · replace hF := ife c12 hF
            refine q_aload_n C 0 dX12_choice_92 rfl rfl ?_
            refine q_iload C 5 dX12_choice_93 rfl ?_
            obtain ⟨q16, h17, hF⟩ := bnd hF
            try dsimp only at hF
            refine q_callVi C [.int x6] (c_X12_nearest l D ad ca kz C.2.2.2.2.2.2.1 _ _ _ _ h17) tw_1419 gm_X12_nearest pi_249.1 (pe_11 pi_249.2) rfl ⟨rfl, rfl⟩ ⟨Nat.le_trans (Nat.le_of_ble_eq_true rfl) hR.1, Nat.le_trans (Nat.le_of_ble_eq_true rfl) hR.2⟩ rfl (Nat.le_of_ble_eq_true rfl) dX12_choice_95 q00 ?_
            refine q_iload C 4 dX12_choice_98 rfl ?_
            refine q_iconst (v := 1) C dX12_choice_100 (by decide) ?_
            refine q_isub C dX12_choice_101 ?_
            refine q_icmp_ne (tgt := 109) C dX12_choice_102 (by decide) (fun c18 => ?_) (fun c18 => ?_)
            · replace hF := ife c18 hF
              refine q_lconst (v := 0) C dX12_choice_109 (by decide) ?_
              refine q_goto (tgt := 119) C dX12_choice_110 (by decide) ?_
              refine q_lstore C [(7, .long ((0 : Int64))), (0, .ref (ad (249))), (1, .int x1), (2, .int x2), (3, .long x3), (5, .int x5), (6, .int x6)] dX12_choice_119 (by decide) rfl ?_
              refine q_lload C 0 dX12_choice_121 rfl ?_
              refine q_lload_n C 4 dX12_choice_123 rfl rfl ?_
              refine q_lcmp C dX12_choice_124 ?_
              refine q_if_gt (tgt := 131) C dX12_choice_125 (by decide) (fun c19 => ?_) (fun c19 => ?_)
              · replace hF := ift c19 hF
                refine q_iload C 6 dX12_choice_131 rfl ?_
                refine q_istore_n C [(2, .int x6), (7, .long ((0 : Int64))), (0, .ref (ad (249))), (1, .int x1), (3, .long x3), (5, .int x5), (6, .int x6)] dX12_choice_133 rfl (by decide) rfl ?_
                refine q_lload C 1 dX12_choice_134 rfl ?_
                refine q_lstore_n C [(3, .long ((0 : Int64))), (2, .int x6), (7, .long ((0 : Int64))), (0, .ref (ad (249))), (1, .int x1), (5, .int x5), (6, .int x6)] dX12_choice_136 rfl (by decide) rfl ?_
                refine q_iinc C 6 [(6, .int (x6 + 1)), (3, .long ((0 : Int64))), (2, .int x6), (7, .long ((0 : Int64))), (0, .ref (ad (249))), (1, .int x1), (5, .int x5)] dX12_choice_137 rfl rfl (by decide) rfl ?_
                refine q_goto (tgt := 54) C dX12_choice_140 (by decide) ?_
                refine q_sub [4, 5, 2, 1, 6, 0] rfl ?_
                exact ih _ _ _ _ _ _ hF
              · replace hF := ife c19 hF
                refine q_goto (tgt := 137) C dX12_choice_128 (by decide) ?_
                refine q_iinc C 6 [(6, .int (x6 + 1)), (7, .long ((0 : Int64))), (0, .ref (ad (249))), (1, .int x1), (2, .int x2), (3, .long x3), (5, .int x5)] dX12_choice_137 rfl rfl (by decide) rfl ?_
                refine q_goto (tgt := 54) C dX12_choice_140 (by decide) ?_
                refine q_sub [2, 3, 4, 5, 6, 0] rfl ?_
                exact ih _ _ _ _ _ _ hF
            · replace hF := ift c18 hF
              refine q_lconst (v := 1) C dX12_choice_105 (by decide) ?_
              refine q_goto (tgt := 119) C dX12_choice_106 (by decide) ?_
              refine q_lstore C [(7, .long ((1 : Int64))), (0, .ref (ad (249))), (1, .int x1), (2, .int x2), (3, .long x3), (5, .int x5), (6, .int x6)] dX12_choice_119 (by decide) rfl ?_
              refine q_lload C 0 dX12_choice_121 rfl ?_
              refine q_lload_n C 4 dX12_choice_123 rfl rfl ?_
              refine q_lcmp C dX12_choice_124 ?_
              refine q_if_gt (tgt := 131) C dX12_choice_125 (by decide) (fun c20 => ?_) (fun c20 => ?_)
              · replace hF := ift c20 hF
                refine q_iload C 6 dX12_choice_131 rfl ?_
                refine q_istore_n C [(2, .int x6), (7, .long ((1 : Int64))), (0, .ref (ad (249))), (1, .int x1), (3, .long x3), (5, .int x5), (6, .int x6)] dX12_choice_133 rfl (by decide) rfl ?_
                refine q_lload C 1 dX12_choice_134 rfl ?_
                refine q_lstore_n C [(3, .long ((1 : Int64))), (2, .int x6), (7, .long ((1 : Int64))), (0, .ref (ad (249))), (1, .int x1), (5, .int x5), (6, .int x6)] dX12_choice_136 rfl (by decide) rfl ?_
                refine q_iinc C 6 [(6, .int (x6 + 1)), (3, .long ((1 : Int64))), (2, .int x6), (7, .long ((1 : Int64))), (0, .ref (ad (249))), (1, .int x1), (5, .int x5)] dX12_choice_137 rfl rfl (by decide) rfl ?_
                refine q_goto (tgt := 54) C dX12_choice_140 (by decide) ?_
                refine q_sub [4, 5, 2, 1, 6, 0] rfl ?_
                exact ih _ _ _ _ _ _ hF
              · replace hF := ife c20 hF
                refine q_goto (tgt := 137) C dX12_choice_128 (by decide) ?_
                refine q_iinc C 6 [(6, .int (x6 + 1)), (7, .long ((1 : Int64))), (0, .ref (ad (249))), (1, .int x1), (2, .int x2), (3, .long x3), (5, .int x5)] dX12_choice_137 rfl rfl (by decide) rfl ?_
                refine q_goto (tgt := 54) C dX12_choice_140 (by decide) ?_
                refine q_sub [2, 3, 4, 5, 6, 0] rfl ?_
                exact ih _ _ _ _ _ _ hF
        · replace hF := ife c11 hF
          refine q_goto (tgt := 137) C dX12_choice_82 (by decide) ?_
          refine q_iinc C 5 [(6, .int (x6 + 1)), (0, .ref (ad (249))), (1, .int x1), (2, .int x2), (3, .long x3), (5, .int x5)] dX12_choice_137 rfl rfl (by decide) rfl ?_
          refine q_goto (tgt := 54) C dX12_choice_140 (by decide) ?_
          refine q_sub [1, 2, 3, 4, 5, 0] rfl ?_
          exact ih _ _ _ _ _ _ hF
set_option maxHeartbeats 4000000 in
set_option maxRecDepth 100000 in
theorem c_X12_choice (l : Launch) (D : va_G) (ad : Nat → Nat) (ca : Nat → ClassId) (kz : Nat → Nat) (hJ : pInj ad) (n : Nat) (σ : PS) (out : Int32 × PS) (hF : F_X12_choice n σ = some out) : Met l yX12_choice (Cond.code yX12_choice cX12_choice 9 (Option.some Jvm.ClassFile.FieldType.int) :: gw_tbl) { frames := 5, cells := 0, slots := 0, locals := 116 } (va_Pc [.ref (ad (249))] (pU D ad ca kz σ)) (pQi D ad ca out) 0 0 (pAD ad) := by
  refine q_entry (own := "AskedCampModel") hJ (by decide) rfl (Nat.le_of_ble_eq_true rfl) (fun p e s m below meth c C hr hlk => ?_)
  refine q_lv [(0, .ref (ad (249)))] rfl ?_
  rw [F_X12_choice] at hF
  refine q_aload_n C 0 dX12_choice_0 rfl rfl ?_
  refine qg_11_20 C pi_249 tw_1073 dX12_choice_1 ?_
  refine q_bipush (v := 11) C dX12_choice_4 (by decide) ?_
  refine q_ialdk (jn := 11) C pa_259 (vp_of (by decide)) rfl dX12_choice_6 ?_
  refine q_istore_n C [(1, .int (σ.1 259 11)), (0, .ref (ad (249)))] dX12_choice_7 rfl (by decide) rfl ?_
  refine q_iload_n C 0 dX12_choice_8 rfl rfl ?_
  refine q_istore_n C [(2, .int (σ.1 259 11)), (1, .int (σ.1 259 11)), (0, .ref (ad (249)))] dX12_choice_9 rfl (by decide) rfl ?_
  refine q_lconst (v := 0) C dX12_choice_10 (by decide) ?_
  refine q_lstore_n C [(3, .long ((0 : Int64))), (2, .int (σ.1 259 11)), (1, .int (σ.1 259 11)), (0, .ref (ad (249)))] dX12_choice_11 rfl (by decide) rfl ?_
  refine q_aload_n C 3 dX12_choice_12 rfl rfl ?_
  refine qg_11_21 C pi_249 tw_1074 dX12_choice_13 ?_
  refine q_if_ge (tgt := 27) C dX12_choice_16 (by decide) (fun c1 => ?_) (fun c1 => ?_)
  · replace hF := ift c1 hF
    refine q_iconst (v := 0) C dX12_choice_27 (by decide) ?_
    refine q_istore C [(5, .int 0), (3, .long ((0 : Int64))), (2, .int (σ.1 259 11)), (1, .int (σ.1 259 11)), (0, .ref (ad (249)))] dX12_choice_28 (by decide) rfl ?_
    refine q_aload_n C 4 dX12_choice_30 rfl rfl ?_
    refine qg_11_21 C pi_249 tw_1074 dX12_choice_31 ?_
    refine q_if_ge (tgt := 51) C dX12_choice_34 (by decide) (fun c2 => ?_) (fun c2 => ?_)
    · replace hF := ift c2 hF
      refine q_iconst (v := 0) C dX12_choice_51 (by decide) ?_
      refine q_istore C [(6, .int 0), (5, .int 0), (3, .long ((0 : Int64))), (2, .int (σ.1 259 11)), (1, .int (σ.1 259 11)), (0, .ref (ad (249)))] dX12_choice_52 (by decide) rfl ?_
      obtain ⟨o21, h22, hF⟩ := bnd hF
      try dsimp only at hF
      refine q_sub [5, 4, 3, 2, 1, 0] rfl ?_
      refine l_X12_choice_54 C ⟨Nat.le_of_ble_eq_true rfl, Nat.le_of_ble_eq_true rfl⟩ o21 ?_ n _ _ _ _ _ _ h22
      refine q_iload_n C 0 dX12_choice_143 rfl rfl ?_
      exact q_iret C hr hlk dX12_choice_144 hF
    · replace hF := ife c2 hF
      refine q_iload C 0 dX12_choice_37 rfl ?_
      refine q_if_eq (tgt := 49) C dX12_choice_39 (by decide) (fun c23 => ?_) (fun c23 => ?_)
      · replace hF := ift c23 hF
        refine q_iload_n C 3 dX12_choice_49 rfl rfl ?_
        exact q_iret C hr hlk dX12_choice_50 hF
      · replace hF := ife c23 hF
        refine q_iload C 0 dX12_choice_42 rfl ?_
        refine q_bipush (v := 99) C dX12_choice_44 (by decide) ?_
        refine q_icmp_ne (tgt := 51) C dX12_choice_46 (by decide) (fun c24 => ?_) (fun c24 => ?_)
        · replace hF := ife c24 hF
          refine q_iconst (v := 0) C dX12_choice_51 (by decide) ?_
          refine q_istore C [(6, .int 0), (5, .int 0), (3, .long ((0 : Int64))), (2, .int (σ.1 259 11)), (1, .int (σ.1 259 11)), (0, .ref (ad (249)))] dX12_choice_52 (by decide) rfl ?_
          obtain ⟨o25, h26, hF⟩ := bnd hF
          try dsimp only at hF
          refine q_sub [5, 4, 3, 2, 1, 0] rfl ?_
          refine l_X12_choice_54 C ⟨Nat.le_of_ble_eq_true rfl, Nat.le_of_ble_eq_true rfl⟩ o25 ?_ n _ _ _ _ _ _ h26
          refine q_iload_n C 0 dX12_choice_143 rfl rfl ?_
          exact q_iret C hr hlk dX12_choice_144 hF
        · replace hF := ift c24 hF
          refine q_iload_n C 3 dX12_choice_49 rfl rfl ?_
          exact q_iret C hr hlk dX12_choice_50 hF
  · replace hF := ife c1 hF
    refine q_aload_n C 3 dX12_choice_19 rfl rfl ?_
    refine q_iload_n C 2 dX12_choice_20 rfl rfl ?_
    obtain ⟨q27, h28, hF⟩ := bnd hF
    try dsimp only at hF
    refine q_callVi C [.int (σ.1 259 11)] (c_X12_nearest l D ad ca kz C.2.2.2.2.2.2.1 _ _ _ _ h28) tw_1419 gm_X12_nearest pi_249.1 (pe_11 pi_249.2) rfl ⟨rfl, rfl⟩ ⟨Nat.le_of_ble_eq_true rfl, Nat.le_of_ble_eq_true rfl⟩ rfl (Nat.le_of_ble_eq_true rfl) dX12_choice_21 q00 ?_
    refine q_goto (tgt := 28) C dX12_choice_24 (by decide) ?_
    refine q_istore C [(5, .int q27.1), (3, .long ((0 : Int64))), (2, .int (σ.1 259 11)), (1, .int (σ.1 259 11)), (0, .ref (ad (249)))] dX12_choice_28 (by decide) rfl ?_
    refine q_aload_n C 4 dX12_choice_30 rfl rfl ?_
    refine qg_11_21 C pi_249 tw_1074 dX12_choice_31 ?_
    refine q_if_ge (tgt := 51) C dX12_choice_34 (by decide) (fun c29 => ?_) (fun c29 => ?_)
    · replace hF := ift c29 hF
      refine q_iconst (v := 0) C dX12_choice_51 (by decide) ?_
      refine q_istore C [(6, .int 0), (5, .int q27.1), (3, .long ((0 : Int64))), (2, .int (σ.1 259 11)), (1, .int (σ.1 259 11)), (0, .ref (ad (249)))] dX12_choice_52 (by decide) rfl ?_
      obtain ⟨o30, h31, hF⟩ := bnd hF
      try dsimp only at hF
      refine q_sub [5, 4, 3, 2, 1, 0] rfl ?_
      refine l_X12_choice_54 C ⟨Nat.le_of_ble_eq_true rfl, Nat.le_of_ble_eq_true rfl⟩ o30 ?_ n _ _ _ _ _ _ h31
      refine q_iload_n C 0 dX12_choice_143 rfl rfl ?_
      exact q_iret C hr hlk dX12_choice_144 hF
    · replace hF := ife c29 hF
      refine q_iload C 0 dX12_choice_37 rfl ?_
      refine q_if_eq (tgt := 49) C dX12_choice_39 (by decide) (fun c32 => ?_) (fun c32 => ?_)
      · replace hF := ift c32 hF
        refine q_iload_n C 3 dX12_choice_49 rfl rfl ?_
        exact q_iret C hr hlk dX12_choice_50 hF
      · replace hF := ife c32 hF
        refine q_iload C 0 dX12_choice_42 rfl ?_
        refine q_bipush (v := 99) C dX12_choice_44 (by decide) ?_
        refine q_icmp_ne (tgt := 51) C dX12_choice_46 (by decide) (fun c33 => ?_) (fun c33 => ?_)
        · replace hF := ife c33 hF
          refine q_iconst (v := 0) C dX12_choice_51 (by decide) ?_
          refine q_istore C [(6, .int 0), (5, .int q27.1), (3, .long ((0 : Int64))), (2, .int (σ.1 259 11)), (1, .int (σ.1 259 11)), (0, .ref (ad (249)))] dX12_choice_52 (by decide) rfl ?_
          obtain ⟨o34, h35, hF⟩ := bnd hF
          try dsimp only at hF
          refine q_sub [5, 4, 3, 2, 1, 0] rfl ?_
          refine l_X12_choice_54 C ⟨Nat.le_of_ble_eq_true rfl, Nat.le_of_ble_eq_true rfl⟩ o34 ?_ n _ _ _ _ _ _ h35
          refine q_iload_n C 0 dX12_choice_143 rfl rfl ?_
          exact q_iret C hr hlk dX12_choice_144 hF
        · replace hF := ift c33 hF
          refine q_iload_n C 3 dX12_choice_49 rfl rfl ?_
          exact q_iret C hr hlk dX12_choice_50 hF
-- X12_isOf
def F_X12_isOf (n : Nat) (a0 : Int32) (a1 : Int32) (σ : PS) : Option (Int32 × PS) := (if ((a0 >>> (a1 &&& 31)) &&& (1 : Int32)) = (1 : Int32) then some ((1 : Int32), σ) else some ((0 : Int32), σ))
theorem gm_X12_isOf : gS yX12_isOf (Cond.code yX12_isOf cX12_isOf 2 (Option.some Jvm.ClassFile.FieldType.boolean)) 2 := ⟨by decide +kernel, tw_1478, tw_12, tw_1479⟩
set_option maxHeartbeats 4000000 in
set_option maxRecDepth 100000 in
theorem c_X12_isOf (l : Launch) (D : va_G) (ad : Nat → Nat) (ca : Nat → ClassId) (kz : Nat → Nat) (hJ : pInj ad) (n : Nat) (a0 : Int32) (a1 : Int32) (σ : PS) (out : Int32 × PS) (hF : F_X12_isOf n a0 a1 σ = some out) : Met l yX12_isOf (Cond.code yX12_isOf cX12_isOf 2 (Option.some Jvm.ClassFile.FieldType.boolean) :: gw_tbl) { frames := 0, cells := 0, slots := 0, locals := 0 } (va_Pc [.int a0, .int a1] (pU D ad ca kz σ)) (pQi D ad ca out) 0 0 (pAD ad) := by
  refine q_entry (own := "AskedCampModel") hJ (by decide) rfl (Nat.le_of_ble_eq_true rfl) (fun p e s m below meth c C hr hlk => ?_)
  refine q_lv [(0, .int a0), (1, .int a1)] rfl ?_
  rw [F_X12_isOf] at hF
  refine q_iload_n C 0 dX12_isOf_0 rfl rfl ?_
  refine q_iload_n C 1 dX12_isOf_1 rfl rfl ?_
  refine q_ishr C dX12_isOf_2 ?_
  refine q_iconst (v := 1) C dX12_isOf_3 (by decide) ?_
  refine q_iand C dX12_isOf_4 ?_
  refine q_iconst (v := 1) C dX12_isOf_5 (by decide) ?_
  refine q_icmp_ne (tgt := 13) C dX12_isOf_6 (by decide) (fun c1 => ?_) (fun c1 => ?_)
  · replace hF := ife c1 hF
    refine q_iconst (v := 0) C dX12_isOf_13 (by decide) ?_
    exact q_zret C hr hlk dX12_isOf_14 (by decide) hF
  · replace hF := ift c1 hF
    refine q_iconst (v := 1) C dX12_isOf_9 (by decide) ?_
    refine q_goto (tgt := 14) C dX12_isOf_10 (by decide) ?_
    exact q_zret C hr hlk dX12_isOf_14 (by decide) hF
-- X12_passes
def L_X12_passes_44 (n : Nat) : Nat → Int32 → Int32 → PS → Option (Int32 × PS)
  | 0, _, _, _ => none
  | k + 1, x1, x2, σ => (if (σ.1 259 2) ≤ x2 then some (x1, σ) else (F_X12_isOf n x1 x2 σ).bind (fun q7 => (if q7.1 = 0 then L_X12_passes_44 n k x1 (x2 + 1) q7.2 else (F_X12_asks n x2 q7.2).bind (fun q10 => L_X12_passes_44 n k x1 (x2 + 1) q10))))
def F_X12_passes (n : Nat) (σ : PS) : Option (Int32 × PS) := (F_X12_choice n σ).bind (fun q1 => (if 0 ≤ ((73 : Int32) + ((psI q1.2 259 11 q1.1).1 259 11)) ∧ ((73 : Int32) + ((psI q1.2 259 11 q1.1).1 259 11)).toNatClampNeg < 179 then (F_X12_tentsOn n ((psI (psI q1.2 259 11 q1.1) 259 (((73 : Int32) + ((psI q1.2 259 11 q1.1).1 259 11)).toNatClampNeg) (((psI q1.2 259 11 q1.1).1 259 (((73 : Int32) + ((psI q1.2 259 11 q1.1).1 259 11)).toNatClampNeg)) + (1 : Int32))).1 259 11) (psI (psI q1.2 259 11 q1.1) 259 (((73 : Int32) + ((psI q1.2 259 11 q1.1).1 259 11)).toNatClampNeg) (((psI q1.2 259 11 q1.1).1 259 (((73 : Int32) + ((psI q1.2 259 11 q1.1).1 259 11)).toNatClampNeg)) + (1 : Int32)))).bind (fun q4 => (L_X12_passes_44 n n q4.1 (0 : Int32) q4.2).bind (fun o12 => some (o12.1, psI o12.2 259 10 ((o12.2.1 259 10) + (1 : Int32))))) else none))
theorem gm_X12_passes : gM "AskedCampModel" yX12_passes (Cond.code yX12_passes cX12_passes 3 (Option.some Jvm.ClassFile.FieldType.int)) 0 := ⟨by decide +kernel, tw_1413, tw_p66, tw_12, tw_1414⟩
set_option maxHeartbeats 4000000 in
set_option maxRecDepth 100000 in
theorem l_X12_passes_44 {p : Program} {l : Launch} {e : Env} {R : Room} {s : State} {m : MethodId} {args : Array Value} {below : List Frame} {meth : Method} {c : Code} {D : va_G} {ad : Nat → Nat} {ca : Nat → ClassId} {kz : Nat → Nat} {Q : State → Prop} (C : pC p s m args c cX12_passes "AskedCampModel" 3 D ad ca kz) (hR : 6 ≤ R.frames ∧ 144 ≤ R.locals) {n : Nat} (o : Int32 × PS) (hx0 : PW p l e R s m args below meth c 3 D ad ca 0 0 Q (o.2) 73 [(0, .ref (ad (249))), (1, .int o.1)] []) : ∀ (k : Nat) (x1 : Int32) (x2 : Int32) (σ : PS), L_X12_passes_44 n k x1 x2 σ = some o → PW p l e R s m args below meth c 3 D ad ca 0 0 Q σ 44 [(0, .ref (ad (249))), (1, .int x1), (2, .int x2)] [] := by
  intro k
  induction k with
  | zero => intro x1 x2 σ hF; exact nomatch (show (none : Option (Int32 × PS)) = some o from hF)
  | succ k ih =>
    intro x1 x2 σ hF
    rw [L_X12_passes_44] at hF
    refine q_iload_n C 2 dX12_passes_44 rfl rfl ?_
    refine q_aload_n C 0 dX12_passes_45 rfl rfl ?_
    refine qg_11_20 C pi_249 tw_1073 dX12_passes_46 ?_
    refine q_iconst (v := 2) C dX12_passes_49 (by decide) ?_
    refine q_ialdk (jn := 2) C pa_259 (vp_of (by decide)) rfl dX12_passes_50 ?_
    refine q_icmp_ge (tgt := 73) C dX12_passes_51 (by decide) (fun c6 => ?_) (fun c6 => ?_)
    · replace hF := ift c6 hF
      cases hF
      refine q_sub [0, 1] rfl ?_
      exact hx0
    · replace hF := ife c6 hF
      refine q_iload_n C 1 dX12_passes_54 rfl rfl ?_
      refine q_iload_n C 2 dX12_passes_55 rfl rfl ?_
      obtain ⟨q7, h8, hF⟩ := bnd hF
      try dsimp only at hF
      refine q_callSi C [.int x1, .int x2] (c_X12_isOf l D ad ca kz C.2.2.2.2.2.2.1 _ _ _ _ _ h8) tw_1477 gm_X12_isOf ⟨rfl, rfl⟩ ⟨Nat.le_trans (Nat.le_of_ble_eq_true rfl) hR.1, Nat.le_trans (Nat.le_of_ble_eq_true rfl) hR.2⟩ rfl (Nat.le_of_ble_eq_true rfl) dX12_passes_56 q00 ?_
      refine q_if_eq (tgt := 67) C dX12_passes_59 (by decide) (fun c9 => ?_) (fun c9 => ?_)
      · replace hF := ift c9 hF
        refine q_iinc C 2 [(2, .int (x2 + 1)), (0, .ref (ad (249))), (1, .int x1)] dX12_passes_67 rfl rfl (by decide) rfl ?_
        refine q_goto (tgt := 44) C dX12_passes_70 (by decide) ?_
        refine q_sub [1, 2, 0] rfl ?_
        exact ih _ _ _ hF
      · replace hF := ife c9 hF
        refine q_aload_n C 0 dX12_passes_62 rfl rfl ?_
        refine q_iload_n C 2 dX12_passes_63 rfl rfl ?_
        obtain ⟨q10, h11, hF⟩ := bnd hF
        try dsimp only at hF
        refine q_callVv C [.int x2] (c_X12_asks l D ad ca kz C.2.2.2.2.2.2.1 _ _ _ _ h11) tw_1480 gm_X12_asks pi_249.1 (pe_11 pi_249.2) rfl ⟨rfl, rfl⟩ ⟨Nat.le_trans (Nat.le_of_ble_eq_true rfl) hR.1, Nat.le_trans (Nat.le_of_ble_eq_true rfl) hR.2⟩ rfl (Nat.le_of_ble_eq_true rfl) dX12_passes_64 q00 ?_
        refine q_iinc C 2 [(2, .int (x2 + 1)), (0, .ref (ad (249))), (1, .int x1)] dX12_passes_67 rfl rfl (by decide) rfl ?_
        refine q_goto (tgt := 44) C dX12_passes_70 (by decide) ?_
        refine q_sub [1, 2, 0] rfl ?_
        exact ih _ _ _ hF
set_option maxHeartbeats 4000000 in
set_option maxRecDepth 100000 in
theorem c_X12_passes (l : Launch) (D : va_G) (ad : Nat → Nat) (ca : Nat → ClassId) (kz : Nat → Nat) (hJ : pInj ad) (n : Nat) (σ : PS) (out : Int32 × PS) (hF : F_X12_passes n σ = some out) : Met l yX12_passes (Cond.code yX12_passes cX12_passes 3 (Option.some Jvm.ClassFile.FieldType.int) :: gw_tbl) { frames := 6, cells := 0, slots := 0, locals := 144 } (va_Pc [.ref (ad (249))] (pU D ad ca kz σ)) (pQi D ad ca out) 0 0 (pAD ad) := by
  refine q_entry (own := "AskedCampModel") hJ (by decide) rfl (Nat.le_of_ble_eq_true rfl) (fun p e s m below meth c C hr hlk => ?_)
  refine q_lv [(0, .ref (ad (249)))] rfl ?_
  rw [F_X12_passes] at hF
  refine q_aload_n C 0 dX12_passes_0 rfl rfl ?_
  refine qg_11_20 C pi_249 tw_1073 dX12_passes_1 ?_
  refine q_bipush (v := 11) C dX12_passes_4 (by decide) ?_
  refine q_aload_n C 0 dX12_passes_6 rfl rfl ?_
  obtain ⟨q1, h2, hF⟩ := bnd hF
  try dsimp only at hF
  refine q_callVi C [] (c_X12_choice l D ad ca kz C.2.2.2.2.2.2.1 _ _ _ h2) tw_1415 gm_X12_choice pi_249.1 (pe_11 pi_249.2) rfl ⟨rfl, rfl⟩ ⟨Nat.le_of_ble_eq_true rfl, Nat.le_of_ble_eq_true rfl⟩ rfl (Nat.le_of_ble_eq_true rfl) dX12_passes_7 q00 ?_
  refine q_iastk (jn := 11) C pa_259 (vp_of (by decide)) rfl dX12_passes_10 ?_
  refine q_aload_n C 0 dX12_passes_11 rfl rfl ?_
  refine qg_11_20 C pi_249 tw_1073 dX12_passes_12 ?_
  refine q_bipush (v := 73) C dX12_passes_15 (by decide) ?_
  refine q_aload_n C 0 dX12_passes_17 rfl rfl ?_
  refine qg_11_20 C pi_249 tw_1073 dX12_passes_18 ?_
  refine q_bipush (v := 11) C dX12_passes_21 (by decide) ?_
  refine q_ialdk (jn := 11) C pa_259 (vp_of (by decide)) rfl dX12_passes_23 ?_
  refine q_iadd C dX12_passes_24 ?_
  refine q_dup2 C dX12_passes_25 rfl rfl ?_
  obtain ⟨g3, hF⟩ := grd hF
  refine q_iald C pa_259 (vp_of g3) dX12_passes_26 ?_
  refine q_iconst (v := 1) C dX12_passes_27 (by decide) ?_
  refine q_iadd C dX12_passes_28 ?_
  refine q_iast C pa_259 (vp_of g3) dX12_passes_29 ?_
  refine q_aload_n C 0 dX12_passes_30 rfl rfl ?_
  refine q_aload_n C 0 dX12_passes_31 rfl rfl ?_
  refine qg_11_20 C pi_249 tw_1073 dX12_passes_32 ?_
  refine q_bipush (v := 11) C dX12_passes_35 (by decide) ?_
  refine q_ialdk (jn := 11) C pa_259 (vp_of (by decide)) rfl dX12_passes_37 ?_
  obtain ⟨q4, h5, hF⟩ := bnd hF
  try dsimp only at hF
  refine q_callVi C [.int ((psI (psI q1.2 259 11 q1.1) 259 (((73 : Int32) + ((psI q1.2 259 11 q1.1).1 259 11)).toNatClampNeg) (((psI q1.2 259 11 q1.1).1 259 (((73 : Int32) + ((psI q1.2 259 11 q1.1).1 259 11)).toNatClampNeg)) + (1 : Int32))).1 259 11)] (c_X12_tentsOn l D ad ca kz C.2.2.2.2.2.2.1 _ _ _ _ h5) tw_1387 gm_X12_tentsOn pi_249.1 (pe_11 pi_249.2) rfl ⟨rfl, rfl⟩ ⟨Nat.le_of_ble_eq_true rfl, Nat.le_of_ble_eq_true rfl⟩ rfl (Nat.le_of_ble_eq_true rfl) dX12_passes_38 q00 ?_
  refine q_istore_n C [(1, .int q4.1), (0, .ref (ad (249)))] dX12_passes_41 rfl (by decide) rfl ?_
  refine q_iconst (v := 0) C dX12_passes_42 (by decide) ?_
  refine q_istore_n C [(2, .int 0), (1, .int q4.1), (0, .ref (ad (249)))] dX12_passes_43 rfl (by decide) rfl ?_
  obtain ⟨o12, h13, hF⟩ := bnd hF
  try dsimp only at hF
  refine q_sub [2, 1, 0] rfl ?_
  refine l_X12_passes_44 C ⟨Nat.le_of_ble_eq_true rfl, Nat.le_of_ble_eq_true rfl⟩ o12 ?_ n _ _ _ h13
  refine q_aload_n C 0 dX12_passes_73 rfl rfl ?_
  refine qg_11_20 C pi_249 tw_1073 dX12_passes_74 ?_
  refine q_bipush (v := 10) C dX12_passes_77 (by decide) ?_
  refine q_dup2 C dX12_passes_79 rfl rfl ?_
  refine q_ialdk (jn := 10) C pa_259 (vp_of (by decide)) rfl dX12_passes_80 ?_
  refine q_iconst (v := 1) C dX12_passes_81 (by decide) ?_
  refine q_iadd C dX12_passes_82 ?_
  refine q_iastk (jn := 10) C pa_259 (vp_of (by decide)) rfl dX12_passes_83 ?_
  refine q_iload_n C 1 dX12_passes_84 rfl rfl ?_
  exact q_iret C hr hlk dX12_passes_85 hF
-- X12_passesAll
def L_X12_passesAll_2 (n : Nat) : Nat → Int32 → Int32 → PS → Option (PS)
  | 0, _, _, _ => none
  | k + 1, x1, x2, σ => (if x1 ≤ x2 then some σ else (F_X12_passes n σ).bind (fun q2 => L_X12_passesAll_2 n k x1 (x2 + 1) q2.2))
def F_X12_passesAll (n : Nat) (a1 : Int32) (σ : PS) : Option (PS) := (L_X12_passesAll_2 n n a1 (0 : Int32) σ).bind (fun o4 => some o4)
theorem gm_X12_passesAll : gM "AskedCampModel" yX12_passesAll (Cond.code yX12_passesAll cX12_passesAll 3 (Option.none : Option Jvm.ClassFile.FieldType)) 1 := ⟨by decide +kernel, tw_1520, tw_p85, tw_12, tw_1521⟩
set_option maxHeartbeats 4000000 in
set_option maxRecDepth 100000 in
theorem l_X12_passesAll_2 {p : Program} {l : Launch} {e : Env} {R : Room} {s : State} {m : MethodId} {args : Array Value} {below : List Frame} {meth : Method} {c : Code} {D : va_G} {ad : Nat → Nat} {ca : Nat → ClassId} {kz : Nat → Nat} {Q : State → Prop} (C : pC p s m args c cX12_passesAll "AskedCampModel" 3 D ad ca kz) (hR : 7 ≤ R.frames ∧ 166 ≤ R.locals) {n : Nat} (o : PS) (hx0 : PW p l e R s m args below meth c 3 D ad ca 0 0 Q (o) 18 [] []) : ∀ (k : Nat) (x1 : Int32) (x2 : Int32) (σ : PS), L_X12_passesAll_2 n k x1 x2 σ = some o → PW p l e R s m args below meth c 3 D ad ca 0 0 Q σ 2 [(0, .ref (ad (249))), (1, .int x1), (2, .int x2)] [] := by
  intro k
  induction k with
  | zero => intro x1 x2 σ hF; exact nomatch (show (none : Option (PS)) = some o from hF)
  | succ k ih =>
    intro x1 x2 σ hF
    rw [L_X12_passesAll_2] at hF
    refine q_iload_n C 2 dX12_passesAll_2 rfl rfl ?_
    refine q_iload_n C 1 dX12_passesAll_3 rfl rfl ?_
    refine q_icmp_ge (tgt := 18) C dX12_passesAll_4 (by decide) (fun c1 => ?_) (fun c1 => ?_)
    · replace hF := ift c1 hF
      cases hF
      refine q_sub [] rfl ?_
      exact hx0
    · replace hF := ife c1 hF
      refine q_aload_n C 0 dX12_passesAll_7 rfl rfl ?_
      obtain ⟨q2, h3, hF⟩ := bnd hF
      try dsimp only at hF
      refine q_callVi C [] (c_X12_passes l D ad ca kz C.2.2.2.2.2.2.1 _ _ _ h3) tw_1411 gm_X12_passes pi_249.1 (pe_11 pi_249.2) rfl ⟨rfl, rfl⟩ ⟨Nat.le_trans (Nat.le_of_ble_eq_true rfl) hR.1, Nat.le_trans (Nat.le_of_ble_eq_true rfl) hR.2⟩ rfl (Nat.le_of_ble_eq_true rfl) dX12_passesAll_8 q00 ?_
      refine q_pop C dX12_passesAll_11 rfl ?_
      refine q_iinc C 2 [(2, .int (x2 + 1)), (0, .ref (ad (249))), (1, .int x1)] dX12_passesAll_12 rfl rfl (by decide) rfl ?_
      refine q_goto (tgt := 2) C dX12_passesAll_15 (by decide) ?_
      refine q_sub [1, 2, 0] rfl ?_
      exact ih _ _ _ hF
set_option maxHeartbeats 4000000 in
set_option maxRecDepth 100000 in
theorem c_X12_passesAll (l : Launch) (D : va_G) (ad : Nat → Nat) (ca : Nat → ClassId) (kz : Nat → Nat) (hJ : pInj ad) (n : Nat) (a1 : Int32) (σ : PS) (out : PS) (hF : F_X12_passesAll n a1 σ = some out) : Met l yX12_passesAll (Cond.code yX12_passesAll cX12_passesAll 3 (Option.none : Option Jvm.ClassFile.FieldType) :: gw_tbl) { frames := 7, cells := 0, slots := 0, locals := 166 } (va_Pc [.ref (ad (249)), .int a1] (pU D ad ca kz σ)) (pQv D ad ca out) 0 0 (pAD ad) := by
  refine q_entry (own := "AskedCampModel") hJ (by decide) rfl (Nat.le_of_ble_eq_true rfl) (fun p e s m below meth c C hr hlk => ?_)
  refine q_lv [(0, .ref (ad (249))), (1, .int a1)] rfl ?_
  rw [F_X12_passesAll] at hF
  refine q_iconst (v := 0) C dX12_passesAll_0 (by decide) ?_
  refine q_istore_n C [(2, .int 0), (0, .ref (ad (249))), (1, .int a1)] dX12_passesAll_1 rfl (by decide) rfl ?_
  obtain ⟨o4, h5, hF⟩ := bnd hF
  try dsimp only at hF
  refine q_sub [1, 2, 0] rfl ?_
  refine l_X12_passesAll_2 C ⟨Nat.le_of_ble_eq_true rfl, Nat.le_of_ble_eq_true rfl⟩ o4 ?_ n _ _ _ h5
  exact q_vret C hr hlk dX12_passesAll_18 hF
-- X12_ahead
def F_X12_ahead (n : Nat) (a1 : Int32) (a2 : Int32) (a3 : Int32) (σ : PS) : Option (Int32 × PS) := (F_X12_isCamp n σ).bind (fun q1 => (if q1.1 = 0 then some ((-1 : Int32), q1.2) else (F_X12_in n a2.toInt64 (0 : Int64) (100 : Int64) q1.2).bind (fun q4 => (if q4.1 = 0 then some ((-1 : Int32), q4.2) else (F_X12_in n a3.toInt64 (0 : Int64) (2 : Int64) q4.2).bind (fun q7 => (if q7.1 = 0 then some ((-1 : Int32), q7.2) else (if a3 ≤ 0 then (F_X12_keeps n q7.2).bind (fun q11 => (F_X12_passesAll n a2 q11).bind (fun q13 => (if a3 = 0 then (F_X12_laysBack n q13).bind (fun q25 => some ((q13.1 259 11), q25)) else (if a3 = (1 : Int32) then (F_X12_askedOf n a1 q13).bind (fun q21 => (F_X12_laysBack n q21.2).bind (fun q23 => some (q21.1, q23))) else (F_X12_knownBy n a1 q13).bind (fun q17 => (F_X12_laysBack n q17.2).bind (fun q19 => some (q17.1, q19))))))) else (F_X12_isTent n a1 q7.2).bind (fun q27 => (if q27.1 = 0 then some ((-1 : Int32), q27.2) else (F_X12_keeps n q27.2).bind (fun q30 => (F_X12_passesAll n a2 q30).bind (fun q32 => (if a3 = 0 then (F_X12_laysBack n q32).bind (fun q44 => some ((q32.1 259 11), q44)) else (if a3 = (1 : Int32) then (F_X12_askedOf n a1 q32).bind (fun q40 => (F_X12_laysBack n q40.2).bind (fun q42 => some (q40.1, q42))) else (F_X12_knownBy n a1 q32).bind (fun q36 => (F_X12_laysBack n q36.2).bind (fun q38 => some (q36.1, q38))))))))))))))))
theorem gm_X12_ahead : gM "AskedCampModel" yX12_ahead (Cond.code yX12_ahead cX12_ahead 5 (Option.some Jvm.ClassFile.FieldType.int)) 3 := ⟨by decide +kernel, tw_1510, tw_1511, tw_12, tw_1512⟩
set_option maxHeartbeats 4000000 in
set_option maxRecDepth 100000 in
theorem c_X12_ahead (l : Launch) (D : va_G) (ad : Nat → Nat) (ca : Nat → ClassId) (kz : Nat → Nat) (hJ : pInj ad) (n : Nat) (a1 : Int32) (a2 : Int32) (a3 : Int32) (σ : PS) (out : Int32 × PS) (hF : F_X12_ahead n a1 a2 a3 σ = some out) : Met l yX12_ahead (Cond.code yX12_ahead cX12_ahead 5 (Option.some Jvm.ClassFile.FieldType.int) :: gw_tbl) { frames := 8, cells := 0, slots := 0, locals := 188 } (va_Pc [.ref (ad (249)), .int a1, .int a2, .int a3] (pU D ad ca kz σ)) (pQi D ad ca out) 0 0 (pAD ad) := by
  refine q_entry (own := "AskedCampModel") hJ (by decide) rfl (Nat.le_of_ble_eq_true rfl) (fun p e s m below meth c C hr hlk => ?_)
  refine q_lv [(0, .ref (ad (249))), (1, .int a1), (2, .int a2), (3, .int a3)] rfl ?_
  rw [F_X12_ahead] at hF
  refine q_aload_n C 0 dX12_ahead_0 rfl rfl ?_
  obtain ⟨q1, h2, hF⟩ := bnd hF
  try dsimp only at hF
  refine q_callVi C [] (c_X12_isCamp l D ad ca kz C.2.2.2.2.2.2.1 _ _ _ h2) tw_1403 gm_X12_isCamp pi_249.1 (pe_11 pi_249.2) rfl ⟨rfl, rfl⟩ ⟨Nat.le_of_ble_eq_true rfl, Nat.le_of_ble_eq_true rfl⟩ rfl (Nat.le_of_ble_eq_true rfl) dX12_ahead_1 q00 ?_
  refine q_if_eq (tgt := 43) C dX12_ahead_4 (by decide) (fun c3 => ?_) (fun c3 => ?_)
  · replace hF := ift c3 hF
    refine q_iconst (v := -1) C dX12_ahead_43 (by decide) ?_
    exact q_iret C hr hlk dX12_ahead_44 hF
  · replace hF := ife c3 hF
    refine q_iload_n C 2 dX12_ahead_7 rfl rfl ?_
    refine q_i2l C dX12_ahead_8 ?_
    refine q_lconst (v := 0) C dX12_ahead_9 (by decide) ?_
    refine q_ldc2 C dX12_ahead_10 tw_1513 ?_
    obtain ⟨q4, h5, hF⟩ := bnd hF
    try dsimp only at hF
    refine q_callSi C [.long a2.toInt64, .long ((0 : Int64)), .long ((100 : Int64))] (c_X12_in l D ad ca kz C.2.2.2.2.2.2.1 _ _ _ _ _ _ h5) tw_1255 gm_X12_in ⟨rfl, rfl⟩ ⟨Nat.le_of_ble_eq_true rfl, Nat.le_of_ble_eq_true rfl⟩ rfl (Nat.le_of_ble_eq_true rfl) dX12_ahead_13 q00 ?_
    refine q_if_eq (tgt := 43) C dX12_ahead_16 (by decide) (fun c6 => ?_) (fun c6 => ?_)
    · replace hF := ift c6 hF
      refine q_iconst (v := -1) C dX12_ahead_43 (by decide) ?_
      exact q_iret C hr hlk dX12_ahead_44 hF
    · replace hF := ife c6 hF
      refine q_iload_n C 3 dX12_ahead_19 rfl rfl ?_
      refine q_i2l C dX12_ahead_20 ?_
      refine q_lconst (v := 0) C dX12_ahead_21 (by decide) ?_
      refine q_ldc2 C dX12_ahead_22 tw_1386 ?_
      obtain ⟨q7, h8, hF⟩ := bnd hF
      try dsimp only at hF
      refine q_callSi C [.long a3.toInt64, .long ((0 : Int64)), .long ((2 : Int64))] (c_X12_in l D ad ca kz C.2.2.2.2.2.2.1 _ _ _ _ _ _ h8) tw_1255 gm_X12_in ⟨rfl, rfl⟩ ⟨Nat.le_of_ble_eq_true rfl, Nat.le_of_ble_eq_true rfl⟩ rfl (Nat.le_of_ble_eq_true rfl) dX12_ahead_25 q00 ?_
      refine q_if_eq (tgt := 43) C dX12_ahead_28 (by decide) (fun c9 => ?_) (fun c9 => ?_)
      · replace hF := ift c9 hF
        refine q_iconst (v := -1) C dX12_ahead_43 (by decide) ?_
        exact q_iret C hr hlk dX12_ahead_44 hF
      · replace hF := ife c9 hF
        refine q_iload_n C 3 dX12_ahead_31 rfl rfl ?_
        refine q_if_le (tgt := 45) C dX12_ahead_32 (by decide) (fun c10 => ?_) (fun c10 => ?_)
        · replace hF := ift c10 hF
          refine q_aload_n C 0 dX12_ahead_45 rfl rfl ?_
          obtain ⟨q11, h12, hF⟩ := bnd hF
          try dsimp only at hF
          refine q_callVv C [] (c_X12_keeps l D ad ca kz C.2.2.2.2.2.2.1 _ _ _ h12) tw_1514 gm_X12_keeps pi_249.1 (pe_11 pi_249.2) rfl ⟨rfl, rfl⟩ ⟨Nat.le_of_ble_eq_true rfl, Nat.le_of_ble_eq_true rfl⟩ rfl (Nat.le_of_ble_eq_true rfl) dX12_ahead_46 q00 ?_
          refine q_aload_n C 0 dX12_ahead_49 rfl rfl ?_
          refine q_iload_n C 2 dX12_ahead_50 rfl rfl ?_
          obtain ⟨q13, h14, hF⟩ := bnd hF
          try dsimp only at hF
          refine q_callVv C [.int a2] (c_X12_passesAll l D ad ca kz C.2.2.2.2.2.2.1 _ _ _ _ h14) tw_1518 gm_X12_passesAll pi_249.1 (pe_11 pi_249.2) rfl ⟨rfl, rfl⟩ ⟨Nat.le_of_ble_eq_true rfl, Nat.le_of_ble_eq_true rfl⟩ rfl (Nat.le_of_ble_eq_true rfl) dX12_ahead_51 q00 ?_
          refine q_iload_n C 3 dX12_ahead_54 rfl rfl ?_
          refine q_if_ne (tgt := 68) C dX12_ahead_55 (by decide) (fun c15 => ?_) (fun c15 => ?_)
          · replace hF := ife c15 hF
            refine q_iload_n C 3 dX12_ahead_68 rfl rfl ?_
            refine q_iconst (v := 1) C dX12_ahead_69 (by decide) ?_
            refine q_icmp_ne (tgt := 81) C dX12_ahead_70 (by decide) (fun c16 => ?_) (fun c16 => ?_)
            · replace hF := ife c16 hF
              refine q_aload_n C 0 dX12_ahead_81 rfl rfl ?_
              refine q_iload_n C 1 dX12_ahead_82 rfl rfl ?_
              obtain ⟨q17, h18, hF⟩ := bnd hF
              try dsimp only at hF
              refine q_callVi C [.int a1] (c_X12_knownBy l D ad ca kz C.2.2.2.2.2.2.1 _ _ _ _ h18) tw_1522 gm_X12_knownBy pi_249.1 (pe_11 pi_249.2) rfl ⟨rfl, rfl⟩ ⟨Nat.le_of_ble_eq_true rfl, Nat.le_of_ble_eq_true rfl⟩ rfl (Nat.le_of_ble_eq_true rfl) dX12_ahead_83 q00 ?_
              refine q_istore C [(4, .int q17.1), (0, .ref (ad (249))), (1, .int a1), (2, .int a2), (3, .int a3)] dX12_ahead_86 (by decide) rfl ?_
              refine q_aload_n C 1 dX12_ahead_88 rfl rfl ?_
              obtain ⟨q19, h20, hF⟩ := bnd hF
              try dsimp only at hF
              refine q_callVv C [] (c_X12_laysBack l D ad ca kz C.2.2.2.2.2.2.1 _ _ _ h20) tw_1526 gm_X12_laysBack pi_249.1 (pe_11 pi_249.2) rfl ⟨rfl, rfl⟩ ⟨Nat.le_of_ble_eq_true rfl, Nat.le_of_ble_eq_true rfl⟩ rfl (Nat.le_of_ble_eq_true rfl) dX12_ahead_89 q00 ?_
              refine q_iload C 0 dX12_ahead_92 rfl ?_
              exact q_iret C hr hlk dX12_ahead_94 hF
            · replace hF := ift c16 hF
              refine q_aload_n C 0 dX12_ahead_73 rfl rfl ?_
              refine q_iload_n C 1 dX12_ahead_74 rfl rfl ?_
              obtain ⟨q21, h22, hF⟩ := bnd hF
              try dsimp only at hF
              refine q_callVi C [.int a1] (c_X12_askedOf l D ad ca kz C.2.2.2.2.2.2.1 _ _ _ _ h22) tw_1435 gm_X12_askedOf pi_249.1 (pe_11 pi_249.2) rfl ⟨rfl, rfl⟩ ⟨Nat.le_of_ble_eq_true rfl, Nat.le_of_ble_eq_true rfl⟩ rfl (Nat.le_of_ble_eq_true rfl) dX12_ahead_75 q00 ?_
              refine q_goto (tgt := 86) C dX12_ahead_78 (by decide) ?_
              refine q_istore C [(4, .int q21.1), (0, .ref (ad (249))), (1, .int a1), (2, .int a2), (3, .int a3)] dX12_ahead_86 (by decide) rfl ?_
              refine q_aload_n C 1 dX12_ahead_88 rfl rfl ?_
              obtain ⟨q23, h24, hF⟩ := bnd hF
              try dsimp only at hF
              refine q_callVv C [] (c_X12_laysBack l D ad ca kz C.2.2.2.2.2.2.1 _ _ _ h24) tw_1526 gm_X12_laysBack pi_249.1 (pe_11 pi_249.2) rfl ⟨rfl, rfl⟩ ⟨Nat.le_of_ble_eq_true rfl, Nat.le_of_ble_eq_true rfl⟩ rfl (Nat.le_of_ble_eq_true rfl) dX12_ahead_89 q00 ?_
              refine q_iload C 0 dX12_ahead_92 rfl ?_
              exact q_iret C hr hlk dX12_ahead_94 hF
          · replace hF := ift c15 hF
            refine q_aload_n C 0 dX12_ahead_58 rfl rfl ?_
            refine qg_11_20 C pi_249 tw_1073 dX12_ahead_59 ?_
            refine q_bipush (v := 11) C dX12_ahead_62 (by decide) ?_
            refine q_ialdk (jn := 11) C pa_259 (vp_of (by decide)) rfl dX12_ahead_64 ?_
            refine q_goto (tgt := 86) C dX12_ahead_65 (by decide) ?_
            refine q_istore C [(4, .int (q13.1 259 11)), (0, .ref (ad (249))), (1, .int a1), (2, .int a2), (3, .int a3)] dX12_ahead_86 (by decide) rfl ?_
            refine q_aload_n C 1 dX12_ahead_88 rfl rfl ?_
            obtain ⟨q25, h26, hF⟩ := bnd hF
            try dsimp only at hF
            refine q_callVv C [] (c_X12_laysBack l D ad ca kz C.2.2.2.2.2.2.1 _ _ _ h26) tw_1526 gm_X12_laysBack pi_249.1 (pe_11 pi_249.2) rfl ⟨rfl, rfl⟩ ⟨Nat.le_of_ble_eq_true rfl, Nat.le_of_ble_eq_true rfl⟩ rfl (Nat.le_of_ble_eq_true rfl) dX12_ahead_89 q00 ?_
            refine q_iload C 0 dX12_ahead_92 rfl ?_
            exact q_iret C hr hlk dX12_ahead_94 hF
        · replace hF := ife c10 hF
          refine q_aload_n C 0 dX12_ahead_35 rfl rfl ?_
          refine q_iload_n C 1 dX12_ahead_36 rfl rfl ?_
          obtain ⟨q27, h28, hF⟩ := bnd hF
          try dsimp only at hF
          refine q_callVi C [.int a1] (c_X12_isTent l D ad ca kz C.2.2.2.2.2.2.1 _ _ _ _ h28) tw_1369 gm_X12_isTent pi_249.1 (pe_11 pi_249.2) rfl ⟨rfl, rfl⟩ ⟨Nat.le_of_ble_eq_true rfl, Nat.le_of_ble_eq_true rfl⟩ rfl (Nat.le_of_ble_eq_true rfl) dX12_ahead_37 q00 ?_
          refine q_if_ne (tgt := 45) C dX12_ahead_40 (by decide) (fun c29 => ?_) (fun c29 => ?_)
          · replace hF := ife c29 hF
            refine q_aload_n C 0 dX12_ahead_45 rfl rfl ?_
            obtain ⟨q30, h31, hF⟩ := bnd hF
            try dsimp only at hF
            refine q_callVv C [] (c_X12_keeps l D ad ca kz C.2.2.2.2.2.2.1 _ _ _ h31) tw_1514 gm_X12_keeps pi_249.1 (pe_11 pi_249.2) rfl ⟨rfl, rfl⟩ ⟨Nat.le_of_ble_eq_true rfl, Nat.le_of_ble_eq_true rfl⟩ rfl (Nat.le_of_ble_eq_true rfl) dX12_ahead_46 q00 ?_
            refine q_aload_n C 0 dX12_ahead_49 rfl rfl ?_
            refine q_iload_n C 2 dX12_ahead_50 rfl rfl ?_
            obtain ⟨q32, h33, hF⟩ := bnd hF
            try dsimp only at hF
            refine q_callVv C [.int a2] (c_X12_passesAll l D ad ca kz C.2.2.2.2.2.2.1 _ _ _ _ h33) tw_1518 gm_X12_passesAll pi_249.1 (pe_11 pi_249.2) rfl ⟨rfl, rfl⟩ ⟨Nat.le_of_ble_eq_true rfl, Nat.le_of_ble_eq_true rfl⟩ rfl (Nat.le_of_ble_eq_true rfl) dX12_ahead_51 q00 ?_
            refine q_iload_n C 3 dX12_ahead_54 rfl rfl ?_
            refine q_if_ne (tgt := 68) C dX12_ahead_55 (by decide) (fun c34 => ?_) (fun c34 => ?_)
            · replace hF := ife c34 hF
              refine q_iload_n C 3 dX12_ahead_68 rfl rfl ?_
              refine q_iconst (v := 1) C dX12_ahead_69 (by decide) ?_
              refine q_icmp_ne (tgt := 81) C dX12_ahead_70 (by decide) (fun c35 => ?_) (fun c35 => ?_)
              · replace hF := ife c35 hF
                refine q_aload_n C 0 dX12_ahead_81 rfl rfl ?_
                refine q_iload_n C 1 dX12_ahead_82 rfl rfl ?_
                obtain ⟨q36, h37, hF⟩ := bnd hF
                try dsimp only at hF
                refine q_callVi C [.int a1] (c_X12_knownBy l D ad ca kz C.2.2.2.2.2.2.1 _ _ _ _ h37) tw_1522 gm_X12_knownBy pi_249.1 (pe_11 pi_249.2) rfl ⟨rfl, rfl⟩ ⟨Nat.le_of_ble_eq_true rfl, Nat.le_of_ble_eq_true rfl⟩ rfl (Nat.le_of_ble_eq_true rfl) dX12_ahead_83 q00 ?_
                refine q_istore C [(4, .int q36.1), (0, .ref (ad (249))), (1, .int a1), (2, .int a2), (3, .int a3)] dX12_ahead_86 (by decide) rfl ?_
                refine q_aload_n C 1 dX12_ahead_88 rfl rfl ?_
                obtain ⟨q38, h39, hF⟩ := bnd hF
                try dsimp only at hF
                refine q_callVv C [] (c_X12_laysBack l D ad ca kz C.2.2.2.2.2.2.1 _ _ _ h39) tw_1526 gm_X12_laysBack pi_249.1 (pe_11 pi_249.2) rfl ⟨rfl, rfl⟩ ⟨Nat.le_of_ble_eq_true rfl, Nat.le_of_ble_eq_true rfl⟩ rfl (Nat.le_of_ble_eq_true rfl) dX12_ahead_89 q00 ?_
                refine q_iload C 0 dX12_ahead_92 rfl ?_
                exact q_iret C hr hlk dX12_ahead_94 hF
              · replace hF := ift c35 hF
                refine q_aload_n C 0 dX12_ahead_73 rfl rfl ?_
                refine q_iload_n C 1 dX12_ahead_74 rfl rfl ?_
                obtain ⟨q40, h41, hF⟩ := bnd hF
                try dsimp only at hF
                refine q_callVi C [.int a1] (c_X12_askedOf l D ad ca kz C.2.2.2.2.2.2.1 _ _ _ _ h41) tw_1435 gm_X12_askedOf pi_249.1 (pe_11 pi_249.2) rfl ⟨rfl, rfl⟩ ⟨Nat.le_of_ble_eq_true rfl, Nat.le_of_ble_eq_true rfl⟩ rfl (Nat.le_of_ble_eq_true rfl) dX12_ahead_75 q00 ?_
                refine q_goto (tgt := 86) C dX12_ahead_78 (by decide) ?_
                refine q_istore C [(4, .int q40.1), (0, .ref (ad (249))), (1, .int a1), (2, .int a2), (3, .int a3)] dX12_ahead_86 (by decide) rfl ?_
                refine q_aload_n C 1 dX12_ahead_88 rfl rfl ?_
                obtain ⟨q42, h43, hF⟩ := bnd hF
                try dsimp only at hF
                refine q_callVv C [] (c_X12_laysBack l D ad ca kz C.2.2.2.2.2.2.1 _ _ _ h43) tw_1526 gm_X12_laysBack pi_249.1 (pe_11 pi_249.2) rfl ⟨rfl, rfl⟩ ⟨Nat.le_of_ble_eq_true rfl, Nat.le_of_ble_eq_true rfl⟩ rfl (Nat.le_of_ble_eq_true rfl) dX12_ahead_89 q00 ?_
                refine q_iload C 0 dX12_ahead_92 rfl ?_
                exact q_iret C hr hlk dX12_ahead_94 hF
            · replace hF := ift c34 hF
              refine q_aload_n C 0 dX12_ahead_58 rfl rfl ?_
              refine qg_11_20 C pi_249 tw_1073 dX12_ahead_59 ?_
              refine q_bipush (v := 11) C dX12_ahead_62 (by decide) ?_
              refine q_ialdk (jn := 11) C pa_259 (vp_of (by decide)) rfl dX12_ahead_64 ?_
              refine q_goto (tgt := 86) C dX12_ahead_65 (by decide) ?_
              refine q_istore C [(4, .int (q32.1 259 11)), (0, .ref (ad (249))), (1, .int a1), (2, .int a2), (3, .int a3)] dX12_ahead_86 (by decide) rfl ?_
              refine q_aload_n C 1 dX12_ahead_88 rfl rfl ?_
              obtain ⟨q44, h45, hF⟩ := bnd hF
              try dsimp only at hF
              refine q_callVv C [] (c_X12_laysBack l D ad ca kz C.2.2.2.2.2.2.1 _ _ _ h45) tw_1526 gm_X12_laysBack pi_249.1 (pe_11 pi_249.2) rfl ⟨rfl, rfl⟩ ⟨Nat.le_of_ble_eq_true rfl, Nat.le_of_ble_eq_true rfl⟩ rfl (Nat.le_of_ble_eq_true rfl) dX12_ahead_89 q00 ?_
              refine q_iload C 0 dX12_ahead_92 rfl ?_
              exact q_iret C hr hlk dX12_ahead_94 hF
          · replace hF := ift c29 hF
            refine q_iconst (v := -1) C dX12_ahead_43 (by decide) ?_
            exact q_iret C hr hlk dX12_ahead_44 hF
-- X12_spot
def F_X12_spot (n : Nat) (a0 : Int32) (a1 : Int32) (σ : PS) : Option (Int32 × PS) := some ((((61 : Int32) * a0) + a1), σ)
theorem gm_X12_spot : gS yX12_spot (Cond.code yX12_spot cX12_spot 2 (Option.some Jvm.ClassFile.FieldType.int)) 2 := ⟨by decide +kernel, tw_1632, tw_12, tw_1633⟩
set_option maxHeartbeats 4000000 in
set_option maxRecDepth 100000 in
theorem c_X12_spot (l : Launch) (D : va_G) (ad : Nat → Nat) (ca : Nat → ClassId) (kz : Nat → Nat) (hJ : pInj ad) (n : Nat) (a0 : Int32) (a1 : Int32) (σ : PS) (out : Int32 × PS) (hF : F_X12_spot n a0 a1 σ = some out) : Met l yX12_spot (Cond.code yX12_spot cX12_spot 2 (Option.some Jvm.ClassFile.FieldType.int) :: gw_tbl) { frames := 0, cells := 0, slots := 0, locals := 0 } (va_Pc [.int a0, .int a1] (pU D ad ca kz σ)) (pQi D ad ca out) 0 0 (pAD ad) := by
  refine q_entry (own := "AskedCampModel") hJ (by decide) rfl (Nat.le_of_ble_eq_true rfl) (fun p e s m below meth c C hr hlk => ?_)
  refine q_lv [(0, .int a0), (1, .int a1)] rfl ?_
  rw [F_X12_spot] at hF
  refine q_bipush (v := 61) C dX12_spot_0 (by decide) ?_
  refine q_iload_n C 0 dX12_spot_2 rfl rfl ?_
  refine q_imul C dX12_spot_3 ?_
  refine q_iload_n C 1 dX12_spot_4 rfl rfl ?_
  refine q_iadd C dX12_spot_5 ?_
  exact q_iret C hr hlk dX12_spot_6 hF
-- X12_alikeAt
def L_X12_alikeAt_18 (n : Nat) : Nat → Int32 → Int32 → Int32 → Int32 → Int32 → PS → Option (Int32 × Int32 × Int32 × Int32 × PS)
  | 0, _, _, _, _, _, _ => none
  | k + 1, x1, x2, x3, x4, x5, σ => (if (σ.1 249 2) < x5 then some (x1, x2, x3, x4, σ) else (if 0 ≤ x3 ∧ x3.toNatClampNeg < 7 then (if (σ.1 271 x3.toNatClampNeg) = 0 then some (x1, x2, x3, x4, σ) else (if 0 ≤ x5 ∧ x5.toNatClampNeg < 7 then (if (σ.1 271 x5.toNatClampNeg) = 0 then L_X12_alikeAt_18 n k x1 x2 x3 (x4 + (0 : Int32)) (x5 + 1) σ else (F_X12_spot n x3 x1 σ).bind (fun q7 => (if 0 ≤ q7.1 ∧ q7.1.toNatClampNeg < 427 then (F_X12_spot n x5 x1 q7.2).bind (fun q10 => (if 0 ≤ q10.1 ∧ q10.1.toNatClampNeg < 427 then (if (q7.2.1 272 q7.1.toNatClampNeg) = (q10.2.1 272 q10.1.toNatClampNeg) then L_X12_alikeAt_18 n k x1 x2 x3 (x4 + (1 : Int32)) (x5 + 1) q10.2 else L_X12_alikeAt_18 n k x1 x2 x3 (x4 + (0 : Int32)) (x5 + 1) q10.2) else none)) else none))) else none)) else none))
def L_X12_alikeAt_4 (n : Nat) : Nat → Int32 → Int32 → Int32 → PS → Option (Int32 × PS)
  | 0, _, _, _, _ => none
  | k + 1, x1, x2, x3, σ => (if (σ.1 249 2) < x3 then some (x2, σ) else (L_X12_alikeAt_18 n n x1 x2 x3 (0 : Int32) (0 : Int32) σ).bind (fun o2 => (if o2.2.2.2.1 ≤ o2.2.1 then L_X12_alikeAt_4 n k o2.1 o2.2.1 (o2.2.2.1 + 1) o2.2.2.2.2 else L_X12_alikeAt_4 n k o2.1 o2.2.2.2.1 (o2.2.2.1 + 1) o2.2.2.2.2)))
def F_X12_alikeAt (n : Nat) (a1 : Int32) (σ : PS) : Option (Int32 × PS) := (L_X12_alikeAt_4 n n a1 (0 : Int32) (0 : Int32) σ).bind (fun o5 => some (o5.1, o5.2))
theorem gm_X12_alikeAt : gM "AskedCampModel" yX12_alikeAt (Cond.code yX12_alikeAt cX12_alikeAt 6 (Option.some Jvm.ClassFile.FieldType.int)) 1 := ⟨by decide +kernel, tw_1644, tw_p100, tw_12, tw_1645⟩
set_option maxHeartbeats 4000000 in
set_option maxRecDepth 100000 in
theorem l_X12_alikeAt_18 {p : Program} {l : Launch} {e : Env} {R : Room} {s : State} {m : MethodId} {args : Array Value} {below : List Frame} {meth : Method} {c : Code} {D : va_G} {ad : Nat → Nat} {ca : Nat → ClassId} {kz : Nat → Nat} {Q : State → Prop} (C : pC p s m args c cX12_alikeAt "AskedCampModel" 6 D ad ca kz) (hR : 1 ≤ R.frames ∧ 21 ≤ R.locals) {n : Nat} (o : Int32 × Int32 × Int32 × Int32 × PS) (hx0 : PW p l e R s m args below meth c 6 D ad ca 0 0 Q (o.2.2.2.2) 86 [(0, .ref (ad (249))), (1, .int o.1), (2, .int o.2.1), (3, .int o.2.2.1), (4, .int o.2.2.2.1)] []) : ∀ (k : Nat) (x1 : Int32) (x2 : Int32) (x3 : Int32) (x4 : Int32) (x5 : Int32) (σ : PS), L_X12_alikeAt_18 n k x1 x2 x3 x4 x5 σ = some o → PW p l e R s m args below meth c 6 D ad ca 0 0 Q σ 18 [(0, .ref (ad (249))), (1, .int x1), (2, .int x2), (3, .int x3), (4, .int x4), (5, .int x5)] [] := by
  intro k
  induction k with
  | zero => intro x1 x2 x3 x4 x5 σ hF; exact nomatch (show (none : Option (Int32 × Int32 × Int32 × Int32 × PS)) = some o from hF)
  | succ k ih =>
    intro x1 x2 x3 x4 x5 σ hF
    rw [L_X12_alikeAt_18] at hF
    refine q_iload C 5 dX12_alikeAt_18 rfl ?_
    refine q_aload_n C 0 dX12_alikeAt_20 rfl rfl ?_
    refine qg_11_2 C pi_249 tw_1055 dX12_alikeAt_21 ?_
    refine q_icmp_gt (tgt := 86) C dX12_alikeAt_24 (by decide) (fun c2 => ?_) (fun c2 => ?_)
    · replace hF := ift c2 hF
      cases hF
      refine q_sub [0, 1, 2, 3, 4] rfl ?_
      exact hx0
    · replace hF := ife c2 hF
      refine q_aload_n C 0 dX12_alikeAt_27 rfl rfl ?_
      refine qg_11_36 C pi_249 tw_1089 dX12_alikeAt_28 ?_
      refine q_iload_n C 3 dX12_alikeAt_31 rfl rfl ?_
      obtain ⟨g3, hF⟩ := grd hF
      refine q_zald C pa_271 (vp_of g3) dX12_alikeAt_32 ?_
      refine q_if_eq (tgt := 86) C dX12_alikeAt_33 (by decide) (fun c4 => ?_) (fun c4 => ?_)
      · replace hF := ift c4 hF
        cases hF
        refine q_sub [0, 1, 2, 3, 4] rfl ?_
        exact hx0
      · replace hF := ife c4 hF
        refine q_iload C 4 dX12_alikeAt_36 rfl ?_
        refine q_aload_n C 0 dX12_alikeAt_38 rfl rfl ?_
        refine qg_11_36 C pi_249 tw_1089 dX12_alikeAt_39 ?_
        refine q_iload C 5 dX12_alikeAt_42 rfl ?_
        obtain ⟨g5, hF⟩ := grd hF
        refine q_zald C pa_271 (vp_of g5) dX12_alikeAt_44 ?_
        refine q_if_eq (tgt := 76) C dX12_alikeAt_45 (by decide) (fun c6 => ?_) (fun c6 => ?_)
        · replace hF := ift c6 hF
          refine q_iconst (v := 0) C dX12_alikeAt_76 (by decide) ?_
          refine q_iadd C dX12_alikeAt_77 ?_
          refine q_istore C [(4, .int (x4 + (0 : Int32))), (0, .ref (ad (249))), (1, .int x1), (2, .int x2), (3, .int x3), (5, .int x5)] dX12_alikeAt_78 (by decide) rfl ?_
          refine q_iinc C 5 [(5, .int (x5 + 1)), (4, .int (x4 + (0 : Int32))), (0, .ref (ad (249))), (1, .int x1), (2, .int x2), (3, .int x3)] dX12_alikeAt_80 rfl rfl (by decide) rfl ?_
          refine q_goto (tgt := 18) C dX12_alikeAt_83 (by decide) ?_
          refine q_sub [2, 3, 4, 5, 1, 0] rfl ?_
          exact ih _ _ _ _ _ _ hF
        · replace hF := ife c6 hF
          refine q_aload_n C 0 dX12_alikeAt_48 rfl rfl ?_
          refine qg_11_37 C pi_249 tw_1090 dX12_alikeAt_49 ?_
          refine q_iload_n C 3 dX12_alikeAt_52 rfl rfl ?_
          refine q_iload_n C 1 dX12_alikeAt_53 rfl rfl ?_
          obtain ⟨q7, h8, hF⟩ := bnd hF
          try dsimp only at hF
          refine q_callSi C [.int x3, .int x1] (c_X12_spot l D ad ca kz C.2.2.2.2.2.2.1 _ _ _ _ _ h8) tw_1631 gm_X12_spot ⟨rfl, rfl⟩ ⟨Nat.le_trans (Nat.le_of_ble_eq_true rfl) hR.1, Nat.le_trans (Nat.le_of_ble_eq_true rfl) hR.2⟩ rfl (Nat.le_of_ble_eq_true rfl) dX12_alikeAt_54 q00 ?_
          obtain ⟨g9, hF⟩ := grd hF
          refine q_iald C pa_272 (vp_of g9) dX12_alikeAt_57 ?_
          refine q_aload_n C 0 dX12_alikeAt_58 rfl rfl ?_
          refine qg_11_37 C pi_249 tw_1090 dX12_alikeAt_59 ?_
          refine q_iload C 5 dX12_alikeAt_62 rfl ?_
          refine q_iload_n C 1 dX12_alikeAt_64 rfl rfl ?_
          obtain ⟨q10, h11, hF⟩ := bnd hF
          try dsimp only at hF
          refine q_callSi C [.int x5, .int x1] (c_X12_spot l D ad ca kz C.2.2.2.2.2.2.1 _ _ _ _ _ h11) tw_1631 gm_X12_spot ⟨rfl, rfl⟩ ⟨Nat.le_trans (Nat.le_of_ble_eq_true rfl) hR.1, Nat.le_trans (Nat.le_of_ble_eq_true rfl) hR.2⟩ rfl (Nat.le_of_ble_eq_true rfl) dX12_alikeAt_65 q00 ?_
          obtain ⟨g12, hF⟩ := grd hF
          refine q_iald C pa_272 (vp_of g12) dX12_alikeAt_68 ?_
          refine q_icmp_ne (tgt := 76) C dX12_alikeAt_69 (by decide) (fun c13 => ?_) (fun c13 => ?_)
          · replace hF := ife c13 hF
            refine q_iconst (v := 0) C dX12_alikeAt_76 (by decide) ?_
            refine q_iadd C dX12_alikeAt_77 ?_
            refine q_istore C [(4, .int (x4 + (0 : Int32))), (0, .ref (ad (249))), (1, .int x1), (2, .int x2), (3, .int x3), (5, .int x5)] dX12_alikeAt_78 (by decide) rfl ?_
            refine q_iinc C 5 [(5, .int (x5 + 1)), (4, .int (x4 + (0 : Int32))), (0, .ref (ad (249))), (1, .int x1), (2, .int x2), (3, .int x3)] dX12_alikeAt_80 rfl rfl (by decide) rfl ?_
            refine q_goto (tgt := 18) C dX12_alikeAt_83 (by decide) ?_
            refine q_sub [2, 3, 4, 5, 1, 0] rfl ?_
            exact ih _ _ _ _ _ _ hF
          · replace hF := ift c13 hF
            refine q_iconst (v := 1) C dX12_alikeAt_72 (by decide) ?_
            refine q_goto (tgt := 77) C dX12_alikeAt_73 (by decide) ?_
            refine q_iadd C dX12_alikeAt_77 ?_
            refine q_istore C [(4, .int (x4 + (1 : Int32))), (0, .ref (ad (249))), (1, .int x1), (2, .int x2), (3, .int x3), (5, .int x5)] dX12_alikeAt_78 (by decide) rfl ?_
            refine q_iinc C 5 [(5, .int (x5 + 1)), (4, .int (x4 + (1 : Int32))), (0, .ref (ad (249))), (1, .int x1), (2, .int x2), (3, .int x3)] dX12_alikeAt_80 rfl rfl (by decide) rfl ?_
            refine q_goto (tgt := 18) C dX12_alikeAt_83 (by decide) ?_
            refine q_sub [2, 3, 4, 5, 1, 0] rfl ?_
            exact ih _ _ _ _ _ _ hF
set_option maxHeartbeats 4000000 in
set_option maxRecDepth 100000 in
theorem l_X12_alikeAt_4 {p : Program} {l : Launch} {e : Env} {R : Room} {s : State} {m : MethodId} {args : Array Value} {below : List Frame} {meth : Method} {c : Code} {D : va_G} {ad : Nat → Nat} {ca : Nat → ClassId} {kz : Nat → Nat} {Q : State → Prop} (C : pC p s m args c cX12_alikeAt "AskedCampModel" 6 D ad ca kz) (hR : 1 ≤ R.frames ∧ 21 ≤ R.locals) {n : Nat} (o : Int32 × PS) (hx0 : PW p l e R s m args below meth c 6 D ad ca 0 0 Q (o.2) 105 [(2, .int o.1)] []) : ∀ (k : Nat) (x1 : Int32) (x2 : Int32) (x3 : Int32) (σ : PS), L_X12_alikeAt_4 n k x1 x2 x3 σ = some o → PW p l e R s m args below meth c 6 D ad ca 0 0 Q σ 4 [(0, .ref (ad (249))), (1, .int x1), (2, .int x2), (3, .int x3)] [] := by
  intro k
  induction k with
  | zero => intro x1 x2 x3 σ hF; exact nomatch (show (none : Option (Int32 × PS)) = some o from hF)
  | succ k ih =>
    intro x1 x2 x3 σ hF
    rw [L_X12_alikeAt_4] at hF
    refine q_iload_n C 3 dX12_alikeAt_4 rfl rfl ?_
    refine q_aload_n C 0 dX12_alikeAt_5 rfl rfl ?_
    refine qg_11_2 C pi_249 tw_1055 dX12_alikeAt_6 ?_
    refine q_icmp_gt (tgt := 105) C dX12_alikeAt_9 (by decide) (fun c1 => ?_) (fun c1 => ?_)
    · replace hF := ift c1 hF
      cases hF
      refine q_sub [2] rfl ?_
      exact hx0
    · replace hF := ife c1 hF
      refine q_iconst (v := 0) C dX12_alikeAt_12 (by decide) ?_
      refine q_istore C [(4, .int 0), (0, .ref (ad (249))), (1, .int x1), (2, .int x2), (3, .int x3)] dX12_alikeAt_13 (by decide) rfl ?_
      refine q_iconst (v := 0) C dX12_alikeAt_15 (by decide) ?_
      refine q_istore C [(5, .int 0), (4, .int 0), (0, .ref (ad (249))), (1, .int x1), (2, .int x2), (3, .int x3)] dX12_alikeAt_16 (by decide) rfl ?_
      obtain ⟨o2, h3, hF⟩ := bnd hF
      try dsimp only at hF
      refine q_sub [2, 3, 4, 5, 1, 0] rfl ?_
      refine l_X12_alikeAt_18 C ⟨hR.1, hR.2⟩ o2 ?_ n _ _ _ _ _ _ h3
      refine q_iload C 4 dX12_alikeAt_86 rfl ?_
      refine q_iload_n C 2 dX12_alikeAt_88 rfl rfl ?_
      refine q_icmp_le (tgt := 97) C dX12_alikeAt_89 (by decide) (fun c4 => ?_) (fun c4 => ?_)
      · replace hF := ift c4 hF
        refine q_iload_n C 2 dX12_alikeAt_97 rfl rfl ?_
        refine q_istore_n C [(2, .int o2.2.1), (0, .ref (ad (249))), (1, .int o2.1), (3, .int o2.2.2.1), (4, .int o2.2.2.2.1)] dX12_alikeAt_98 rfl (by decide) rfl ?_
        refine q_iinc C 3 [(3, .int (o2.2.2.1 + 1)), (2, .int o2.2.1), (0, .ref (ad (249))), (1, .int o2.1), (4, .int o2.2.2.2.1)] dX12_alikeAt_99 rfl rfl (by decide) rfl ?_
        refine q_goto (tgt := 4) C dX12_alikeAt_102 (by decide) ?_
        refine q_sub [2, 3, 1, 0] rfl ?_
        exact ih _ _ _ _ hF
      · replace hF := ife c4 hF
        refine q_iload C 4 dX12_alikeAt_92 rfl ?_
        refine q_goto (tgt := 98) C dX12_alikeAt_94 (by decide) ?_
        refine q_istore_n C [(2, .int o2.2.2.2.1), (0, .ref (ad (249))), (1, .int o2.1), (3, .int o2.2.2.1), (4, .int o2.2.2.2.1)] dX12_alikeAt_98 rfl (by decide) rfl ?_
        refine q_iinc C 3 [(3, .int (o2.2.2.1 + 1)), (2, .int o2.2.2.2.1), (0, .ref (ad (249))), (1, .int o2.1), (4, .int o2.2.2.2.1)] dX12_alikeAt_99 rfl rfl (by decide) rfl ?_
        refine q_goto (tgt := 4) C dX12_alikeAt_102 (by decide) ?_
        refine q_sub [2, 3, 1, 0] rfl ?_
        exact ih _ _ _ _ hF
set_option maxHeartbeats 4000000 in
set_option maxRecDepth 100000 in
theorem c_X12_alikeAt (l : Launch) (D : va_G) (ad : Nat → Nat) (ca : Nat → ClassId) (kz : Nat → Nat) (hJ : pInj ad) (n : Nat) (a1 : Int32) (σ : PS) (out : Int32 × PS) (hF : F_X12_alikeAt n a1 σ = some out) : Met l yX12_alikeAt (Cond.code yX12_alikeAt cX12_alikeAt 6 (Option.some Jvm.ClassFile.FieldType.int) :: gw_tbl) { frames := 1, cells := 0, slots := 0, locals := 21 } (va_Pc [.ref (ad (249)), .int a1] (pU D ad ca kz σ)) (pQi D ad ca out) 0 0 (pAD ad) := by
  refine q_entry (own := "AskedCampModel") hJ (by decide) rfl (Nat.le_of_ble_eq_true rfl) (fun p e s m below meth c C hr hlk => ?_)
  refine q_lv [(0, .ref (ad (249))), (1, .int a1)] rfl ?_
  rw [F_X12_alikeAt] at hF
  refine q_iconst (v := 0) C dX12_alikeAt_0 (by decide) ?_
  refine q_istore_n C [(2, .int 0), (0, .ref (ad (249))), (1, .int a1)] dX12_alikeAt_1 rfl (by decide) rfl ?_
  refine q_iconst (v := 0) C dX12_alikeAt_2 (by decide) ?_
  refine q_istore_n C [(3, .int 0), (2, .int 0), (0, .ref (ad (249))), (1, .int a1)] dX12_alikeAt_3 rfl (by decide) rfl ?_
  obtain ⟨o5, h6, hF⟩ := bnd hF
  try dsimp only at hF
  refine q_sub [2, 3, 1, 0] rfl ?_
  refine l_X12_alikeAt_4 C ⟨Nat.le_of_ble_eq_true rfl, Nat.le_of_ble_eq_true rfl⟩ o5 ?_ n _ _ _ _ h6
  refine q_iload_n C 0 dX12_alikeAt_105 rfl rfl ?_
  exact q_iret C hr hlk dX12_alikeAt_106 hF
-- X12_apart
def F_X12_apart (n : Nat) (a1 : Int32) (a2 : Int32) (σ : PS) : Option (Int32 × PS) := (if (σ.1 259 1) = 0 then none else (if 0 ≤ ((a1 / (σ.1 259 1)) - (a2 / (σ.1 259 1))) then (if 0 ≤ ((a1 - a1 / (σ.1 259 1) * (σ.1 259 1)) - (a2 - a2 / (σ.1 259 1) * (σ.1 259 1))) then some ((((a1 / (σ.1 259 1)) - (a2 / (σ.1 259 1))) + ((a1 - a1 / (σ.1 259 1) * (σ.1 259 1)) - (a2 - a2 / (σ.1 259 1) * (σ.1 259 1)))), σ) else some ((((a1 / (σ.1 259 1)) - (a2 / (σ.1 259 1))) + (-((a1 - a1 / (σ.1 259 1) * (σ.1 259 1)) - (a2 - a2 / (σ.1 259 1) * (σ.1 259 1))))), σ)) else (if 0 ≤ ((a1 - a1 / (σ.1 259 1) * (σ.1 259 1)) - (a2 - a2 / (σ.1 259 1) * (σ.1 259 1))) then some (((-((a1 / (σ.1 259 1)) - (a2 / (σ.1 259 1)))) + ((a1 - a1 / (σ.1 259 1) * (σ.1 259 1)) - (a2 - a2 / (σ.1 259 1) * (σ.1 259 1)))), σ) else some (((-((a1 / (σ.1 259 1)) - (a2 / (σ.1 259 1)))) + (-((a1 - a1 / (σ.1 259 1) * (σ.1 259 1)) - (a2 - a2 / (σ.1 259 1) * (σ.1 259 1))))), σ))))
theorem gm_X12_apart : gM "AskedCampModel" yX12_apart (Cond.code yX12_apart cX12_apart 5 (Option.some Jvm.ClassFile.FieldType.int)) 2 := ⟨by decide +kernel, tw_1608, tw_p96, tw_12, tw_1609⟩
set_option maxHeartbeats 4000000 in
set_option maxRecDepth 100000 in
theorem c_X12_apart (l : Launch) (D : va_G) (ad : Nat → Nat) (ca : Nat → ClassId) (kz : Nat → Nat) (hJ : pInj ad) (n : Nat) (a1 : Int32) (a2 : Int32) (σ : PS) (out : Int32 × PS) (hF : F_X12_apart n a1 a2 σ = some out) : Met l yX12_apart (Cond.code yX12_apart cX12_apart 5 (Option.some Jvm.ClassFile.FieldType.int) :: gw_tbl) { frames := 0, cells := 0, slots := 0, locals := 0 } (va_Pc [.ref (ad (249)), .int a1, .int a2] (pU D ad ca kz σ)) (pQi D ad ca out) 0 0 (pAD ad) := by
  refine q_entry (own := "AskedCampModel") hJ (by decide) rfl (Nat.le_of_ble_eq_true rfl) (fun p e s m below meth c C hr hlk => ?_)
  refine q_lv [(0, .ref (ad (249))), (1, .int a1), (2, .int a2)] rfl ?_
  rw [F_X12_apart] at hF
  refine q_iload_n C 1 dX12_apart_0 rfl rfl ?_
  refine q_aload_n C 0 dX12_apart_1 rfl rfl ?_
  refine qg_11_20 C pi_249 tw_1073 dX12_apart_2 ?_
  refine q_iconst (v := 1) C dX12_apart_5 (by decide) ?_
  refine q_ialdk (jn := 1) C pa_259 (vp_of (by decide)) rfl dX12_apart_6 ?_
  obtain ⟨g1, hF⟩ := grn hF
  refine q_idiv C dX12_apart_7 g1 ?_
  refine q_iload_n C 2 dX12_apart_8 rfl rfl ?_
  refine q_aload_n C 0 dX12_apart_9 rfl rfl ?_
  refine qg_11_20 C pi_249 tw_1073 dX12_apart_10 ?_
  refine q_iconst (v := 1) C dX12_apart_13 (by decide) ?_
  refine q_ialdk (jn := 1) C pa_259 (vp_of (by decide)) rfl dX12_apart_14 ?_
  refine q_idiv C dX12_apart_15 g1 ?_
  refine q_isub C dX12_apart_16 ?_
  refine q_istore_n C [(3, .int ((a1 / (σ.1 259 1)) - (a2 / (σ.1 259 1)))), (0, .ref (ad (249))), (1, .int a1), (2, .int a2)] dX12_apart_17 rfl (by decide) rfl ?_
  refine q_iload_n C 2 dX12_apart_18 rfl rfl ?_
  refine q_aload_n C 1 dX12_apart_19 rfl rfl ?_
  refine qg_11_20 C pi_249 tw_1073 dX12_apart_20 ?_
  refine q_iconst (v := 1) C dX12_apart_23 (by decide) ?_
  refine q_ialdk (jn := 1) C pa_259 (vp_of (by decide)) rfl dX12_apart_24 ?_
  refine q_irem C dX12_apart_25 g1 ?_
  refine q_iload_n C 3 dX12_apart_26 rfl rfl ?_
  refine q_aload_n C 1 dX12_apart_27 rfl rfl ?_
  refine qg_11_20 C pi_249 tw_1073 dX12_apart_28 ?_
  refine q_iconst (v := 1) C dX12_apart_31 (by decide) ?_
  refine q_ialdk (jn := 1) C pa_259 (vp_of (by decide)) rfl dX12_apart_32 ?_
  refine q_irem C dX12_apart_33 g1 ?_
  refine q_isub C dX12_apart_34 ?_
  refine q_istore C [(4, .int ((a1 - a1 / (σ.1 259 1) * (σ.1 259 1)) - (a2 - a2 / (σ.1 259 1) * (σ.1 259 1)))), (3, .int ((a1 / (σ.1 259 1)) - (a2 / (σ.1 259 1)))), (0, .ref (ad (249))), (1, .int a1), (2, .int a2)] dX12_apart_35 (by decide) rfl ?_
  refine q_iload_n C 1 dX12_apart_37 rfl rfl ?_
  refine q_if_ge (tgt := 46) C dX12_apart_38 (by decide) (fun c2 => ?_) (fun c2 => ?_)
  · replace hF := ift c2 hF
    refine q_iload_n C 1 dX12_apart_46 rfl rfl ?_
    refine q_iload C 0 dX12_apart_47 rfl ?_
    refine q_if_ge (tgt := 58) C dX12_apart_49 (by decide) (fun c3 => ?_) (fun c3 => ?_)
    · replace hF := ift c3 hF
      refine q_iload C 0 dX12_apart_58 rfl ?_
      refine q_iadd C dX12_apart_60 ?_
      exact q_iret C hr hlk dX12_apart_61 hF
    · replace hF := ife c3 hF
      refine q_iload C 0 dX12_apart_52 rfl ?_
      refine q_ineg C dX12_apart_54 ?_
      refine q_goto (tgt := 60) C dX12_apart_55 (by decide) ?_
      refine q_iadd C dX12_apart_60 ?_
      exact q_iret C hr hlk dX12_apart_61 hF
  · replace hF := ife c2 hF
    refine q_iload_n C 1 dX12_apart_41 rfl rfl ?_
    refine q_ineg C dX12_apart_42 ?_
    refine q_goto (tgt := 47) C dX12_apart_43 (by decide) ?_
    refine q_iload C 0 dX12_apart_47 rfl ?_
    refine q_if_ge (tgt := 58) C dX12_apart_49 (by decide) (fun c4 => ?_) (fun c4 => ?_)
    · replace hF := ift c4 hF
      refine q_iload C 0 dX12_apart_58 rfl ?_
      refine q_iadd C dX12_apart_60 ?_
      exact q_iret C hr hlk dX12_apart_61 hF
    · replace hF := ife c4 hF
      refine q_iload C 0 dX12_apart_52 rfl ?_
      refine q_ineg C dX12_apart_54 ?_
      refine q_goto (tgt := 60) C dX12_apart_55 (by decide) ?_
      refine q_iadd C dX12_apart_60 ?_
      exact q_iret C hr hlk dX12_apart_61 hF
-- X12_areAlike
def L_X12_areAlike_2 (n : Nat) : Nat → Int32 → Int32 → Int32 → PS → Option (Nat × PS)
  | 0, _, _, _, _ => none
  | k + 1, x1, x2, x3, σ => (if (6 : Int32) ≤ x3 then some (1, σ) else (if 0 ≤ (x1 + x3) ∧ (x1 + x3).toNatClampNeg < 66 then (if 0 ≤ (x2 + x3) ∧ (x2 + x3).toNatClampNeg < 66 then (if (σ.1 270 ((x1 + x3).toNatClampNeg)) = (σ.1 270 ((x2 + x3).toNatClampNeg)) then L_X12_areAlike_2 n k x1 x2 (x3 + 1) σ else some (0, σ)) else none) else none))
def F_X12_areAlike (n : Nat) (a1 : Int32) (a2 : Int32) (σ : PS) : Option (Int32 × PS) := (L_X12_areAlike_2 n n a1 a2 (0 : Int32) σ).bind (fun o5 => (if o5.1 = 0 then some ((0 : Int32), o5.2) else some ((1 : Int32), o5.2)))
theorem gm_X12_areAlike : gM "AskedCampModel" yX12_areAlike (Cond.code yX12_areAlike cX12_areAlike 4 (Option.some Jvm.ClassFile.FieldType.boolean)) 2 := ⟨by decide +kernel, tw_1616, tw_p97, tw_12, tw_1617⟩
set_option maxHeartbeats 4000000 in
set_option maxRecDepth 100000 in
theorem l_X12_areAlike_2 {p : Program} {l : Launch} {e : Env} {R : Room} {s : State} {m : MethodId} {args : Array Value} {below : List Frame} {meth : Method} {c : Code} {D : va_G} {ad : Nat → Nat} {ca : Nat → ClassId} {kz : Nat → Nat} {Q : State → Prop} (C : pC p s m args c cX12_areAlike "AskedCampModel" 4 D ad ca kz) (hR : 0 ≤ R.frames ∧ 0 ≤ R.locals) {n : Nat} (o : Nat × PS) (hx0 : o.1 = 0 → PW p l e R s m args below meth c 4 D ad ca 0 0 Q (o.2) 27 [] []) (hx1 : o.1 = 1 → PW p l e R s m args below meth c 4 D ad ca 0 0 Q (o.2) 35 [] []) : ∀ (k : Nat) (x1 : Int32) (x2 : Int32) (x3 : Int32) (σ : PS), L_X12_areAlike_2 n k x1 x2 x3 σ = some o → PW p l e R s m args below meth c 4 D ad ca 0 0 Q σ 2 [(0, .ref (ad (249))), (1, .int x1), (2, .int x2), (3, .int x3)] [] := by
  intro k
  induction k with
  | zero => intro x1 x2 x3 σ hF; exact nomatch (show (none : Option (Nat × PS)) = some o from hF)
  | succ k ih =>
    intro x1 x2 x3 σ hF
    rw [L_X12_areAlike_2] at hF
    refine q_iload_n C 3 dX12_areAlike_2 rfl rfl ?_
    refine q_bipush (v := 6) C dX12_areAlike_3 (by decide) ?_
    refine q_icmp_ge (tgt := 35) C dX12_areAlike_5 (by decide) (fun c1 => ?_) (fun c1 => ?_)
    · replace hF := ift c1 hF
      cases hF
      refine q_sub [] rfl ?_
      exact hx1 rfl
    · replace hF := ife c1 hF
      refine q_aload_n C 0 dX12_areAlike_8 rfl rfl ?_
      refine qg_11_35 C pi_249 tw_1088 dX12_areAlike_9 ?_
      refine q_iload_n C 1 dX12_areAlike_12 rfl rfl ?_
      refine q_iload_n C 3 dX12_areAlike_13 rfl rfl ?_
      refine q_iadd C dX12_areAlike_14 ?_
      obtain ⟨g2, hF⟩ := grd hF
      refine q_iald C pa_270 (vp_of g2) dX12_areAlike_15 ?_
      refine q_aload_n C 0 dX12_areAlike_16 rfl rfl ?_
      refine qg_11_35 C pi_249 tw_1088 dX12_areAlike_17 ?_
      refine q_iload_n C 2 dX12_areAlike_20 rfl rfl ?_
      refine q_iload_n C 3 dX12_areAlike_21 rfl rfl ?_
      refine q_iadd C dX12_areAlike_22 ?_
      obtain ⟨g3, hF⟩ := grd hF
      refine q_iald C pa_270 (vp_of g3) dX12_areAlike_23 ?_
      refine q_icmp_eq (tgt := 29) C dX12_areAlike_24 (by decide) (fun c4 => ?_) (fun c4 => ?_)
      · replace hF := ift c4 hF
        refine q_iinc C 3 [(3, .int (x3 + 1)), (0, .ref (ad (249))), (1, .int x1), (2, .int x2)] dX12_areAlike_29 rfl rfl (by decide) rfl ?_
        refine q_goto (tgt := 2) C dX12_areAlike_32 (by decide) ?_
        refine q_sub [1, 2, 3, 0] rfl ?_
        exact ih _ _ _ _ hF
      · replace hF := ife c4 hF
        cases hF
        refine q_sub [] rfl ?_
        exact hx0 rfl
set_option maxHeartbeats 4000000 in
set_option maxRecDepth 100000 in
theorem c_X12_areAlike (l : Launch) (D : va_G) (ad : Nat → Nat) (ca : Nat → ClassId) (kz : Nat → Nat) (hJ : pInj ad) (n : Nat) (a1 : Int32) (a2 : Int32) (σ : PS) (out : Int32 × PS) (hF : F_X12_areAlike n a1 a2 σ = some out) : Met l yX12_areAlike (Cond.code yX12_areAlike cX12_areAlike 4 (Option.some Jvm.ClassFile.FieldType.boolean) :: gw_tbl) { frames := 0, cells := 0, slots := 0, locals := 0 } (va_Pc [.ref (ad (249)), .int a1, .int a2] (pU D ad ca kz σ)) (pQi D ad ca out) 0 0 (pAD ad) := by
  refine q_entry (own := "AskedCampModel") hJ (by decide) rfl (Nat.le_of_ble_eq_true rfl) (fun p e s m below meth c C hr hlk => ?_)
  refine q_lv [(0, .ref (ad (249))), (1, .int a1), (2, .int a2)] rfl ?_
  rw [F_X12_areAlike] at hF
  refine q_iconst (v := 0) C dX12_areAlike_0 (by decide) ?_
  refine q_istore_n C [(3, .int 0), (0, .ref (ad (249))), (1, .int a1), (2, .int a2)] dX12_areAlike_1 rfl (by decide) rfl ?_
  obtain ⟨o5, h6, hF⟩ := bnd hF
  try dsimp only at hF
  refine q_sub [1, 2, 3, 0] rfl ?_
  refine l_X12_areAlike_2 C ⟨Nat.le_of_ble_eq_true rfl, Nat.le_of_ble_eq_true rfl⟩ o5 (fun eo5_0 => ?_) (fun eo5_1 => ?_) n _ _ _ _ h6
  · -- exit 0
    replace hF := ift eo5_0 hF
    refine q_iconst (v := 0) C dX12_areAlike_27 (by decide) ?_
    exact q_zret C hr hlk dX12_areAlike_28 (by decide) hF
  · -- exit 1
    replace hF := ife (by rw [eo5_1]; decide) hF
    refine q_iconst (v := 1) C dX12_areAlike_35 (by decide) ?_
    exact q_zret C hr hlk dX12_areAlike_36 (by decide) hF
-- X12_areNotesSo
def L_X12_areNotesSo_2 (n : Nat) : Nat → Int32 → Int32 → PS → Option (Nat × PS)
  | 0, _, _, _ => none
  | k + 1, x1, x2, σ => (if ((2 : Int32) * (σ.1 259 178)) ≤ x2 then some (1, σ) else (if 0 ≤ ((158 : Int32) + x2) ∧ ((158 : Int32) + x2).toNatClampNeg < 179 then (F_X12_spot n x1 (σ.1 259 (((158 : Int32) + x2).toNatClampNeg)) σ).bind (fun q3 => (if 0 ≤ q3.1 ∧ q3.1.toNatClampNeg < 427 then (if 0 ≤ (((158 : Int32) + x2) + (1 : Int32)) ∧ (((158 : Int32) + x2) + (1 : Int32)).toNatClampNeg < 179 then (if (q3.2.1 272 q3.1.toNatClampNeg) = (q3.2.1 259 ((((158 : Int32) + x2) + (1 : Int32)).toNatClampNeg)) then L_X12_areNotesSo_2 n k x1 (x2 + 2) q3.2 else some (0, q3.2)) else none) else none)) else none))
def F_X12_areNotesSo (n : Nat) (a1 : Int32) (σ : PS) : Option (Int32 × PS) := (L_X12_areNotesSo_2 n n a1 (0 : Int32) σ).bind (fun o8 => (if o8.1 = 0 then some ((0 : Int32), o8.2) else some ((1 : Int32), o8.2)))
theorem gm_X12_areNotesSo : gM "AskedCampModel" yX12_areNotesSo (Cond.code yX12_areNotesSo cX12_areNotesSo 3 (Option.some Jvm.ClassFile.FieldType.boolean)) 1 := ⟨by decide +kernel, tw_1636, tw_p99, tw_12, tw_1637⟩
set_option maxHeartbeats 4000000 in
set_option maxRecDepth 100000 in
theorem l_X12_areNotesSo_2 {p : Program} {l : Launch} {e : Env} {R : Room} {s : State} {m : MethodId} {args : Array Value} {below : List Frame} {meth : Method} {c : Code} {D : va_G} {ad : Nat → Nat} {ca : Nat → ClassId} {kz : Nat → Nat} {Q : State → Prop} (C : pC p s m args c cX12_areNotesSo "AskedCampModel" 3 D ad ca kz) (hR : 1 ≤ R.frames ∧ 21 ≤ R.locals) {n : Nat} (o : Nat × PS) (hx0 : o.1 = 0 → PW p l e R s m args below meth c 3 D ad ca 0 0 Q (o.2) 50 [] []) (hx1 : o.1 = 1 → PW p l e R s m args below meth c 3 D ad ca 0 0 Q (o.2) 58 [] []) : ∀ (k : Nat) (x1 : Int32) (x2 : Int32) (σ : PS), L_X12_areNotesSo_2 n k x1 x2 σ = some o → PW p l e R s m args below meth c 3 D ad ca 0 0 Q σ 2 [(0, .ref (ad (249))), (1, .int x1), (2, .int x2)] [] := by
  intro k
  induction k with
  | zero => intro x1 x2 σ hF; exact nomatch (show (none : Option (Nat × PS)) = some o from hF)
  | succ k ih =>
    intro x1 x2 σ hF
    rw [L_X12_areNotesSo_2] at hF
    refine q_iload_n C 2 dX12_areNotesSo_2 rfl rfl ?_
    refine q_iconst (v := 2) C dX12_areNotesSo_3 (by decide) ?_
    refine q_aload_n C 0 dX12_areNotesSo_4 rfl rfl ?_
    refine qg_11_20 C pi_249 tw_1073 dX12_areNotesSo_5 ?_
    refine q_sipush (v := 178) C dX12_areNotesSo_8 (by decide) ?_
    refine q_ialdk (jn := 178) C pa_259 (vp_of (by decide)) rfl dX12_areNotesSo_11 ?_
    refine q_imul C dX12_areNotesSo_12 ?_
    refine q_icmp_ge (tgt := 58) C dX12_areNotesSo_13 (by decide) (fun c1 => ?_) (fun c1 => ?_)
    · replace hF := ift c1 hF
      cases hF
      refine q_sub [] rfl ?_
      exact hx1 rfl
    · replace hF := ife c1 hF
      refine q_aload_n C 0 dX12_areNotesSo_16 rfl rfl ?_
      refine qg_11_37 C pi_249 tw_1090 dX12_areNotesSo_17 ?_
      refine q_iload_n C 1 dX12_areNotesSo_20 rfl rfl ?_
      refine q_aload_n C 0 dX12_areNotesSo_21 rfl rfl ?_
      refine qg_11_20 C pi_249 tw_1073 dX12_areNotesSo_22 ?_
      refine q_sipush (v := 158) C dX12_areNotesSo_25 (by decide) ?_
      refine q_iload_n C 2 dX12_areNotesSo_28 rfl rfl ?_
      refine q_iadd C dX12_areNotesSo_29 ?_
      obtain ⟨g2, hF⟩ := grd hF
      refine q_iald C pa_259 (vp_of g2) dX12_areNotesSo_30 ?_
      obtain ⟨q3, h4, hF⟩ := bnd hF
      try dsimp only at hF
      refine q_callSi C [.int x1, .int (σ.1 259 (((158 : Int32) + x2).toNatClampNeg))] (c_X12_spot l D ad ca kz C.2.2.2.2.2.2.1 _ _ _ _ _ h4) tw_1631 gm_X12_spot ⟨rfl, rfl⟩ ⟨Nat.le_trans (Nat.le_of_ble_eq_true rfl) hR.1, Nat.le_trans (Nat.le_of_ble_eq_true rfl) hR.2⟩ rfl (Nat.le_of_ble_eq_true rfl) dX12_areNotesSo_31 q00 ?_
      obtain ⟨g5, hF⟩ := grd hF
      refine q_iald C pa_272 (vp_of g5) dX12_areNotesSo_34 ?_
      refine q_aload_n C 0 dX12_areNotesSo_35 rfl rfl ?_
      refine qg_11_20 C pi_249 tw_1073 dX12_areNotesSo_36 ?_
      refine q_sipush (v := 158) C dX12_areNotesSo_39 (by decide) ?_
      refine q_iload_n C 2 dX12_areNotesSo_42 rfl rfl ?_
      refine q_iadd C dX12_areNotesSo_43 ?_
      refine q_iconst (v := 1) C dX12_areNotesSo_44 (by decide) ?_
      refine q_iadd C dX12_areNotesSo_45 ?_
      obtain ⟨g6, hF⟩ := grd hF
      refine q_iald C pa_259 (vp_of g6) dX12_areNotesSo_46 ?_
      refine q_icmp_eq (tgt := 52) C dX12_areNotesSo_47 (by decide) (fun c7 => ?_) (fun c7 => ?_)
      · replace hF := ift c7 hF
        refine q_iinc C 2 [(2, .int (x2 + 2)), (0, .ref (ad (249))), (1, .int x1)] dX12_areNotesSo_52 rfl rfl (by decide) rfl ?_
        refine q_goto (tgt := 2) C dX12_areNotesSo_55 (by decide) ?_
        refine q_sub [1, 2, 0] rfl ?_
        exact ih _ _ _ hF
      · replace hF := ife c7 hF
        cases hF
        refine q_sub [] rfl ?_
        exact hx0 rfl
set_option maxHeartbeats 4000000 in
set_option maxRecDepth 100000 in
theorem c_X12_areNotesSo (l : Launch) (D : va_G) (ad : Nat → Nat) (ca : Nat → ClassId) (kz : Nat → Nat) (hJ : pInj ad) (n : Nat) (a1 : Int32) (σ : PS) (out : Int32 × PS) (hF : F_X12_areNotesSo n a1 σ = some out) : Met l yX12_areNotesSo (Cond.code yX12_areNotesSo cX12_areNotesSo 3 (Option.some Jvm.ClassFile.FieldType.boolean) :: gw_tbl) { frames := 1, cells := 0, slots := 0, locals := 21 } (va_Pc [.ref (ad (249)), .int a1] (pU D ad ca kz σ)) (pQi D ad ca out) 0 0 (pAD ad) := by
  refine q_entry (own := "AskedCampModel") hJ (by decide) rfl (Nat.le_of_ble_eq_true rfl) (fun p e s m below meth c C hr hlk => ?_)
  refine q_lv [(0, .ref (ad (249))), (1, .int a1)] rfl ?_
  rw [F_X12_areNotesSo] at hF
  refine q_iconst (v := 0) C dX12_areNotesSo_0 (by decide) ?_
  refine q_istore_n C [(2, .int 0), (0, .ref (ad (249))), (1, .int a1)] dX12_areNotesSo_1 rfl (by decide) rfl ?_
  obtain ⟨o8, h9, hF⟩ := bnd hF
  try dsimp only at hF
  refine q_sub [1, 2, 0] rfl ?_
  refine l_X12_areNotesSo_2 C ⟨Nat.le_of_ble_eq_true rfl, Nat.le_of_ble_eq_true rfl⟩ o8 (fun eo8_0 => ?_) (fun eo8_1 => ?_) n _ _ _ h9
  · -- exit 0
    replace hF := ift eo8_0 hF
    refine q_iconst (v := 0) C dX12_areNotesSo_50 (by decide) ?_
    exact q_zret C hr hlk dX12_areNotesSo_51 (by decide) hF
  · -- exit 1
    replace hF := ife (by rw [eo8_1]; decide) hF
    refine q_iconst (v := 1) C dX12_areNotesSo_58 (by decide) ?_
    exact q_zret C hr hlk dX12_areNotesSo_59 (by decide) hF
-- X12_back
def L_X12_back_50 (n : Nat) : Nat → Int32 → Int32 → PS → Option (PS)
  | 0, _, _, _ => none
  | k + 1, x1, x2, σ => (if (179 : Int32) ≤ x2 then some σ else (if 0 ≤ (((179 : Int32) * x1) + x2) ∧ (((179 : Int32) * x1) + x2).toNatClampNeg < 716 then (if 0 ≤ x2 ∧ x2.toNatClampNeg < 179 then L_X12_back_50 n k x1 (x2 + 1) (psI σ 259 x2.toNatClampNeg (σ.1 273 ((((179 : Int32) * x1) + x2).toNatClampNeg))) else none) else none))
def F_X12_back (n : Nat) (a1 : Int32) (σ : PS) : Option (Int32 × PS) := (F_X12_in n a1.toInt64 (0 : Int64) (3 : Int64) σ).bind (fun q1 => (if q1.1 = 0 then some ((-1 : Int32), q1.2) else (if 0 ≤ a1 ∧ a1.toNatClampNeg < 4 then (if (q1.2.1 276 a1.toNatClampNeg) = 0 then some ((-1 : Int32), q1.2) else (L_X12_back_50 n n a1 (0 : Int32) (psI (psI (psI q1.2 249 21 (q1.2.1 274 a1.toNatClampNeg)) 249 22 ((psI q1.2 249 21 (q1.2.1 274 a1.toNatClampNeg)).1 275 a1.toNatClampNeg)) 249 26 (0 : Int32))).bind (fun o9 => some ((o9.1 259 10), o9))) else none)))
theorem gm_X12_back : gM "AskedCampModel" yX12_back (Cond.code yX12_back cX12_back 3 (Option.some Jvm.ClassFile.FieldType.int)) 1 := ⟨by decide +kernel, tw_1676, tw_1677, tw_12, tw_1678⟩
set_option maxHeartbeats 4000000 in
set_option maxRecDepth 100000 in
theorem l_X12_back_50 {p : Program} {l : Launch} {e : Env} {R : Room} {s : State} {m : MethodId} {args : Array Value} {below : List Frame} {meth : Method} {c : Code} {D : va_G} {ad : Nat → Nat} {ca : Nat → ClassId} {kz : Nat → Nat} {Q : State → Prop} (C : pC p s m args c cX12_back "AskedCampModel" 3 D ad ca kz) (hR : 1 ≤ R.frames ∧ 25 ≤ R.locals) {n : Nat} (o : PS) (hx0 : PW p l e R s m args below meth c 3 D ad ca 0 0 Q (o) 81 [(0, .ref (ad (249)))] []) : ∀ (k : Nat) (x1 : Int32) (x2 : Int32) (σ : PS), L_X12_back_50 n k x1 x2 σ = some o → PW p l e R s m args below meth c 3 D ad ca 0 0 Q σ 50 [(0, .ref (ad (249))), (1, .int x1), (2, .int x2)] [] := by
  intro k
  induction k with
  | zero => intro x1 x2 σ hF; exact nomatch (show (none : Option (PS)) = some o from hF)
  | succ k ih =>
    intro x1 x2 σ hF
    rw [L_X12_back_50] at hF
    refine q_iload_n C 2 dX12_back_50 rfl rfl ?_
    refine q_sipush (v := 179) C dX12_back_51 (by decide) ?_
    refine q_icmp_ge (tgt := 81) C dX12_back_54 (by decide) (fun c6 => ?_) (fun c6 => ?_)
    · replace hF := ift c6 hF
      cases hF
      refine q_sub [0] rfl ?_
      exact hx0
    · replace hF := ife c6 hF
      refine q_aload_n C 0 dX12_back_57 rfl rfl ?_
      refine qg_11_20 C pi_249 tw_1073 dX12_back_58 ?_
      refine q_iload_n C 2 dX12_back_61 rfl rfl ?_
      refine q_aload_n C 0 dX12_back_62 rfl rfl ?_
      refine qg_11_39 C pi_249 tw_1092 dX12_back_63 ?_
      refine q_sipush (v := 179) C dX12_back_66 (by decide) ?_
      refine q_iload_n C 1 dX12_back_69 rfl rfl ?_
      refine q_imul C dX12_back_70 ?_
      refine q_iload_n C 2 dX12_back_71 rfl rfl ?_
      refine q_iadd C dX12_back_72 ?_
      obtain ⟨g7, hF⟩ := grd hF
      refine q_iald C pa_273 (vp_of g7) dX12_back_73 ?_
      obtain ⟨g8, hF⟩ := grd hF
      refine q_iast C pa_259 (vp_of g8) dX12_back_74 ?_
      refine q_iinc C 2 [(2, .int (x2 + 1)), (0, .ref (ad (249))), (1, .int x1)] dX12_back_75 rfl rfl (by decide) rfl ?_
      refine q_goto (tgt := 50) C dX12_back_78 (by decide) ?_
      refine q_sub [1, 2, 0] rfl ?_
      exact ih _ _ _ hF
set_option maxHeartbeats 4000000 in
set_option maxRecDepth 100000 in
theorem c_X12_back (l : Launch) (D : va_G) (ad : Nat → Nat) (ca : Nat → ClassId) (kz : Nat → Nat) (hJ : pInj ad) (n : Nat) (a1 : Int32) (σ : PS) (out : Int32 × PS) (hF : F_X12_back n a1 σ = some out) : Met l yX12_back (Cond.code yX12_back cX12_back 3 (Option.some Jvm.ClassFile.FieldType.int) :: gw_tbl) { frames := 1, cells := 0, slots := 0, locals := 25 } (va_Pc [.ref (ad (249)), .int a1] (pU D ad ca kz σ)) (pQi D ad ca out) 0 0 (pAD ad) := by
  refine q_entry (own := "AskedCampModel") hJ (by decide) rfl (Nat.le_of_ble_eq_true rfl) (fun p e s m below meth c C hr hlk => ?_)
  refine q_lv [(0, .ref (ad (249))), (1, .int a1)] rfl ?_
  rw [F_X12_back] at hF
  refine q_iload_n C 1 dX12_back_0 rfl rfl ?_
  refine q_i2l C dX12_back_1 ?_
  refine q_lconst (v := 0) C dX12_back_2 (by decide) ?_
  refine q_ldc2 C dX12_back_3 tw_1373 ?_
  obtain ⟨q1, h2, hF⟩ := bnd hF
  try dsimp only at hF
  refine q_callSi C [.long a1.toInt64, .long ((0 : Int64)), .long ((3 : Int64))] (c_X12_in l D ad ca kz C.2.2.2.2.2.2.1 _ _ _ _ _ _ h2) tw_1255 gm_X12_in ⟨rfl, rfl⟩ ⟨Nat.le_of_ble_eq_true rfl, Nat.le_of_ble_eq_true rfl⟩ rfl (Nat.le_of_ble_eq_true rfl) dX12_back_6 q00 ?_
  refine q_if_eq (tgt := 21) C dX12_back_9 (by decide) (fun c3 => ?_) (fun c3 => ?_)
  · replace hF := ift c3 hF
    refine q_iconst (v := -1) C dX12_back_21 (by decide) ?_
    exact q_iret C hr hlk dX12_back_22 hF
  · replace hF := ife c3 hF
    refine q_aload_n C 0 dX12_back_12 rfl rfl ?_
    refine qg_11_42 C pi_249 tw_1095 dX12_back_13 ?_
    refine q_iload_n C 1 dX12_back_16 rfl rfl ?_
    obtain ⟨g4, hF⟩ := grd hF
    refine q_zald C pa_276 (vp_of g4) dX12_back_17 ?_
    refine q_if_ne (tgt := 23) C dX12_back_18 (by decide) (fun c5 => ?_) (fun c5 => ?_)
    · replace hF := ife c5 hF
      refine q_aload_n C 0 dX12_back_23 rfl rfl ?_
      refine q_aload_n C 0 dX12_back_24 rfl rfl ?_
      refine qg_11_40 C pi_249 tw_1093 dX12_back_25 ?_
      refine q_iload_n C 1 dX12_back_28 rfl rfl ?_
      refine q_iald C pa_274 (vp_of g4) dX12_back_29 ?_
      refine qs_11_21 C pi_249 tw_1074 dX12_back_30 ?_
      refine q_aload_n C 0 dX12_back_33 rfl rfl ?_
      refine q_aload_n C 0 dX12_back_34 rfl rfl ?_
      refine qg_11_41 C pi_249 tw_1094 dX12_back_35 ?_
      refine q_iload_n C 1 dX12_back_38 rfl rfl ?_
      refine q_iald C pa_275 (vp_of g4) dX12_back_39 ?_
      refine qs_11_22 C pi_249 tw_1075 dX12_back_40 ?_
      refine q_aload_n C 0 dX12_back_43 rfl rfl ?_
      refine q_iconst (v := 0) C dX12_back_44 (by decide) ?_
      refine qs_11_26 C pi_249 tw_1079 dX12_back_45 ?_
      refine q_iconst (v := 0) C dX12_back_48 (by decide) ?_
      refine q_istore_n C [(2, .int 0), (0, .ref (ad (249))), (1, .int a1)] dX12_back_49 rfl (by decide) rfl ?_
      obtain ⟨o9, h10, hF⟩ := bnd hF
      try dsimp only at hF
      refine q_sub [1, 2, 0] rfl ?_
      refine l_X12_back_50 C ⟨Nat.le_of_ble_eq_true rfl, Nat.le_of_ble_eq_true rfl⟩ o9 ?_ n _ _ _ h10
      refine q_aload_n C 0 dX12_back_81 rfl rfl ?_
      refine qg_11_20 C pi_249 tw_1073 dX12_back_82 ?_
      refine q_bipush (v := 10) C dX12_back_85 (by decide) ?_
      refine q_ialdk (jn := 10) C pa_259 (vp_of (by decide)) rfl dX12_back_87 ?_
      exact q_iret C hr hlk dX12_back_88 hF
    · replace hF := ift c5 hF
      refine q_iconst (v := -1) C dX12_back_21 (by decide) ?_
      exact q_iret C hr hlk dX12_back_22 hF
