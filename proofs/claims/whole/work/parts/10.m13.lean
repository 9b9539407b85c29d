-- X12_look
def L_X12_look_27 (n : Nat) : Nat → Int32 → Int32 → Int32 → PS → Option (Int32 × Int32 × PS)
  | 0, _, _, _, _ => none
  | k + 1, x1, x2, x3, σ => (if (60 : Int32) < x3 then some (x1, x2, σ) else (F_X12_alikeAt n x3 σ).bind (fun q10 => (F_X12_alikeAt n x2 q10.2).bind (fun q12 => (if q12.1 ≤ q10.1 then L_X12_look_27 n k x1 x2 (x3 + 1) q12.2 else L_X12_look_27 n k x1 x3 (x3 + 1) q12.2))))
def F_X12_look (n : Nat) (a1 : Int32) (σ : PS) : Option (Int32 × PS) := (F_X12_isCamp n σ).bind (fun q1 => (if q1.1 = 0 then some ((-1 : Int32), q1.2) else (F_X12_in n a1.toInt64 (0 : Int64) (1 : Int64) q1.2).bind (fun q4 => (if q4.1 = 0 then some ((-1 : Int32), q4.2) else (F_X12_fillsFits n q4.2).bind (fun q7 => (L_X12_look_27 n n a1 (0 : Int32) (1 : Int32) q7).bind (fun o15 => (F_X12_alikeAt n o15.2.1 o15.2.2).bind (fun q17 => (if q17.1 = 0 then some ((-2 : Int32), q17.2) else (if o15.1 = 0 then some (o15.2.1, q17.2) else (F_X12_alikeAt n o15.2.1 q17.2).bind (fun q21 => some (q21.1, q21.2)))))))))))
theorem gm_X12_look : gM "AskedCampModel" yX12_look (Cond.code yX12_look cX12_look 4 (Option.some Jvm.ClassFile.FieldType.int)) 1 := ⟨by decide +kernel, tw_1639, tw_1640, tw_12, tw_1641⟩
set_option maxHeartbeats 4000000 in
set_option maxRecDepth 100000 in
theorem l_X12_look_27 {p : Program} {l : Launch} {e : Env} {R : Room} {s : State} {m : MethodId} {args : Array Value} {below : List Frame} {meth : Method} {c : Code} {D : va_G} {ad : Nat → Nat} {ca : Nat → ClassId} {kz : Nat → Nat} {Q : State → Prop} (C : pC p s m args c cX12_look "AskedCampModel" 4 D ad ca kz) (hR : 8 ≤ R.frames ∧ 189 ≤ R.locals) {n : Nat} (o : Int32 × Int32 × PS) (hx0 : PW p l e R s m args below meth c 4 D ad ca 0 0 Q (o.2.2) 54 [(0, .ref (ad (249))), (1, .int o.1), (2, .int o.2.1)] []) : ∀ (k : Nat) (x1 : Int32) (x2 : Int32) (x3 : Int32) (σ : PS), L_X12_look_27 n k x1 x2 x3 σ = some o → PW p l e R s m args below meth c 4 D ad ca 0 0 Q σ 27 [(0, .ref (ad (249))), (1, .int x1), (2, .int x2), (3, .int x3)] [] := by
  intro k
  induction k with
  | zero => intro x1 x2 x3 σ hF; exact nomatch (show (none : Option (Int32 × Int32 × PS)) = some o from hF)
  | succ k ih =>
    intro x1 x2 x3 σ hF
    rw [L_X12_look_27] at hF
    refine q_iload_n C 3 dX12_look_27 rfl rfl ?_
    refine q_bipush (v := 60) C dX12_look_28 (by decide) ?_
    refine q_icmp_gt (tgt := 54) C dX12_look_30 (by decide) (fun c9 => ?_) (fun c9 => ?_)
    · replace hF := ift c9 hF
      cases hF
      refine q_sub [0, 1, 2] rfl ?_
      exact hx0
    · replace hF := ife c9 hF
      refine q_aload_n C 0 dX12_look_33 rfl rfl ?_
      refine q_iload_n C 3 dX12_look_34 rfl rfl ?_
      obtain ⟨q10, h11, hF⟩ := bnd hF
      try dsimp only at hF
      refine q_callVi C [.int x3] (c_X12_alikeAt l D ad ca kz C.2.2.2.2.2.2.1 _ _ _ _ h11) tw_1642 gm_X12_alikeAt pi_249.1 (pe_11 pi_249.2) rfl ⟨rfl, rfl⟩ ⟨Nat.le_trans (Nat.le_of_ble_eq_true rfl) hR.1, Nat.le_trans (Nat.le_of_ble_eq_true rfl) hR.2⟩ rfl (Nat.le_of_ble_eq_true rfl) dX12_look_35 q00 ?_
      refine q_aload_n C 0 dX12_look_38 rfl rfl ?_
      refine q_iload_n C 2 dX12_look_39 rfl rfl ?_
      obtain ⟨q12, h13, hF⟩ := bnd hF
      try dsimp only at hF
      refine q_callVi C [.int x2] (c_X12_alikeAt l D ad ca kz C.2.2.2.2.2.2.1 _ _ _ _ h13) tw_1642 gm_X12_alikeAt pi_249.1 (pe_11 pi_249.2) rfl ⟨rfl, rfl⟩ ⟨Nat.le_trans (Nat.le_of_ble_eq_true rfl) hR.1, Nat.le_trans (Nat.le_of_ble_eq_true rfl) hR.2⟩ rfl (Nat.le_of_ble_eq_true rfl) dX12_look_40 q00 ?_
      refine q_icmp_ge (tgt := 48) C dX12_look_43 (by decide) (fun c14 => ?_) (fun c14 => ?_)
      · replace hF := ift c14 hF
        refine q_iinc C 3 [(3, .int (x3 + 1)), (0, .ref (ad (249))), (1, .int x1), (2, .int x2)] dX12_look_48 rfl rfl (by decide) rfl ?_
        refine q_goto (tgt := 27) C dX12_look_51 (by decide) ?_
        refine q_sub [1, 2, 3, 0] rfl ?_
        exact ih _ _ _ _ hF
      · replace hF := ife c14 hF
        refine q_iload_n C 3 dX12_look_46 rfl rfl ?_
        refine q_istore_n C [(2, .int x3), (0, .ref (ad (249))), (1, .int x1), (3, .int x3)] dX12_look_47 rfl (by decide) rfl ?_
        refine q_iinc C 3 [(3, .int (x3 + 1)), (2, .int x3), (0, .ref (ad (249))), (1, .int x1)] dX12_look_48 rfl rfl (by decide) rfl ?_
        refine q_goto (tgt := 27) C dX12_look_51 (by decide) ?_
        refine q_sub [2, 3, 1, 0] rfl ?_
        exact ih _ _ _ _ hF
set_option maxHeartbeats 4000000 in
set_option maxRecDepth 100000 in
theorem c_X12_look (l : Launch) (D : va_G) (ad : Nat → Nat) (ca : Nat → ClassId) (kz : Nat → Nat) (hJ : pInj ad) (n : Nat) (a1 : Int32) (σ : PS) (out : Int32 × PS) (hF : F_X12_look n a1 σ = some out) : Met l yX12_look (Cond.code yX12_look cX12_look 4 (Option.some Jvm.ClassFile.FieldType.int) :: gw_tbl) { frames := 8, cells := 0, slots := 0, locals := 189 } (va_Pc [.ref (ad (249)), .int a1] (pU D ad ca kz σ)) (pQi D ad ca out) 0 0 (pAD ad) := by
  refine q_entry (own := "AskedCampModel") hJ (by decide) rfl (Nat.le_of_ble_eq_true rfl) (fun p e s m below meth c C hr hlk => ?_)
  refine q_lv [(0, .ref (ad (249))), (1, .int a1)] rfl ?_
  rw [F_X12_look] at hF
  refine q_aload_n C 0 dX12_look_0 rfl rfl ?_
  obtain ⟨q1, h2, hF⟩ := bnd hF
  try dsimp only at hF
  refine q_callVi C [] (c_X12_isCamp l D ad ca kz C.2.2.2.2.2.2.1 _ _ _ h2) tw_1403 gm_X12_isCamp pi_249.1 (pe_11 pi_249.2) rfl ⟨rfl, rfl⟩ ⟨Nat.le_of_ble_eq_true rfl, Nat.le_of_ble_eq_true rfl⟩ rfl (Nat.le_of_ble_eq_true rfl) dX12_look_1 q00 ?_
  refine q_if_eq (tgt := 17) C dX12_look_4 (by decide) (fun c3 => ?_) (fun c3 => ?_)
  · replace hF := ift c3 hF
    refine q_iconst (v := -1) C dX12_look_17 (by decide) ?_
    exact q_iret C hr hlk dX12_look_18 hF
  · replace hF := ife c3 hF
    refine q_iload_n C 1 dX12_look_7 rfl rfl ?_
    refine q_i2l C dX12_look_8 ?_
    refine q_lconst (v := 0) C dX12_look_9 (by decide) ?_
    refine q_lconst (v := 1) C dX12_look_10 (by decide) ?_
    obtain ⟨q4, h5, hF⟩ := bnd hF
    try dsimp only at hF
    refine q_callSi C [.long a1.toInt64, .long ((0 : Int64)), .long ((1 : Int64))] (c_X12_in l D ad ca kz C.2.2.2.2.2.2.1 _ _ _ _ _ _ h5) tw_1255 gm_X12_in ⟨rfl, rfl⟩ ⟨Nat.le_of_ble_eq_true rfl, Nat.le_of_ble_eq_true rfl⟩ rfl (Nat.le_of_ble_eq_true rfl) dX12_look_11 q00 ?_
    refine q_if_ne (tgt := 19) C dX12_look_14 (by decide) (fun c6 => ?_) (fun c6 => ?_)
    · replace hF := ife c6 hF
      refine q_aload_n C 0 dX12_look_19 rfl rfl ?_
      obtain ⟨q7, h8, hF⟩ := bnd hF
      try dsimp only at hF
      refine q_callVv C [] (c_X12_fillsFits l D ad ca kz C.2.2.2.2.2.2.1 _ _ _ h8) tw_1627 gm_X12_fillsFits pi_249.1 (pe_11 pi_249.2) rfl ⟨rfl, rfl⟩ ⟨Nat.le_of_ble_eq_true rfl, Nat.le_of_ble_eq_true rfl⟩ rfl (Nat.le_of_ble_eq_true rfl) dX12_look_20 q00 ?_
      refine q_iconst (v := 0) C dX12_look_23 (by decide) ?_
      refine q_istore_n C [(2, .int 0), (0, .ref (ad (249))), (1, .int a1)] dX12_look_24 rfl (by decide) rfl ?_
      refine q_iconst (v := 1) C dX12_look_25 (by decide) ?_
      refine q_istore_n C [(3, .int 1), (2, .int 0), (0, .ref (ad (249))), (1, .int a1)] dX12_look_26 rfl (by decide) rfl ?_
      obtain ⟨o15, h16, hF⟩ := bnd hF
      try dsimp only at hF
      refine q_sub [2, 3, 1, 0] rfl ?_
      refine l_X12_look_27 C ⟨Nat.le_of_ble_eq_true rfl, Nat.le_of_ble_eq_true rfl⟩ o15 ?_ n _ _ _ _ h16
      refine q_aload_n C 0 dX12_look_54 rfl rfl ?_
      refine q_iload_n C 2 dX12_look_55 rfl rfl ?_
      obtain ⟨q17, h18, hF⟩ := bnd hF
      try dsimp only at hF
      refine q_callVi C [.int o15.2.1] (c_X12_alikeAt l D ad ca kz C.2.2.2.2.2.2.1 _ _ _ _ h18) tw_1642 gm_X12_alikeAt pi_249.1 (pe_11 pi_249.2) rfl ⟨rfl, rfl⟩ ⟨Nat.le_of_ble_eq_true rfl, Nat.le_of_ble_eq_true rfl⟩ rfl (Nat.le_of_ble_eq_true rfl) dX12_look_56 q00 ?_
      refine q_if_ne (tgt := 67) C dX12_look_59 (by decide) (fun c19 => ?_) (fun c19 => ?_)
      · replace hF := ife c19 hF
        refine q_iload_n C 1 dX12_look_67 rfl rfl ?_
        refine q_if_ne (tgt := 75) C dX12_look_68 (by decide) (fun c20 => ?_) (fun c20 => ?_)
        · replace hF := ife c20 hF
          refine q_aload_n C 0 dX12_look_75 rfl rfl ?_
          refine q_iload_n C 2 dX12_look_76 rfl rfl ?_
          obtain ⟨q21, h22, hF⟩ := bnd hF
          try dsimp only at hF
          refine q_callVi C [.int o15.2.1] (c_X12_alikeAt l D ad ca kz C.2.2.2.2.2.2.1 _ _ _ _ h22) tw_1642 gm_X12_alikeAt pi_249.1 (pe_11 pi_249.2) rfl ⟨rfl, rfl⟩ ⟨Nat.le_of_ble_eq_true rfl, Nat.le_of_ble_eq_true rfl⟩ rfl (Nat.le_of_ble_eq_true rfl) dX12_look_77 q00 ?_
          exact q_iret C hr hlk dX12_look_80 hF
        · replace hF := ift c20 hF
          refine q_iload_n C 2 dX12_look_71 rfl rfl ?_
          refine q_goto (tgt := 80) C dX12_look_72 (by decide) ?_
          exact q_iret C hr hlk dX12_look_80 hF
      · replace hF := ift c19 hF
        refine q_bipush (v := -2) C dX12_look_62 (by decide) ?_
        refine q_goto (tgt := 80) C dX12_look_64 (by decide) ?_
        exact q_iret C hr hlk dX12_look_80 hF
    · replace hF := ift c6 hF
      refine q_iconst (v := -1) C dX12_look_17 (by decide) ?_
      exact q_iret C hr hlk dX12_look_18 hF
-- X12_most
def L_X12_most_49 (n : Nat) : Nat → Int32 → Int32 → Int32 → Int32 → PS → Option (Int32 × Int32 × Int32 × PS)
  | 0, _, _, _, _, _ => none
  | k + 1, x2, x3, x4, x5, σ => (if (σ.1 259 2) ≤ x5 then some (x2, x3, x4, σ) else (F_X12_askedOf n x5 σ).bind (fun q15 => (if 0 ≤ ((((13 : Int32) + ((4 : Int32) * x5)) + (2 : Int32)) - (10 : Int32)) ∧ ((((13 : Int32) + ((4 : Int32) * x5)) + (2 : Int32)) - (10 : Int32)).toNatClampNeg < 99 then (if x4 < (q15.1 - (q15.2.1 263 (((((13 : Int32) + ((4 : Int32) * x5)) + (2 : Int32)) - (10 : Int32)).toNatClampNeg))) then L_X12_most_49 n k x2 x5 (q15.1 - (q15.2.1 263 (((((13 : Int32) + ((4 : Int32) * x5)) + (2 : Int32)) - (10 : Int32)).toNatClampNeg))) (x5 + 1) q15.2 else L_X12_most_49 n k x2 x3 x4 (x5 + 1) q15.2) else none)))
def F_X12_most (n : Nat) (a1 : Int32) (a2 : Int32) (σ : PS) : Option (Int32 × PS) := (F_X12_isCamp n σ).bind (fun q1 => (if q1.1 = 0 then some ((-1 : Int32), q1.2) else (F_X12_in n a1.toInt64 (1 : Int64) (100 : Int64) q1.2).bind (fun q4 => (if q4.1 = 0 then some ((-1 : Int32), q4.2) else (F_X12_in n a2.toInt64 (0 : Int64) (1 : Int64) q4.2).bind (fun q7 => (if q7.1 = 0 then some ((-1 : Int32), q7.2) else (F_X12_keeps n q7.2).bind (fun q10 => (F_X12_passesAll n a1 q10).bind (fun q12 => (L_X12_most_49 n n a2 (-2 : Int32) (-1 : Int32) (0 : Int32) q12).bind (fun o19 => (F_X12_laysBack n o19.2.2.2).bind (fun q21 => (if o19.1 = 0 then some (o19.2.1, q21) else (if 0 ≤ o19.2.2.1 then some (o19.2.2.1, q21) else some ((0 : Int32), q21)))))))))))))
theorem gm_X12_most : gM "AskedCampModel" yX12_most (Cond.code yX12_most cX12_most 7 (Option.some Jvm.ClassFile.FieldType.int)) 2 := ⟨by decide +kernel, tw_1548, tw_1549, tw_12, tw_1550⟩
set_option maxHeartbeats 4000000 in
set_option maxRecDepth 100000 in
theorem l_X12_most_49 {p : Program} {l : Launch} {e : Env} {R : Room} {s : State} {m : MethodId} {args : Array Value} {below : List Frame} {meth : Method} {c : Code} {D : va_G} {ad : Nat → Nat} {ca : Nat → ClassId} {kz : Nat → Nat} {Q : State → Prop} (C : pC p s m args c cX12_most "AskedCampModel" 7 D ad ca kz) (hR : 8 ≤ R.frames ∧ 188 ≤ R.locals) {n : Nat} (o : Int32 × Int32 × Int32 × PS) (hx0 : PW p l e R s m args below meth c 7 D ad ca 0 0 Q (o.2.2.2) 109 [(0, .ref (ad (249))), (2, .int o.1), (3, .int o.2.1), (4, .int o.2.2.1)] []) : ∀ (k : Nat) (x2 : Int32) (x3 : Int32) (x4 : Int32) (x5 : Int32) (σ : PS), L_X12_most_49 n k x2 x3 x4 x5 σ = some o → PW p l e R s m args below meth c 7 D ad ca 0 0 Q σ 49 [(0, .ref (ad (249))), (2, .int x2), (3, .int x3), (4, .int x4), (5, .int x5)] [] := by
  intro k
  induction k with
  | zero => intro x2 x3 x4 x5 σ hF; exact nomatch (show (none : Option (Int32 × Int32 × Int32 × PS)) = some o from hF)
  | succ k ih =>
    intro x2 x3 x4 x5 σ hF
    rw [L_X12_most_49] at hF
    refine q_iload C 4 dX12_most_49 rfl ?_
    refine q_aload_n C 0 dX12_most_51 rfl rfl ?_
    refine qg_11_20 C pi_249 tw_1073 dX12_most_52 ?_
    refine q_iconst (v := 2) C dX12_most_55 (by decide) ?_
    refine q_ialdk (jn := 2) C pa_259 (vp_of (by decide)) rfl dX12_most_56 ?_
    refine q_icmp_ge (tgt := 109) C dX12_most_57 (by decide) (fun c14 => ?_) (fun c14 => ?_)
    · replace hF := ift c14 hF
      cases hF
      refine q_sub [0, 1, 2, 3] rfl ?_
      exact hx0
    · replace hF := ife c14 hF
      refine q_aload_n C 0 dX12_most_60 rfl rfl ?_
      refine q_iload C 4 dX12_most_61 rfl ?_
      obtain ⟨q15, h16, hF⟩ := bnd hF
      try dsimp only at hF
      refine q_callVi C [.int x5] (c_X12_askedOf l D ad ca kz C.2.2.2.2.2.2.1 _ _ _ _ h16) tw_1435 gm_X12_askedOf pi_249.1 (pe_11 pi_249.2) rfl ⟨rfl, rfl⟩ ⟨Nat.le_trans (Nat.le_of_ble_eq_true rfl) hR.1, Nat.le_trans (Nat.le_of_ble_eq_true rfl) hR.2⟩ rfl (Nat.le_of_ble_eq_true rfl) dX12_most_63 q00 ?_
      refine q_aload_n C 0 dX12_most_66 rfl rfl ?_
      refine qg_11_27 C pi_249 tw_1080 dX12_most_67 ?_
      refine q_bipush (v := 13) C dX12_most_70 (by decide) ?_
      refine q_iconst (v := 4) C dX12_most_72 (by decide) ?_
      refine q_iload C 4 dX12_most_73 rfl ?_
      refine q_imul C dX12_most_75 ?_
      refine q_iadd C dX12_most_76 ?_
      refine q_iconst (v := 2) C dX12_most_77 (by decide) ?_
      refine q_iadd C dX12_most_78 ?_
      refine q_bipush (v := 10) C dX12_most_79 (by decide) ?_
      refine q_isub C dX12_most_81 ?_
      obtain ⟨g17, hF⟩ := grd hF
      refine q_iald C pa_263 (vp_of g17) dX12_most_82 ?_
      refine q_isub C dX12_most_83 ?_
      refine q_istore C [(6, .int (q15.1 - (q15.2.1 263 (((((13 : Int32) + ((4 : Int32) * x5)) + (2 : Int32)) - (10 : Int32)).toNatClampNeg)))), (0, .ref (ad (249))), (2, .int x2), (3, .int x3), (4, .int x4), (5, .int x5)] dX12_most_84 (by decide) rfl ?_
      refine q_iload C 0 dX12_most_86 rfl ?_
      refine q_iload C 4 dX12_most_88 rfl ?_
      refine q_icmp_gt (tgt := 96) C dX12_most_90 (by decide) (fun c18 => ?_) (fun c18 => ?_)
      · replace hF := ift c18 hF
        refine q_iload C 5 dX12_most_96 rfl ?_
        refine q_istore_n C [(3, .int x5), (6, .int (q15.1 - (q15.2.1 263 (((((13 : Int32) + ((4 : Int32) * x5)) + (2 : Int32)) - (10 : Int32)).toNatClampNeg)))), (0, .ref (ad (249))), (2, .int x2), (4, .int x4), (5, .int x5)] dX12_most_98 rfl (by decide) rfl ?_
        refine q_iload C 1 dX12_most_99 rfl ?_
        refine q_istore C [(4, .int (q15.1 - (q15.2.1 263 (((((13 : Int32) + ((4 : Int32) * x5)) + (2 : Int32)) - (10 : Int32)).toNatClampNeg)))), (3, .int x5), (6, .int (q15.1 - (q15.2.1 263 (((((13 : Int32) + ((4 : Int32) * x5)) + (2 : Int32)) - (10 : Int32)).toNatClampNeg)))), (0, .ref (ad (249))), (2, .int x2), (5, .int x5)] dX12_most_101 (by decide) rfl ?_
        refine q_iinc C 5 [(5, .int (x5 + 1)), (4, .int (q15.1 - (q15.2.1 263 (((((13 : Int32) + ((4 : Int32) * x5)) + (2 : Int32)) - (10 : Int32)).toNatClampNeg)))), (3, .int x5), (6, .int (q15.1 - (q15.2.1 263 (((((13 : Int32) + ((4 : Int32) * x5)) + (2 : Int32)) - (10 : Int32)).toNatClampNeg)))), (0, .ref (ad (249))), (2, .int x2)] dX12_most_103 rfl rfl (by decide) rfl ?_
        refine q_goto (tgt := 49) C dX12_most_106 (by decide) ?_
        refine q_sub [4, 5, 2, 1, 0] rfl ?_
        exact ih _ _ _ _ _ hF
      · replace hF := ife c18 hF
        refine q_goto (tgt := 103) C dX12_most_93 (by decide) ?_
        refine q_iinc C 5 [(5, .int (x5 + 1)), (6, .int (q15.1 - (q15.2.1 263 (((((13 : Int32) + ((4 : Int32) * x5)) + (2 : Int32)) - (10 : Int32)).toNatClampNeg)))), (0, .ref (ad (249))), (2, .int x2), (3, .int x3), (4, .int x4)] dX12_most_103 rfl rfl (by decide) rfl ?_
        refine q_goto (tgt := 49) C dX12_most_106 (by decide) ?_
        refine q_sub [2, 3, 4, 5, 0] rfl ?_
        exact ih _ _ _ _ _ hF
set_option maxHeartbeats 4000000 in
set_option maxRecDepth 100000 in
theorem c_X12_most (l : Launch) (D : va_G) (ad : Nat → Nat) (ca : Nat → ClassId) (kz : Nat → Nat) (hJ : pInj ad) (n : Nat) (a1 : Int32) (a2 : Int32) (σ : PS) (out : Int32 × PS) (hF : F_X12_most n a1 a2 σ = some out) : Met l yX12_most (Cond.code yX12_most cX12_most 7 (Option.some Jvm.ClassFile.FieldType.int) :: gw_tbl) { frames := 8, cells := 0, slots := 0, locals := 188 } (va_Pc [.ref (ad (249)), .int a1, .int a2] (pU D ad ca kz σ)) (pQi D ad ca out) 0 0 (pAD ad) := by
  refine q_entry (own := "AskedCampModel") hJ (by decide) rfl (Nat.le_of_ble_eq_true rfl) (fun p e s m below meth c C hr hlk => ?_)
  refine q_lv [(0, .ref (ad (249))), (1, .int a1), (2, .int a2)] rfl ?_
  rw [F_X12_most] at hF
  refine q_aload_n C 0 dX12_most_0 rfl rfl ?_
  obtain ⟨q1, h2, hF⟩ := bnd hF
  try dsimp only at hF
  refine q_callVi C [] (c_X12_isCamp l D ad ca kz C.2.2.2.2.2.2.1 _ _ _ h2) tw_1403 gm_X12_isCamp pi_249.1 (pe_11 pi_249.2) rfl ⟨rfl, rfl⟩ ⟨Nat.le_of_ble_eq_true rfl, Nat.le_of_ble_eq_true rfl⟩ rfl (Nat.le_of_ble_eq_true rfl) dX12_most_1 q00 ?_
  refine q_if_eq (tgt := 29) C dX12_most_4 (by decide) (fun c3 => ?_) (fun c3 => ?_)
  · replace hF := ift c3 hF
    refine q_iconst (v := -1) C dX12_most_29 (by decide) ?_
    exact q_iret C hr hlk dX12_most_30 hF
  · replace hF := ife c3 hF
    refine q_iload_n C 1 dX12_most_7 rfl rfl ?_
    refine q_i2l C dX12_most_8 ?_
    refine q_lconst (v := 1) C dX12_most_9 (by decide) ?_
    refine q_ldc2 C dX12_most_10 tw_1513 ?_
    obtain ⟨q4, h5, hF⟩ := bnd hF
    try dsimp only at hF
    refine q_callSi C [.long a1.toInt64, .long ((1 : Int64)), .long ((100 : Int64))] (c_X12_in l D ad ca kz C.2.2.2.2.2.2.1 _ _ _ _ _ _ h5) tw_1255 gm_X12_in ⟨rfl, rfl⟩ ⟨Nat.le_of_ble_eq_true rfl, Nat.le_of_ble_eq_true rfl⟩ rfl (Nat.le_of_ble_eq_true rfl) dX12_most_13 q00 ?_
    refine q_if_eq (tgt := 29) C dX12_most_16 (by decide) (fun c6 => ?_) (fun c6 => ?_)
    · replace hF := ift c6 hF
      refine q_iconst (v := -1) C dX12_most_29 (by decide) ?_
      exact q_iret C hr hlk dX12_most_30 hF
    · replace hF := ife c6 hF
      refine q_iload_n C 2 dX12_most_19 rfl rfl ?_
      refine q_i2l C dX12_most_20 ?_
      refine q_lconst (v := 0) C dX12_most_21 (by decide) ?_
      refine q_lconst (v := 1) C dX12_most_22 (by decide) ?_
      obtain ⟨q7, h8, hF⟩ := bnd hF
      try dsimp only at hF
      refine q_callSi C [.long a2.toInt64, .long ((0 : Int64)), .long ((1 : Int64))] (c_X12_in l D ad ca kz C.2.2.2.2.2.2.1 _ _ _ _ _ _ h8) tw_1255 gm_X12_in ⟨rfl, rfl⟩ ⟨Nat.le_of_ble_eq_true rfl, Nat.le_of_ble_eq_true rfl⟩ rfl (Nat.le_of_ble_eq_true rfl) dX12_most_23 q00 ?_
      refine q_if_ne (tgt := 31) C dX12_most_26 (by decide) (fun c9 => ?_) (fun c9 => ?_)
      · replace hF := ife c9 hF
        refine q_bipush (v := -2) C dX12_most_31 (by decide) ?_
        refine q_istore_n C [(3, .int (-2)), (0, .ref (ad (249))), (1, .int a1), (2, .int a2)] dX12_most_33 rfl (by decide) rfl ?_
        refine q_iconst (v := -1) C dX12_most_34 (by decide) ?_
        refine q_istore C [(4, .int (-1)), (3, .int (-2)), (0, .ref (ad (249))), (1, .int a1), (2, .int a2)] dX12_most_35 (by decide) rfl ?_
        refine q_aload_n C 2 dX12_most_37 rfl rfl ?_
        obtain ⟨q10, h11, hF⟩ := bnd hF
        try dsimp only at hF
        refine q_callVv C [] (c_X12_keeps l D ad ca kz C.2.2.2.2.2.2.1 _ _ _ h11) tw_1514 gm_X12_keeps pi_249.1 (pe_11 pi_249.2) rfl ⟨rfl, rfl⟩ ⟨Nat.le_of_ble_eq_true rfl, Nat.le_of_ble_eq_true rfl⟩ rfl (Nat.le_of_ble_eq_true rfl) dX12_most_38 q00 ?_
        refine q_aload_n C 2 dX12_most_41 rfl rfl ?_
        refine q_iload_n C 3 dX12_most_42 rfl rfl ?_
        obtain ⟨q12, h13, hF⟩ := bnd hF
        try dsimp only at hF
        refine q_callVv C [.int a1] (c_X12_passesAll l D ad ca kz C.2.2.2.2.2.2.1 _ _ _ _ h13) tw_1518 gm_X12_passesAll pi_249.1 (pe_11 pi_249.2) rfl ⟨rfl, rfl⟩ ⟨Nat.le_of_ble_eq_true rfl, Nat.le_of_ble_eq_true rfl⟩ rfl (Nat.le_of_ble_eq_true rfl) dX12_most_43 q00 ?_
        refine q_iconst (v := 0) C dX12_most_46 (by decide) ?_
        refine q_istore C [(5, .int 0), (4, .int (-1)), (3, .int (-2)), (0, .ref (ad (249))), (1, .int a1), (2, .int a2)] dX12_most_47 (by decide) rfl ?_
        obtain ⟨o19, h20, hF⟩ := bnd hF
        try dsimp only at hF
        refine q_sub [3, 5, 2, 1, 0] rfl ?_
        refine l_X12_most_49 C ⟨Nat.le_of_ble_eq_true rfl, Nat.le_of_ble_eq_true rfl⟩ o19 ?_ n _ _ _ _ _ h20
        refine q_aload_n C 0 dX12_most_109 rfl rfl ?_
        obtain ⟨q21, h22, hF⟩ := bnd hF
        try dsimp only at hF
        refine q_callVv C [] (c_X12_laysBack l D ad ca kz C.2.2.2.2.2.2.1 _ _ _ h22) tw_1526 gm_X12_laysBack pi_249.1 (pe_11 pi_249.2) rfl ⟨rfl, rfl⟩ ⟨Nat.le_of_ble_eq_true rfl, Nat.le_of_ble_eq_true rfl⟩ rfl (Nat.le_of_ble_eq_true rfl) dX12_most_110 q00 ?_
        refine q_iload_n C 1 dX12_most_113 rfl rfl ?_
        refine q_if_ne (tgt := 121) C dX12_most_114 (by decide) (fun c23 => ?_) (fun c23 => ?_)
        · replace hF := ife c23 hF
          refine q_iload C 3 dX12_most_121 rfl ?_
          refine q_if_ge (tgt := 130) C dX12_most_123 (by decide) (fun c24 => ?_) (fun c24 => ?_)
          · replace hF := ift c24 hF
            refine q_iload C 3 dX12_most_130 rfl ?_
            exact q_iret C hr hlk dX12_most_132 hF
          · replace hF := ife c24 hF
            refine q_iconst (v := 0) C dX12_most_126 (by decide) ?_
            refine q_goto (tgt := 132) C dX12_most_127 (by decide) ?_
            exact q_iret C hr hlk dX12_most_132 hF
        · replace hF := ift c23 hF
          refine q_iload_n C 2 dX12_most_117 rfl rfl ?_
          refine q_goto (tgt := 132) C dX12_most_118 (by decide) ?_
          exact q_iret C hr hlk dX12_most_132 hF
      · replace hF := ift c9 hF
        refine q_iconst (v := -1) C dX12_most_29 (by decide) ?_
        exact q_iret C hr hlk dX12_most_30 hF
-- X12_newIn
def L_X12_newIn_7 (n : Nat) : Nat → Int32 → Int32 → Int32 → Int32 → PS → Option (Int32 × Int32 × Int32 × PS)
  | 0, _, _, _, _, _ => none
  | k + 1, x1, x2, x3, x4, σ => (if (σ.1 259 2) ≤ x4 then some (x1, x2, x3, σ) else (F_X12_askedOf n x4 σ).bind (fun q2 => (if q2.1 = 0 then L_X12_newIn_7 n k x1 (x2 ||| ((1 : Int32) <<< (x4 &&& 31))) x3 (x4 + 1) q2.2 else L_X12_newIn_7 n k x1 (x2 ||| (0 : Int32)) x3 (x4 + 1) q2.2)))
def L_X12_newIn_52 (n : Nat) : Nat → Int32 → Int32 → Int32 → PS → Option (Int32 × PS)
  | 0, _, _, _, _ => none
  | k + 1, x2, x3, x4, σ => (if (σ.1 259 2) ≤ x4 then some (x3, σ) else (F_X12_isOf n x2 x4 σ).bind (fun q10 => (if q10.1 = 0 then L_X12_newIn_52 n k x2 (x3 + (0 : Int32)) (x4 + 1) q10.2 else (F_X12_askedOf n x4 q10.2).bind (fun q13 => (if q13.1 ≤ 0 then L_X12_newIn_52 n k x2 (x3 + (0 : Int32)) (x4 + 1) q13.2 else L_X12_newIn_52 n k x2 (x3 + (1 : Int32)) (x4 + 1) q13.2)))))
def F_X12_newIn (n : Nat) (a1 : Int32) (σ : PS) : Option (Int32 × PS) := (L_X12_newIn_7 n n a1 (0 : Int32) (0 : Int32) (0 : Int32) σ).bind (fun o5 => (F_X12_passesAll n o5.1 o5.2.2.2).bind (fun q7 => (L_X12_newIn_52 n n o5.2.1 o5.2.2.1 (0 : Int32) q7).bind (fun o16 => (F_X12_laysBack n o16.2).bind (fun q18 => some (o16.1, q18)))))
theorem gm_X12_newIn : gM "AskedCampModel" yX12_newIn (Cond.code yX12_newIn cX12_newIn 5 (Option.some Jvm.ClassFile.FieldType.int)) 1 := ⟨by decide +kernel, tw_1578, tw_p91, tw_12, tw_1579⟩
set_option maxHeartbeats 4000000 in
set_option maxRecDepth 100000 in
theorem l_X12_newIn_7 {p : Program} {l : Launch} {e : Env} {R : Room} {s : State} {m : MethodId} {args : Array Value} {below : List Frame} {meth : Method} {c : Code} {D : va_G} {ad : Nat → Nat} {ca : Nat → ClassId} {kz : Nat → Nat} {Q : State → Prop} (C : pC p s m args c cX12_newIn "AskedCampModel" 5 D ad ca kz) (hR : 8 ≤ R.frames ∧ 188 ≤ R.locals) {n : Nat} (o : Int32 × Int32 × Int32 × PS) (hx0 : PW p l e R s m args below meth c 5 D ad ca 0 0 Q (o.2.2.2) 44 [(0, .ref (ad (249))), (1, .int o.1), (2, .int o.2.1), (3, .int o.2.2.1)] []) : ∀ (k : Nat) (x1 : Int32) (x2 : Int32) (x3 : Int32) (x4 : Int32) (σ : PS), L_X12_newIn_7 n k x1 x2 x3 x4 σ = some o → PW p l e R s m args below meth c 5 D ad ca 0 0 Q σ 7 [(0, .ref (ad (249))), (1, .int x1), (2, .int x2), (3, .int x3), (4, .int x4)] [] := by
  intro k
  induction k with
  | zero => intro x1 x2 x3 x4 σ hF; exact nomatch (show (none : Option (Int32 × Int32 × Int32 × PS)) = some o from hF)
  | succ k ih =>
    intro x1 x2 x3 x4 σ hF
    rw [L_X12_newIn_7] at hF
    refine q_iload C 4 dX12_newIn_7 rfl ?_
    refine q_aload_n C 0 dX12_newIn_9 rfl rfl ?_
    refine qg_11_20 C pi_249 tw_1073 dX12_newIn_10 ?_
    refine q_iconst (v := 2) C dX12_newIn_13 (by decide) ?_
    refine q_ialdk (jn := 2) C pa_259 (vp_of (by decide)) rfl dX12_newIn_14 ?_
    refine q_icmp_ge (tgt := 44) C dX12_newIn_15 (by decide) (fun c1 => ?_) (fun c1 => ?_)
    · replace hF := ift c1 hF
      cases hF
      refine q_sub [0, 1, 2, 3] rfl ?_
      exact hx0
    · replace hF := ife c1 hF
      refine q_iload_n C 2 dX12_newIn_18 rfl rfl ?_
      refine q_aload_n C 0 dX12_newIn_19 rfl rfl ?_
      refine q_iload C 4 dX12_newIn_20 rfl ?_
      obtain ⟨q2, h3, hF⟩ := bnd hF
      try dsimp only at hF
      refine q_callVi C [.int x4] (c_X12_askedOf l D ad ca kz C.2.2.2.2.2.2.1 _ _ _ _ h3) tw_1435 gm_X12_askedOf pi_249.1 (pe_11 pi_249.2) rfl ⟨rfl, rfl⟩ ⟨Nat.le_trans (Nat.le_of_ble_eq_true rfl) hR.1, Nat.le_trans (Nat.le_of_ble_eq_true rfl) hR.2⟩ rfl (Nat.le_of_ble_eq_true rfl) dX12_newIn_22 q00 ?_
      refine q_if_ne (tgt := 35) C dX12_newIn_25 (by decide) (fun c4 => ?_) (fun c4 => ?_)
      · replace hF := ife c4 hF
        refine q_iconst (v := 0) C dX12_newIn_35 (by decide) ?_
        refine q_ior C dX12_newIn_36 ?_
        refine q_istore_n C [(2, .int (x2 ||| (0 : Int32))), (0, .ref (ad (249))), (1, .int x1), (3, .int x3), (4, .int x4)] dX12_newIn_37 rfl (by decide) rfl ?_
        refine q_iinc C 4 [(4, .int (x4 + 1)), (2, .int (x2 ||| (0 : Int32))), (0, .ref (ad (249))), (1, .int x1), (3, .int x3)] dX12_newIn_38 rfl rfl (by decide) rfl ?_
        refine q_goto (tgt := 7) C dX12_newIn_41 (by decide) ?_
        refine q_sub [2, 3, 1, 4, 0] rfl ?_
        exact ih _ _ _ _ _ hF
      · replace hF := ift c4 hF
        refine q_iconst (v := 1) C dX12_newIn_28 (by decide) ?_
        refine q_iload C 4 dX12_newIn_29 rfl ?_
        refine q_ishl C dX12_newIn_31 ?_
        refine q_goto (tgt := 36) C dX12_newIn_32 (by decide) ?_
        refine q_ior C dX12_newIn_36 ?_
        refine q_istore_n C [(2, .int (x2 ||| ((1 : Int32) <<< (x4 &&& 31)))), (0, .ref (ad (249))), (1, .int x1), (3, .int x3), (4, .int x4)] dX12_newIn_37 rfl (by decide) rfl ?_
        refine q_iinc C 4 [(4, .int (x4 + 1)), (2, .int (x2 ||| ((1 : Int32) <<< (x4 &&& 31)))), (0, .ref (ad (249))), (1, .int x1), (3, .int x3)] dX12_newIn_38 rfl rfl (by decide) rfl ?_
        refine q_goto (tgt := 7) C dX12_newIn_41 (by decide) ?_
        refine q_sub [2, 3, 1, 4, 0] rfl ?_
        exact ih _ _ _ _ _ hF
set_option maxHeartbeats 4000000 in
set_option maxRecDepth 100000 in
theorem l_X12_newIn_52 {p : Program} {l : Launch} {e : Env} {R : Room} {s : State} {m : MethodId} {args : Array Value} {below : List Frame} {meth : Method} {c : Code} {D : va_G} {ad : Nat → Nat} {ca : Nat → ClassId} {kz : Nat → Nat} {Q : State → Prop} (C : pC p s m args c cX12_newIn "AskedCampModel" 5 D ad ca kz) (hR : 8 ≤ R.frames ∧ 188 ≤ R.locals) {n : Nat} (o : Int32 × PS) (hx0 : PW p l e R s m args below meth c 5 D ad ca 0 0 Q (o.2) 95 [(0, .ref (ad (249))), (3, .int o.1)] []) : ∀ (k : Nat) (x2 : Int32) (x3 : Int32) (x4 : Int32) (σ : PS), L_X12_newIn_52 n k x2 x3 x4 σ = some o → PW p l e R s m args below meth c 5 D ad ca 0 0 Q σ 52 [(0, .ref (ad (249))), (2, .int x2), (3, .int x3), (4, .int x4)] [] := by
  intro k
  induction k with
  | zero => intro x2 x3 x4 σ hF; exact nomatch (show (none : Option (Int32 × PS)) = some o from hF)
  | succ k ih =>
    intro x2 x3 x4 σ hF
    rw [L_X12_newIn_52] at hF
    refine q_iload C 3 dX12_newIn_52 rfl ?_
    refine q_aload_n C 0 dX12_newIn_54 rfl rfl ?_
    refine qg_11_20 C pi_249 tw_1073 dX12_newIn_55 ?_
    refine q_iconst (v := 2) C dX12_newIn_58 (by decide) ?_
    refine q_ialdk (jn := 2) C pa_259 (vp_of (by decide)) rfl dX12_newIn_59 ?_
    refine q_icmp_ge (tgt := 95) C dX12_newIn_60 (by decide) (fun c9 => ?_) (fun c9 => ?_)
    · replace hF := ift c9 hF
      cases hF
      refine q_sub [0, 2] rfl ?_
      exact hx0
    · replace hF := ife c9 hF
      refine q_iload_n C 2 dX12_newIn_63 rfl rfl ?_
      refine q_iload_n C 1 dX12_newIn_64 rfl rfl ?_
      refine q_iload C 3 dX12_newIn_65 rfl ?_
      obtain ⟨q10, h11, hF⟩ := bnd hF
      try dsimp only at hF
      refine q_callSi C [.int x2, .int x4] (c_X12_isOf l D ad ca kz C.2.2.2.2.2.2.1 _ _ _ _ _ h11) tw_1477 gm_X12_isOf ⟨rfl, rfl⟩ ⟨Nat.le_trans (Nat.le_of_ble_eq_true rfl) hR.1, Nat.le_trans (Nat.le_of_ble_eq_true rfl) hR.2⟩ rfl (Nat.le_of_ble_eq_true rfl) dX12_newIn_67 q00 ?_
      refine q_if_eq (tgt := 86) C dX12_newIn_70 (by decide) (fun c12 => ?_) (fun c12 => ?_)
      · replace hF := ift c12 hF
        refine q_iconst (v := 0) C dX12_newIn_86 (by decide) ?_
        refine q_iadd C dX12_newIn_87 ?_
        refine q_istore_n C [(3, .int (x3 + (0 : Int32))), (0, .ref (ad (249))), (2, .int x2), (4, .int x4)] dX12_newIn_88 rfl (by decide) rfl ?_
        refine q_iinc C 3 [(4, .int (x4 + 1)), (3, .int (x3 + (0 : Int32))), (0, .ref (ad (249))), (2, .int x2)] dX12_newIn_89 rfl rfl (by decide) rfl ?_
        refine q_goto (tgt := 52) C dX12_newIn_92 (by decide) ?_
        refine q_sub [2, 3, 1, 0] rfl ?_
        exact ih _ _ _ _ hF
      · replace hF := ife c12 hF
        refine q_aload_n C 0 dX12_newIn_73 rfl rfl ?_
        refine q_iload C 3 dX12_newIn_74 rfl ?_
        obtain ⟨q13, h14, hF⟩ := bnd hF
        try dsimp only at hF
        refine q_callVi C [.int x4] (c_X12_askedOf l D ad ca kz C.2.2.2.2.2.2.1 _ _ _ _ h14) tw_1435 gm_X12_askedOf pi_249.1 (pe_11 pi_249.2) rfl ⟨rfl, rfl⟩ ⟨Nat.le_trans (Nat.le_of_ble_eq_true rfl) hR.1, Nat.le_trans (Nat.le_of_ble_eq_true rfl) hR.2⟩ rfl (Nat.le_of_ble_eq_true rfl) dX12_newIn_76 q00 ?_
        refine q_if_le (tgt := 86) C dX12_newIn_79 (by decide) (fun c15 => ?_) (fun c15 => ?_)
        · replace hF := ift c15 hF
          refine q_iconst (v := 0) C dX12_newIn_86 (by decide) ?_
          refine q_iadd C dX12_newIn_87 ?_
          refine q_istore_n C [(3, .int (x3 + (0 : Int32))), (0, .ref (ad (249))), (2, .int x2), (4, .int x4)] dX12_newIn_88 rfl (by decide) rfl ?_
          refine q_iinc C 3 [(4, .int (x4 + 1)), (3, .int (x3 + (0 : Int32))), (0, .ref (ad (249))), (2, .int x2)] dX12_newIn_89 rfl rfl (by decide) rfl ?_
          refine q_goto (tgt := 52) C dX12_newIn_92 (by decide) ?_
          refine q_sub [2, 3, 1, 0] rfl ?_
          exact ih _ _ _ _ hF
        · replace hF := ife c15 hF
          refine q_iconst (v := 1) C dX12_newIn_82 (by decide) ?_
          refine q_goto (tgt := 87) C dX12_newIn_83 (by decide) ?_
          refine q_iadd C dX12_newIn_87 ?_
          refine q_istore_n C [(3, .int (x3 + (1 : Int32))), (0, .ref (ad (249))), (2, .int x2), (4, .int x4)] dX12_newIn_88 rfl (by decide) rfl ?_
          refine q_iinc C 3 [(4, .int (x4 + 1)), (3, .int (x3 + (1 : Int32))), (0, .ref (ad (249))), (2, .int x2)] dX12_newIn_89 rfl rfl (by decide) rfl ?_
          refine q_goto (tgt := 52) C dX12_newIn_92 (by decide) ?_
          refine q_sub [2, 3, 1, 0] rfl ?_
          exact ih _ _ _ _ hF
set_option maxHeartbeats 4000000 in
set_option maxRecDepth 100000 in
theorem c_X12_newIn (l : Launch) (D : va_G) (ad : Nat → Nat) (ca : Nat → ClassId) (kz : Nat → Nat) (hJ : pInj ad) (n : Nat) (a1 : Int32) (σ : PS) (out : Int32 × PS) (hF : F_X12_newIn n a1 σ = some out) : Met l yX12_newIn (Cond.code yX12_newIn cX12_newIn 5 (Option.some Jvm.ClassFile.FieldType.int) :: gw_tbl) { frames := 8, cells := 0, slots := 0, locals := 188 } (va_Pc [.ref (ad (249)), .int a1] (pU D ad ca kz σ)) (pQi D ad ca out) 0 0 (pAD ad) := by
  refine q_entry (own := "AskedCampModel") hJ (by decide) rfl (Nat.le_of_ble_eq_true rfl) (fun p e s m below meth c C hr hlk => ?_)
  refine q_lv [(0, .ref (ad (249))), (1, .int a1)] rfl ?_
  rw [F_X12_newIn] at hF
  refine q_iconst (v := 0) C dX12_newIn_0 (by decide) ?_
  refine q_istore_n C [(2, .int 0), (0, .ref (ad (249))), (1, .int a1)] dX12_newIn_1 rfl (by decide) rfl ?_
  refine q_iconst (v := 0) C dX12_newIn_2 (by decide) ?_
  refine q_istore_n C [(3, .int 0), (2, .int 0), (0, .ref (ad (249))), (1, .int a1)] dX12_newIn_3 rfl (by decide) rfl ?_
  refine q_iconst (v := 0) C dX12_newIn_4 (by decide) ?_
  refine q_istore C [(4, .int 0), (3, .int 0), (2, .int 0), (0, .ref (ad (249))), (1, .int a1)] dX12_newIn_5 (by decide) rfl ?_
  obtain ⟨o5, h6, hF⟩ := bnd hF
  try dsimp only at hF
  refine q_sub [3, 4, 2, 1, 0] rfl ?_
  refine l_X12_newIn_7 C ⟨Nat.le_of_ble_eq_true rfl, Nat.le_of_ble_eq_true rfl⟩ o5 ?_ n _ _ _ _ _ h6
  refine q_aload_n C 0 dX12_newIn_44 rfl rfl ?_
  refine q_iload_n C 1 dX12_newIn_45 rfl rfl ?_
  obtain ⟨q7, h8, hF⟩ := bnd hF
  try dsimp only at hF
  refine q_callVv C [.int o5.1] (c_X12_passesAll l D ad ca kz C.2.2.2.2.2.2.1 _ _ _ _ h8) tw_1518 gm_X12_passesAll pi_249.1 (pe_11 pi_249.2) rfl ⟨rfl, rfl⟩ ⟨Nat.le_of_ble_eq_true rfl, Nat.le_of_ble_eq_true rfl⟩ rfl (Nat.le_of_ble_eq_true rfl) dX12_newIn_46 q00 ?_
  refine q_iconst (v := 0) C dX12_newIn_49 (by decide) ?_
  refine q_istore C [(4, .int 0), (0, .ref (ad (249))), (1, .int o5.1), (2, .int o5.2.1), (3, .int o5.2.2.1)] dX12_newIn_50 (by decide) rfl ?_
  obtain ⟨o16, h17, hF⟩ := bnd hF
  try dsimp only at hF
  refine q_sub [1, 3, 4, 0] rfl ?_
  refine l_X12_newIn_52 C ⟨Nat.le_of_ble_eq_true rfl, Nat.le_of_ble_eq_true rfl⟩ o16 ?_ n _ _ _ _ h17
  refine q_aload_n C 0 dX12_newIn_95 rfl rfl ?_
  obtain ⟨q18, h19, hF⟩ := bnd hF
  try dsimp only at hF
  refine q_callVv C [] (c_X12_laysBack l D ad ca kz C.2.2.2.2.2.2.1 _ _ _ h19) tw_1526 gm_X12_laysBack pi_249.1 (pe_11 pi_249.2) rfl ⟨rfl, rfl⟩ ⟨Nat.le_of_ble_eq_true rfl, Nat.le_of_ble_eq_true rfl⟩ rfl (Nat.le_of_ble_eq_true rfl) dX12_newIn_96 q00 ?_
  refine q_iload_n C 1 dX12_newIn_99 rfl rfl ?_
  exact q_iret C hr hlk dX12_newIn_100 hF
-- X12_note
def F_X12_note (n : Nat) (a1 : Int32) (a2 : Int32) (σ : PS) : Option (Int32 × PS) := (if a1 = (-1 : Int32) then some ((0 : Int32), psI σ 259 178 (0 : Int32)) else (F_X12_in n a1.toInt64 (0 : Int64) (60 : Int64) σ).bind (fun q2 => (if q2.1 = 0 then some ((-2 : Int32), q2.2) else (F_X12_isCell n a2 q2.2).bind (fun q5 => (if q5.1 = 0 then some ((-2 : Int32), q5.2) else (if (q5.2.1 259 178) = (10 : Int32) then some ((-2 : Int32), q5.2) else (if 0 ≤ ((158 : Int32) + ((2 : Int32) * (q5.2.1 259 178))) ∧ ((158 : Int32) + ((2 : Int32) * (q5.2.1 259 178))).toNatClampNeg < 179 then (if 0 ≤ (((158 : Int32) + ((2 : Int32) * (q5.2.1 259 178))) + (1 : Int32)) ∧ (((158 : Int32) + ((2 : Int32) * (q5.2.1 259 178))) + (1 : Int32)).toNatClampNeg < 179 then some (((psI (psI (psI q5.2 259 (((158 : Int32) + ((2 : Int32) * (q5.2.1 259 178))).toNatClampNeg) a1) 259 ((((158 : Int32) + ((2 : Int32) * (q5.2.1 259 178))) + (1 : Int32)).toNatClampNeg) a2) 259 178 (((psI (psI q5.2 259 (((158 : Int32) + ((2 : Int32) * (q5.2.1 259 178))).toNatClampNeg) a1) 259 ((((158 : Int32) + ((2 : Int32) * (q5.2.1 259 178))) + (1 : Int32)).toNatClampNeg) a2).1 259 178) + (1 : Int32))).1 259 178), psI (psI (psI q5.2 259 (((158 : Int32) + ((2 : Int32) * (q5.2.1 259 178))).toNatClampNeg) a1) 259 ((((158 : Int32) + ((2 : Int32) * (q5.2.1 259 178))) + (1 : Int32)).toNatClampNeg) a2) 259 178 (((psI (psI q5.2 259 (((158 : Int32) + ((2 : Int32) * (q5.2.1 259 178))).toNatClampNeg) a1) 259 ((((158 : Int32) + ((2 : Int32) * (q5.2.1 259 178))) + (1 : Int32)).toNatClampNeg) a2).1 259 178) + (1 : Int32))) else none) else none)))))))
theorem gm_X12_note : gM "AskedCampModel" yX12_note (Cond.code yX12_note cX12_note 4 (Option.some Jvm.ClassFile.FieldType.int)) 2 := ⟨by decide +kernel, tw_1619, tw_1620, tw_12, tw_1621⟩
set_option maxHeartbeats 4000000 in
set_option maxRecDepth 100000 in
theorem c_X12_note (l : Launch) (D : va_G) (ad : Nat → Nat) (ca : Nat → ClassId) (kz : Nat → Nat) (hJ : pInj ad) (n : Nat) (a1 : Int32) (a2 : Int32) (σ : PS) (out : Int32 × PS) (hF : F_X12_note n a1 a2 σ = some out) : Met l yX12_note (Cond.code yX12_note cX12_note 4 (Option.some Jvm.ClassFile.FieldType.int) :: gw_tbl) { frames := 2, cells := 0, slots := 0, locals := 41 } (va_Pc [.ref (ad (249)), .int a1, .int a2] (pU D ad ca kz σ)) (pQi D ad ca out) 0 0 (pAD ad) := by
  refine q_entry (own := "AskedCampModel") hJ (by decide) rfl (Nat.le_of_ble_eq_true rfl) (fun p e s m below meth c C hr hlk => ?_)
  refine q_lv [(0, .ref (ad (249))), (1, .int a1), (2, .int a2)] rfl ?_
  rw [F_X12_note] at hF
  refine q_iload_n C 1 dX12_note_0 rfl rfl ?_
  refine q_iconst (v := -1) C dX12_note_1 (by decide) ?_
  refine q_icmp_ne (tgt := 16) C dX12_note_2 (by decide) (fun c1 => ?_) (fun c1 => ?_)
  · replace hF := ife c1 hF
    refine q_iload_n C 1 dX12_note_16 rfl rfl ?_
    refine q_i2l C dX12_note_17 ?_
    refine q_lconst (v := 0) C dX12_note_18 (by decide) ?_
    refine q_ldc2 C dX12_note_19 tw_1622 ?_
    obtain ⟨q2, h3, hF⟩ := bnd hF
    try dsimp only at hF
    refine q_callSi C [.long a1.toInt64, .long ((0 : Int64)), .long ((60 : Int64))] (c_X12_in l D ad ca kz C.2.2.2.2.2.2.1 _ _ _ _ _ _ h3) tw_1255 gm_X12_in ⟨rfl, rfl⟩ ⟨Nat.le_of_ble_eq_true rfl, Nat.le_of_ble_eq_true rfl⟩ rfl (Nat.le_of_ble_eq_true rfl) dX12_note_22 q00 ?_
    refine q_if_eq (tgt := 49) C dX12_note_25 (by decide) (fun c4 => ?_) (fun c4 => ?_)
    · replace hF := ift c4 hF
      refine q_bipush (v := -2) C dX12_note_49 (by decide) ?_
      exact q_iret C hr hlk dX12_note_51 hF
    · replace hF := ife c4 hF
      refine q_aload_n C 0 dX12_note_28 rfl rfl ?_
      refine q_iload_n C 2 dX12_note_29 rfl rfl ?_
      obtain ⟨q5, h6, hF⟩ := bnd hF
      try dsimp only at hF
      refine q_callVi C [.int a2] (c_X12_isCell l D ad ca kz C.2.2.2.2.2.2.1 _ _ _ _ h6) tw_1378 gm_X12_isCell pi_249.1 (pe_11 pi_249.2) rfl ⟨rfl, rfl⟩ ⟨Nat.le_of_ble_eq_true rfl, Nat.le_of_ble_eq_true rfl⟩ rfl (Nat.le_of_ble_eq_true rfl) dX12_note_30 q00 ?_
      refine q_if_eq (tgt := 49) C dX12_note_33 (by decide) (fun c7 => ?_) (fun c7 => ?_)
      · replace hF := ift c7 hF
        refine q_bipush (v := -2) C dX12_note_49 (by decide) ?_
        exact q_iret C hr hlk dX12_note_51 hF
      · replace hF := ife c7 hF
        refine q_aload_n C 0 dX12_note_36 rfl rfl ?_
        refine qg_11_20 C pi_249 tw_1073 dX12_note_37 ?_
        refine q_sipush (v := 178) C dX12_note_40 (by decide) ?_
        refine q_ialdk (jn := 178) C pa_259 (vp_of (by decide)) rfl dX12_note_43 ?_
        refine q_bipush (v := 10) C dX12_note_44 (by decide) ?_
        refine q_icmp_ne (tgt := 52) C dX12_note_46 (by decide) (fun c8 => ?_) (fun c8 => ?_)
        · replace hF := ife c8 hF
          refine q_sipush (v := 158) C dX12_note_52 (by decide) ?_
          refine q_iconst (v := 2) C dX12_note_55 (by decide) ?_
          refine q_aload_n C 0 dX12_note_56 rfl rfl ?_
          refine qg_11_20 C pi_249 tw_1073 dX12_note_57 ?_
          refine q_sipush (v := 178) C dX12_note_60 (by decide) ?_
          refine q_ialdk (jn := 178) C pa_259 (vp_of (by decide)) rfl dX12_note_63 ?_
          refine q_imul C dX12_note_64 ?_
          refine q_iadd C dX12_note_65 ?_
          refine q_istore_n C [(3, .int ((158 : Int32) + ((2 : Int32) * (q5.2.1 259 178)))), (0, .ref (ad (249))), (1, .int a1), (2, .int a2)] dX12_note_66 rfl (by decide) rfl ?_
          refine q_aload_n C 1 dX12_note_67 rfl rfl ?_
          refine qg_11_20 C pi_249 tw_1073 dX12_note_68 ?_
          refine q_iload_n C 0 dX12_note_71 rfl rfl ?_
          refine q_iload_n C 2 dX12_note_72 rfl rfl ?_
          obtain ⟨g9, hF⟩ := grd hF
          refine q_iast C pa_259 (vp_of g9) dX12_note_73 ?_
          refine q_aload_n C 1 dX12_note_74 rfl rfl ?_
          refine qg_11_20 C pi_249 tw_1073 dX12_note_75 ?_
          refine q_iload_n C 0 dX12_note_78 rfl rfl ?_
          refine q_iconst (v := 1) C dX12_note_79 (by decide) ?_
          refine q_iadd C dX12_note_80 ?_
          refine q_iload_n C 3 dX12_note_81 rfl rfl ?_
          obtain ⟨g10, hF⟩ := grd hF
          refine q_iast C pa_259 (vp_of g10) dX12_note_82 ?_
          refine q_aload_n C 1 dX12_note_83 rfl rfl ?_
          refine qg_11_20 C pi_249 tw_1073 dX12_note_84 ?_
          refine q_sipush (v := 178) C dX12_note_87 (by decide) ?_
          refine q_dup2 C dX12_note_90 rfl rfl ?_
          refine q_ialdk (jn := 178) C pa_259 (vp_of (by decide)) rfl dX12_note_91 ?_
          refine q_iconst (v := 1) C dX12_note_92 (by decide) ?_
          refine q_iadd C dX12_note_93 ?_
          refine q_iastk (jn := 178) C pa_259 (vp_of (by decide)) rfl dX12_note_94 ?_
          refine q_aload_n C 1 dX12_note_95 rfl rfl ?_
          refine qg_11_20 C pi_249 tw_1073 dX12_note_96 ?_
          refine q_sipush (v := 178) C dX12_note_99 (by decide) ?_
          refine q_ialdk (jn := 178) C pa_259 (vp_of (by decide)) rfl dX12_note_102 ?_
          exact q_iret C hr hlk dX12_note_103 hF
        · replace hF := ift c8 hF
          refine q_bipush (v := -2) C dX12_note_49 (by decide) ?_
          exact q_iret C hr hlk dX12_note_51 hF
  · replace hF := ift c1 hF
    refine q_aload_n C 0 dX12_note_5 rfl rfl ?_
    refine qg_11_20 C pi_249 tw_1073 dX12_note_6 ?_
    refine q_sipush (v := 178) C dX12_note_9 (by decide) ?_
    refine q_iconst (v := 0) C dX12_note_12 (by decide) ?_
    refine q_iastk (jn := 178) C pa_259 (vp_of (by decide)) rfl dX12_note_13 ?_
    refine q_iconst (v := 0) C dX12_note_14 (by decide) ?_
    exact q_iret C hr hlk dX12_note_15 hF
-- X12_pence
def L_X12_pence_51 (n : Nat) : Nat → Int32 → Int32 → Int32 → Int32 → Int32 → Int32 → Int32 → PS → Option (Int32 × Int32 × Int32 × Int32 × PS)
  | 0, _, _, _, _, _, _, _, _ => none
  | k + 1, x1, x2, x3, x4, x5, x6, x7, σ => (if (σ.1 259 2) ≤ x7 then some (x3, x4, x5, x6, σ) else (F_X12_askedOf n x7 σ).bind (fun q13 => (if x3 = 0 then none else (if (x4 - x4 / x3 * x3) < ((x1 * q13.1) - (x1 * q13.1) / x3 * x3) then L_X12_pence_51 n k x1 x2 x3 x4 (x5 - ((x1 * q13.1) / x3)) (x6 + (1 : Int32)) (x7 + 1) q13.2 else (if ((x1 * q13.1) - (x1 * q13.1) / x3 * x3) = (x4 - x4 / x3 * x3) then (if x2 ≤ x7 then L_X12_pence_51 n k x1 x2 x3 x4 (x5 - ((x1 * q13.1) / x3)) (x6 + (0 : Int32)) (x7 + 1) q13.2 else L_X12_pence_51 n k x1 x2 x3 x4 (x5 - ((x1 * q13.1) / x3)) (x6 + (1 : Int32)) (x7 + 1) q13.2) else L_X12_pence_51 n k x1 x2 x3 x4 (x5 - ((x1 * q13.1) / x3)) (x6 + (0 : Int32)) (x7 + 1) q13.2)))))
def F_X12_pence (n : Nat) (a1 : Int32) (a2 : Int32) (σ : PS) : Option (Int32 × PS) := (F_X12_isTent n a2 σ).bind (fun q1 => (if q1.1 = 0 then some ((-1 : Int32), q1.2) else (F_X12_in n a1.toInt64 (0 : Int64) (9999 : Int64) q1.2).bind (fun q4 => (if q4.1 = 0 then some ((-1 : Int32), q4.2) else (F_X12_askedAll n q4.2).bind (fun q7 => (if q7.1 = 0 then some ((0 : Int32), q7.2) else (F_X12_askedOf n a2 q7.2).bind (fun q10 => (L_X12_pence_51 n n a1 a2 q7.1 (a1 * q10.1) a1 (0 : Int32) (0 : Int32) q10.2).bind (fun o19 => (if o19.1 = 0 then none else (if o19.2.2.1 ≤ o19.2.2.2.1 then some (((o19.2.1 / o19.1) + (0 : Int32)), o19.2.2.2.2) else some (((o19.2.1 / o19.1) + (1 : Int32)), o19.2.2.2.2)))))))))))
theorem gm_X12_pence : gM "AskedCampModel" yX12_pence (Cond.code yX12_pence cX12_pence 9 (Option.some Jvm.ClassFile.FieldType.int)) 2 := ⟨by decide +kernel, tw_1581, tw_1582, tw_12, tw_1583⟩
set_option maxHeartbeats 4000000 in
set_option maxRecDepth 100000 in
theorem l_X12_pence_51 {p : Program} {l : Launch} {e : Env} {R : Room} {s : State} {m : MethodId} {args : Array Value} {below : List Frame} {meth : Method} {c : Code} {D : va_G} {ad : Nat → Nat} {ca : Nat → ClassId} {kz : Nat → Nat} {Q : State → Prop} (C : pC p s m args c cX12_pence "AskedCampModel" 9 D ad ca kz) (hR : 2 ≤ R.frames ∧ 43 ≤ R.locals) {n : Nat} (o : Int32 × Int32 × Int32 × Int32 × PS) (hx0 : PW p l e R s m args below meth c 9 D ad ca 0 0 Q (o.2.2.2.2) 125 [(3, .int o.1), (4, .int o.2.1), (5, .int o.2.2.1), (6, .int o.2.2.2.1)] []) : ∀ (k : Nat) (x1 : Int32) (x2 : Int32) (x3 : Int32) (x4 : Int32) (x5 : Int32) (x6 : Int32) (x7 : Int32) (σ : PS), L_X12_pence_51 n k x1 x2 x3 x4 x5 x6 x7 σ = some o → PW p l e R s m args below meth c 9 D ad ca 0 0 Q σ 51 [(0, .ref (ad (249))), (1, .int x1), (2, .int x2), (3, .int x3), (4, .int x4), (5, .int x5), (6, .int x6), (7, .int x7)] [] := by
  intro k
  induction k with
  | zero => intro x1 x2 x3 x4 x5 x6 x7 σ hF; exact nomatch (show (none : Option (Int32 × Int32 × Int32 × Int32 × PS)) = some o from hF)
  | succ k ih =>
    intro x1 x2 x3 x4 x5 x6 x7 σ hF
    rw [L_X12_pence_51] at hF
    refine q_iload C 7 dX12_pence_51 rfl ?_
    refine q_aload_n C 0 dX12_pence_53 rfl rfl ?_
    refine qg_11_20 C pi_249 tw_1073 dX12_pence_54 ?_
    refine q_iconst (v := 2) C dX12_pence_57 (by decide) ?_
    refine q_ialdk (jn := 2) C pa_259 (vp_of (by decide)) rfl dX12_pence_58 ?_
    refine q_icmp_ge (tgt := 125) C dX12_pence_59 (by decide) (fun c12 => ?_) (fun c12 => ?_)
    · replace hF := ift c12 hF
      cases hF
      refine q_sub [3, 4, 5, 6] rfl ?_
      exact hx0
    · replace hF := ife c12 hF
      refine q_iload_n C 1 dX12_pence_62 rfl rfl ?_
      refine q_aload_n C 0 dX12_pence_63 rfl rfl ?_
      refine q_iload C 7 dX12_pence_64 rfl ?_
      obtain ⟨q13, h14, hF⟩ := bnd hF
      try dsimp only at hF
      refine q_callVi C [.int x7] (c_X12_askedOf l D ad ca kz C.2.2.2.2.2.2.1 _ _ _ _ h14) tw_1435 gm_X12_askedOf pi_249.1 (pe_11 pi_249.2) rfl ⟨rfl, rfl⟩ ⟨Nat.le_trans (Nat.le_of_ble_eq_true rfl) hR.1, Nat.le_trans (Nat.le_of_ble_eq_true rfl) hR.2⟩ rfl (Nat.le_of_ble_eq_true rfl) dX12_pence_66 q00 ?_
      refine q_imul C dX12_pence_69 ?_
      refine q_istore C [(8, .int (x1 * q13.1)), (0, .ref (ad (249))), (1, .int x1), (2, .int x2), (3, .int x3), (4, .int x4), (5, .int x5), (6, .int x6), (7, .int x7)] dX12_pence_70 (by decide) rfl ?_
      refine q_iload C 6 dX12_pence_72 rfl ?_
      refine q_iload C 0 dX12_pence_74 rfl ?_
      refine q_iload_n C 4 dX12_pence_76 rfl rfl ?_
      obtain ⟨g15, hF⟩ := grn hF
      refine q_idiv C dX12_pence_77 g15 ?_
      refine q_isub C dX12_pence_78 ?_
      refine q_istore C [(5, .int (x5 - ((x1 * q13.1) / x3))), (8, .int (x1 * q13.1)), (0, .ref (ad (249))), (1, .int x1), (2, .int x2), (3, .int x3), (4, .int x4), (6, .int x6), (7, .int x7)] dX12_pence_79 (by decide) rfl ?_
      refine q_iload C 7 dX12_pence_81 rfl ?_
      refine q_iload C 1 dX12_pence_83 rfl ?_
      refine q_iload_n C 5 dX12_pence_85 rfl rfl ?_
      refine q_irem C dX12_pence_86 g15 ?_
      refine q_iload C 6 dX12_pence_87 rfl ?_
      refine q_iload_n C 5 dX12_pence_89 rfl rfl ?_
      refine q_irem C dX12_pence_90 g15 ?_
      refine q_icmp_gt (tgt := 111) C dX12_pence_91 (by decide) (fun c16 => ?_) (fun c16 => ?_)
      · replace hF := ift c16 hF
        refine q_iconst (v := 1) C dX12_pence_111 (by decide) ?_
        refine q_goto (tgt := 116) C dX12_pence_112 (by decide) ?_
        refine q_iadd C dX12_pence_116 ?_
        refine q_istore C [(6, .int (x6 + (1 : Int32))), (5, .int (x5 - ((x1 * q13.1) / x3))), (8, .int (x1 * q13.1)), (0, .ref (ad (249))), (1, .int x1), (2, .int x2), (3, .int x3), (4, .int x4), (7, .int x7)] dX12_pence_117 (by decide) rfl ?_
        refine q_iinc C 8 [(7, .int (x7 + 1)), (6, .int (x6 + (1 : Int32))), (5, .int (x5 - ((x1 * q13.1) / x3))), (8, .int (x1 * q13.1)), (0, .ref (ad (249))), (1, .int x1), (2, .int x2), (3, .int x3), (4, .int x4)] dX12_pence_119 rfl rfl (by decide) rfl ?_
        refine q_goto (tgt := 51) C dX12_pence_122 (by decide) ?_
        refine q_sub [4, 5, 6, 7, 8, 2, 1, 0] rfl ?_
        exact ih _ _ _ _ _ _ _ _ hF
      · replace hF := ife c16 hF
        refine q_iload C 1 dX12_pence_94 rfl ?_
        refine q_iload_n C 5 dX12_pence_96 rfl rfl ?_
        refine q_irem C dX12_pence_97 g15 ?_
        refine q_iload C 6 dX12_pence_98 rfl ?_
        refine q_iload_n C 5 dX12_pence_100 rfl rfl ?_
        refine q_irem C dX12_pence_101 g15 ?_
        refine q_icmp_ne (tgt := 115) C dX12_pence_102 (by decide) (fun c17 => ?_) (fun c17 => ?_)
        · replace hF := ife c17 hF
          refine q_iconst (v := 0) C dX12_pence_115 (by decide) ?_
          refine q_iadd C dX12_pence_116 ?_
          refine q_istore C [(6, .int (x6 + (0 : Int32))), (5, .int (x5 - ((x1 * q13.1) / x3))), (8, .int (x1 * q13.1)), (0, .ref (ad (249))), (1, .int x1), (2, .int x2), (3, .int x3), (4, .int x4), (7, .int x7)] dX12_pence_117 (by decide) rfl ?_
          refine q_iinc C 8 [(7, .int (x7 + 1)), (6, .int (x6 + (0 : Int32))), (5, .int (x5 - ((x1 * q13.1) / x3))), (8, .int (x1 * q13.1)), (0, .ref (ad (249))), (1, .int x1), (2, .int x2), (3, .int x3), (4, .int x4)] dX12_pence_119 rfl rfl (by decide) rfl ?_
          refine q_goto (tgt := 51) C dX12_pence_122 (by decide) ?_
          refine q_sub [4, 5, 6, 7, 8, 2, 1, 0] rfl ?_
          exact ih _ _ _ _ _ _ _ _ hF
        · replace hF := ift c17 hF
          refine q_iload C 8 dX12_pence_105 rfl ?_
          refine q_iload_n C 4 dX12_pence_107 rfl rfl ?_
          refine q_icmp_ge (tgt := 115) C dX12_pence_108 (by decide) (fun c18 => ?_) (fun c18 => ?_)
          · replace hF := ift c18 hF
            refine q_iconst (v := 0) C dX12_pence_115 (by decide) ?_
            refine q_iadd C dX12_pence_116 ?_
            refine q_istore C [(6, .int (x6 + (0 : Int32))), (5, .int (x5 - ((x1 * q13.1) / x3))), (8, .int (x1 * q13.1)), (0, .ref (ad (249))), (1, .int x1), (2, .int x2), (3, .int x3), (4, .int x4), (7, .int x7)] dX12_pence_117 (by decide) rfl ?_
            refine q_iinc C 8 [(7, .int (x7 + 1)), (6, .int (x6 + (0 : Int32))), (5, .int (x5 - ((x1 * q13.1) / x3))), (8, .int (x1 * q13.1)), (0, .ref (ad (249))), (1, .int x1), (2, .int x2), (3, .int x3), (4, .int x4)] dX12_pence_119 rfl rfl (by decide) rfl ?_
            refine q_goto (tgt := 51) C dX12_pence_122 (by decide) ?_
            refine q_sub [4, 5, 6, 7, 8, 2, 1, 0] rfl ?_
            exact ih _ _ _ _ _ _ _ _ hF
          · replace hF := ife c18 hF
            refine q_iconst (v := 1) C dX12_pence_111 (by decide) ?_
            refine q_goto (tgt := 116) C dX12_pence_112 (by decide) ?_
            refine q_iadd C dX12_pence_116 ?_
            refine q_istore C [(6, .int (x6 + (1 : Int32))), (5, .int (x5 - ((x1 * q13.1) / x3))), (8, .int (x1 * q13.1)), (0, .ref (ad (249))), (1, .int x1), (2, .int x2), (3, .int x3), (4, .int x4), (7, .int x7)] dX12_pence_117 (by decide) rfl ?_
            refine q_iinc C 8 [(7, .int (x7 + 1)), (6, .int (x6 + (1 : Int32))), (5, .int (x5 - ((x1 * q13.1) / x3))), (8, .int (x1 * q13.1)), (0, .ref (ad (249))), (1, .int x1), (2, .int x2), (3, .int x3), (4, .int x4)] dX12_pence_119 rfl rfl (by decide) rfl ?_
            refine q_goto (tgt := 51) C dX12_pence_122 (by decide) ?_
            refine q_sub [4, 5, 6, 7, 8, 2, 1, 0] rfl ?_
            exact ih _ _ _ _ _ _ _ _ hF
set_option maxHeartbeats 4000000 in
set_option maxRecDepth 100000 in
theorem c_X12_pence (l : Launch) (D : va_G) (ad : Nat → Nat) (ca : Nat → ClassId) (kz : Nat → Nat) (hJ : pInj ad) (n : Nat) (a1 : Int32) (a2 : Int32) (σ : PS) (out : Int32 × PS) (hF : F_X12_pence n a1 a2 σ = some out) : Met l yX12_pence (Cond.code yX12_pence cX12_pence 9 (Option.some Jvm.ClassFile.FieldType.int) :: gw_tbl) { frames := 2, cells := 0, slots := 0, locals := 43 } (va_Pc [.ref (ad (249)), .int a1, .int a2] (pU D ad ca kz σ)) (pQi D ad ca out) 0 0 (pAD ad) := by
  refine q_entry (own := "AskedCampModel") hJ (by decide) rfl (Nat.le_of_ble_eq_true rfl) (fun p e s m below meth c C hr hlk => ?_)
  refine q_lv [(0, .ref (ad (249))), (1, .int a1), (2, .int a2)] rfl ?_
  rw [F_X12_pence] at hF
  refine q_aload_n C 0 dX12_pence_0 rfl rfl ?_
  refine q_iload_n C 2 dX12_pence_1 rfl rfl ?_
  obtain ⟨q1, h2, hF⟩ := bnd hF
  try dsimp only at hF
  refine q_callVi C [.int a2] (c_X12_isTent l D ad ca kz C.2.2.2.2.2.2.1 _ _ _ _ h2) tw_1369 gm_X12_isTent pi_249.1 (pe_11 pi_249.2) rfl ⟨rfl, rfl⟩ ⟨Nat.le_of_ble_eq_true rfl, Nat.le_of_ble_eq_true rfl⟩ rfl (Nat.le_of_ble_eq_true rfl) dX12_pence_2 q00 ?_
  refine q_if_eq (tgt := 20) C dX12_pence_5 (by decide) (fun c3 => ?_) (fun c3 => ?_)
  · replace hF := ift c3 hF
    refine q_iconst (v := -1) C dX12_pence_20 (by decide) ?_
    exact q_iret C hr hlk dX12_pence_21 hF
  · replace hF := ife c3 hF
    refine q_iload_n C 1 dX12_pence_8 rfl rfl ?_
    refine q_i2l C dX12_pence_9 ?_
    refine q_lconst (v := 0) C dX12_pence_10 (by decide) ?_
    refine q_ldc2 C dX12_pence_11 tw_1584 ?_
    obtain ⟨q4, h5, hF⟩ := bnd hF
    try dsimp only at hF
    refine q_callSi C [.long a1.toInt64, .long ((0 : Int64)), .long ((9999 : Int64))] (c_X12_in l D ad ca kz C.2.2.2.2.2.2.1 _ _ _ _ _ _ h5) tw_1255 gm_X12_in ⟨rfl, rfl⟩ ⟨Nat.le_of_ble_eq_true rfl, Nat.le_of_ble_eq_true rfl⟩ rfl (Nat.le_of_ble_eq_true rfl) dX12_pence_14 q00 ?_
    refine q_if_ne (tgt := 22) C dX12_pence_17 (by decide) (fun c6 => ?_) (fun c6 => ?_)
    · replace hF := ife c6 hF
      refine q_aload_n C 0 dX12_pence_22 rfl rfl ?_
      obtain ⟨q7, h8, hF⟩ := bnd hF
      try dsimp only at hF
      refine q_callVi C [] (c_X12_askedAll l D ad ca kz C.2.2.2.2.2.2.1 _ _ _ h8) tw_1454 gm_X12_askedAll pi_249.1 (pe_11 pi_249.2) rfl ⟨rfl, rfl⟩ ⟨Nat.le_of_ble_eq_true rfl, Nat.le_of_ble_eq_true rfl⟩ rfl (Nat.le_of_ble_eq_true rfl) dX12_pence_23 q00 ?_
      refine q_istore_n C [(3, .int q7.1), (0, .ref (ad (249))), (1, .int a1), (2, .int a2)] dX12_pence_26 rfl (by decide) rfl ?_
      refine q_iload_n C 0 dX12_pence_27 rfl rfl ?_
      refine q_if_ne (tgt := 33) C dX12_pence_28 (by decide) (fun c9 => ?_) (fun c9 => ?_)
      · replace hF := ife c9 hF
        refine q_iload_n C 2 dX12_pence_33 rfl rfl ?_
        refine q_aload_n C 1 dX12_pence_34 rfl rfl ?_
        refine q_iload_n C 3 dX12_pence_35 rfl rfl ?_
        obtain ⟨q10, h11, hF⟩ := bnd hF
        try dsimp only at hF
        refine q_callVi C [.int a2] (c_X12_askedOf l D ad ca kz C.2.2.2.2.2.2.1 _ _ _ _ h11) tw_1435 gm_X12_askedOf pi_249.1 (pe_11 pi_249.2) rfl ⟨rfl, rfl⟩ ⟨Nat.le_of_ble_eq_true rfl, Nat.le_of_ble_eq_true rfl⟩ rfl (Nat.le_of_ble_eq_true rfl) dX12_pence_36 q00 ?_
        refine q_imul C dX12_pence_39 ?_
        refine q_istore C [(4, .int (a1 * q10.1)), (3, .int q7.1), (0, .ref (ad (249))), (1, .int a1), (2, .int a2)] dX12_pence_40 (by decide) rfl ?_
        refine q_iload_n C 3 dX12_pence_42 rfl rfl ?_
        refine q_istore C [(5, .int a1), (4, .int (a1 * q10.1)), (3, .int q7.1), (0, .ref (ad (249))), (1, .int a1), (2, .int a2)] dX12_pence_43 (by decide) rfl ?_
        refine q_iconst (v := 0) C dX12_pence_45 (by decide) ?_
        refine q_istore C [(6, .int 0), (5, .int a1), (4, .int (a1 * q10.1)), (3, .int q7.1), (0, .ref (ad (249))), (1, .int a1), (2, .int a2)] dX12_pence_46 (by decide) rfl ?_
        refine q_iconst (v := 0) C dX12_pence_48 (by decide) ?_
        refine q_istore C [(7, .int 0), (6, .int 0), (5, .int a1), (4, .int (a1 * q10.1)), (3, .int q7.1), (0, .ref (ad (249))), (1, .int a1), (2, .int a2)] dX12_pence_49 (by decide) rfl ?_
        obtain ⟨o19, h20, hF⟩ := bnd hF
        try dsimp only at hF
        refine q_sub [5, 6, 7, 4, 3, 2, 1, 0] rfl ?_
        refine l_X12_pence_51 C ⟨Nat.le_of_ble_eq_true rfl, Nat.le_of_ble_eq_true rfl⟩ o19 ?_ n _ _ _ _ _ _ _ _ h20
        refine q_iload C 1 dX12_pence_125 rfl ?_
        refine q_iload_n C 0 dX12_pence_127 rfl rfl ?_
        obtain ⟨g21, hF⟩ := grn hF
        refine q_idiv C dX12_pence_128 g21 ?_
        refine q_iload C 3 dX12_pence_129 rfl ?_
        refine q_iload C 2 dX12_pence_131 rfl ?_
        refine q_icmp_ge (tgt := 140) C dX12_pence_133 (by decide) (fun c22 => ?_) (fun c22 => ?_)
        · replace hF := ift c22 hF
          refine q_iconst (v := 0) C dX12_pence_140 (by decide) ?_
          refine q_iadd C dX12_pence_141 ?_
          exact q_iret C hr hlk dX12_pence_142 hF
        · replace hF := ife c22 hF
          refine q_iconst (v := 1) C dX12_pence_136 (by decide) ?_
          refine q_goto (tgt := 141) C dX12_pence_137 (by decide) ?_
          refine q_iadd C dX12_pence_141 ?_
          exact q_iret C hr hlk dX12_pence_142 hF
      · replace hF := ift c9 hF
        refine q_iconst (v := 0) C dX12_pence_31 (by decide) ?_
        exact q_iret C hr hlk dX12_pence_32 hF
    · replace hF := ift c6 hF
      refine q_iconst (v := -1) C dX12_pence_20 (by decide) ?_
      exact q_iret C hr hlk dX12_pence_21 hF
-- X12_pitch
def F_X12_pitch (n : Nat) (a1 : Int32) (a2 : Int32) (σ : PS) : Option (Int32 × PS) := (F_X12_isTent n a1 σ).bind (fun q1 => (if q1.1 = 0 then some ((-1 : Int32), q1.2) else (F_X12_isCell n a2 q1.2).bind (fun q4 => (if q4.1 = 0 then some ((-1 : Int32), q4.2) else (F_X12_cellOf n a1 q4.2).bind (fun q7 => (if q7.1 = a2 then some ((-1 : Int32), q7.2) else (F_X12_keepsAct n q7.2).bind (fun q10 => (F_X12_cellOf n a1 q10).bind (fun q12 => (if 0 ≤ ((13 : Int32) + ((4 : Int32) * a1)) ∧ ((13 : Int32) + ((4 : Int32) * a1)).toNatClampNeg < 179 then some (q12.1, psI q12.2 259 (((13 : Int32) + ((4 : Int32) * a1)).toNatClampNeg) a2) else none)))))))))
theorem gm_X12_pitch : gM "AskedCampModel" yX12_pitch (Cond.code yX12_pitch cX12_pitch 4 (Option.some Jvm.ClassFile.FieldType.int)) 2 := ⟨by decide +kernel, tw_1497, tw_1498, tw_12, tw_1499⟩
set_option maxHeartbeats 4000000 in
set_option maxRecDepth 100000 in
theorem c_X12_pitch (l : Launch) (D : va_G) (ad : Nat → Nat) (ca : Nat → ClassId) (kz : Nat → Nat) (hJ : pInj ad) (n : Nat) (a1 : Int32) (a2 : Int32) (σ : PS) (out : Int32 × PS) (hF : F_X12_pitch n a1 a2 σ = some out) : Met l yX12_pitch (Cond.code yX12_pitch cX12_pitch 4 (Option.some Jvm.ClassFile.FieldType.int) :: gw_tbl) { frames := 2, cells := 0, slots := 0, locals := 41 } (va_Pc [.ref (ad (249)), .int a1, .int a2] (pU D ad ca kz σ)) (pQi D ad ca out) 0 0 (pAD ad) := by
  refine q_entry (own := "AskedCampModel") hJ (by decide) rfl (Nat.le_of_ble_eq_true rfl) (fun p e s m below meth c C hr hlk => ?_)
  refine q_lv [(0, .ref (ad (249))), (1, .int a1), (2, .int a2)] rfl ?_
  rw [F_X12_pitch] at hF
  refine q_aload_n C 0 dX12_pitch_0 rfl rfl ?_
  refine q_iload_n C 1 dX12_pitch_1 rfl rfl ?_
  obtain ⟨q1, h2, hF⟩ := bnd hF
  try dsimp only at hF
  refine q_callVi C [.int a1] (c_X12_isTent l D ad ca kz C.2.2.2.2.2.2.1 _ _ _ _ h2) tw_1369 gm_X12_isTent pi_249.1 (pe_11 pi_249.2) rfl ⟨rfl, rfl⟩ ⟨Nat.le_of_ble_eq_true rfl, Nat.le_of_ble_eq_true rfl⟩ rfl (Nat.le_of_ble_eq_true rfl) dX12_pitch_2 q00 ?_
  refine q_if_eq (tgt := 25) C dX12_pitch_5 (by decide) (fun c3 => ?_) (fun c3 => ?_)
  · replace hF := ift c3 hF
    refine q_iconst (v := -1) C dX12_pitch_25 (by decide) ?_
    exact q_iret C hr hlk dX12_pitch_26 hF
  · replace hF := ife c3 hF
    refine q_aload_n C 0 dX12_pitch_8 rfl rfl ?_
    refine q_iload_n C 2 dX12_pitch_9 rfl rfl ?_
    obtain ⟨q4, h5, hF⟩ := bnd hF
    try dsimp only at hF
    refine q_callVi C [.int a2] (c_X12_isCell l D ad ca kz C.2.2.2.2.2.2.1 _ _ _ _ h5) tw_1378 gm_X12_isCell pi_249.1 (pe_11 pi_249.2) rfl ⟨rfl, rfl⟩ ⟨Nat.le_of_ble_eq_true rfl, Nat.le_of_ble_eq_true rfl⟩ rfl (Nat.le_of_ble_eq_true rfl) dX12_pitch_10 q00 ?_
    refine q_if_eq (tgt := 25) C dX12_pitch_13 (by decide) (fun c6 => ?_) (fun c6 => ?_)
    · replace hF := ift c6 hF
      refine q_iconst (v := -1) C dX12_pitch_25 (by decide) ?_
      exact q_iret C hr hlk dX12_pitch_26 hF
    · replace hF := ife c6 hF
      refine q_aload_n C 0 dX12_pitch_16 rfl rfl ?_
      refine q_iload_n C 1 dX12_pitch_17 rfl rfl ?_
      obtain ⟨q7, h8, hF⟩ := bnd hF
      try dsimp only at hF
      refine q_callVi C [.int a1] (c_X12_cellOf l D ad ca kz C.2.2.2.2.2.2.1 _ _ _ _ h8) tw_1391 gm_X12_cellOf pi_249.1 (pe_11 pi_249.2) rfl ⟨rfl, rfl⟩ ⟨Nat.le_of_ble_eq_true rfl, Nat.le_of_ble_eq_true rfl⟩ rfl (Nat.le_of_ble_eq_true rfl) dX12_pitch_18 q00 ?_
      refine q_iload_n C 2 dX12_pitch_21 rfl rfl ?_
      refine q_icmp_ne (tgt := 27) C dX12_pitch_22 (by decide) (fun c9 => ?_) (fun c9 => ?_)
      · replace hF := ife c9 hF
        refine q_aload_n C 0 dX12_pitch_27 rfl rfl ?_
        obtain ⟨q10, h11, hF⟩ := bnd hF
        try dsimp only at hF
        refine q_callVv C [] (c_X12_keepsAct l D ad ca kz C.2.2.2.2.2.2.1 _ _ _ h11) tw_1407 gm_X12_keepsAct pi_249.1 (pe_11 pi_249.2) rfl ⟨rfl, rfl⟩ ⟨Nat.le_of_ble_eq_true rfl, Nat.le_of_ble_eq_true rfl⟩ rfl (Nat.le_of_ble_eq_true rfl) dX12_pitch_28 q00 ?_
        refine q_aload_n C 0 dX12_pitch_31 rfl rfl ?_
        refine q_iload_n C 1 dX12_pitch_32 rfl rfl ?_
        obtain ⟨q12, h13, hF⟩ := bnd hF
        try dsimp only at hF
        refine q_callVi C [.int a1] (c_X12_cellOf l D ad ca kz C.2.2.2.2.2.2.1 _ _ _ _ h13) tw_1391 gm_X12_cellOf pi_249.1 (pe_11 pi_249.2) rfl ⟨rfl, rfl⟩ ⟨Nat.le_of_ble_eq_true rfl, Nat.le_of_ble_eq_true rfl⟩ rfl (Nat.le_of_ble_eq_true rfl) dX12_pitch_33 q00 ?_
        refine q_istore_n C [(3, .int q12.1), (0, .ref (ad (249))), (1, .int a1), (2, .int a2)] dX12_pitch_36 rfl (by decide) rfl ?_
        refine q_aload_n C 1 dX12_pitch_37 rfl rfl ?_
        refine qg_11_20 C pi_249 tw_1073 dX12_pitch_38 ?_
        refine q_bipush (v := 13) C dX12_pitch_41 (by decide) ?_
        refine q_iconst (v := 4) C dX12_pitch_43 (by decide) ?_
        refine q_iload_n C 2 dX12_pitch_44 rfl rfl ?_
        refine q_imul C dX12_pitch_45 ?_
        refine q_iadd C dX12_pitch_46 ?_
        refine q_iload_n C 3 dX12_pitch_47 rfl rfl ?_
        obtain ⟨g14, hF⟩ := grd hF
        refine q_iast C pa_259 (vp_of g14) dX12_pitch_48 ?_
        refine q_iload_n C 0 dX12_pitch_49 rfl rfl ?_
        exact q_iret C hr hlk dX12_pitch_50 hF
      · replace hF := ift c9 hF
        refine q_iconst (v := -1) C dX12_pitch_25 (by decide) ?_
        exact q_iret C hr hlk dX12_pitch_26 hF
-- X12_reach
def L_X12_reach_36 (n : Nat) : Nat → Int32 → Int32 → Int32 → PS → Option (Int32 × PS)
  | 0, _, _, _, _ => none
  | k + 1, x1, x2, x3, σ => (F_X12_cells n σ).bind (fun q9 => (if q9.1 ≤ x3 then some (x2, q9.2) else (if 0 ≤ x3 ∧ x3.toNatClampNeg < 36 then (if x1 < (q9.2.1 260 x3.toNatClampNeg) then L_X12_reach_36 n k x1 (x2 + (0 : Int32)) (x3 + 1) q9.2 else L_X12_reach_36 n k x1 (x2 + (1 : Int32)) (x3 + 1) q9.2) else none)))
def F_X12_reach (n : Nat) (a1 : Int32) (σ : PS) : Option (Int32 × PS) := (F_X12_isCamp n σ).bind (fun q1 => (if q1.1 = 0 then some ((-1 : Int32), q1.2) else (F_X12_in n a1.toInt64 (0 : Int64) (36 : Int64) q1.2).bind (fun q4 => (if q4.1 = 0 then some ((-1 : Int32), q4.2) else (F_X12_measures n (q4.2.1 259 11) q4.2).bind (fun q7 => (L_X12_reach_36 n n a1 (0 : Int32) (0 : Int32) q7).bind (fun o14 => some (o14.1, o14.2)))))))
theorem gm_X12_reach : gM "AskedCampModel" yX12_reach (Cond.code yX12_reach cX12_reach 4 (Option.some Jvm.ClassFile.FieldType.int)) 1 := ⟨by decide +kernel, tw_1539, tw_1540, tw_12, tw_1541⟩
set_option maxHeartbeats 4000000 in
set_option maxRecDepth 100000 in
theorem l_X12_reach_36 {p : Program} {l : Launch} {e : Env} {R : Room} {s : State} {m : MethodId} {args : Array Value} {below : List Frame} {meth : Method} {c : Code} {D : va_G} {ad : Nat → Nat} {ca : Nat → ClassId} {kz : Nat → Nat} {Q : State → Prop} (C : pC p s m args c cX12_reach "AskedCampModel" 4 D ad ca kz) (hR : 3 ≤ R.frames ∧ 69 ≤ R.locals) {n : Nat} (o : Int32 × PS) (hx0 : PW p l e R s m args below meth c 4 D ad ca 0 0 Q (o.2) 68 [(2, .int o.1)] []) : ∀ (k : Nat) (x1 : Int32) (x2 : Int32) (x3 : Int32) (σ : PS), L_X12_reach_36 n k x1 x2 x3 σ = some o → PW p l e R s m args below meth c 4 D ad ca 0 0 Q σ 36 [(0, .ref (ad (249))), (1, .int x1), (2, .int x2), (3, .int x3)] [] := by
  intro k
  induction k with
  | zero => intro x1 x2 x3 σ hF; exact nomatch (show (none : Option (Int32 × PS)) = some o from hF)
  | succ k ih =>
    intro x1 x2 x3 σ hF
    rw [L_X12_reach_36] at hF
    refine q_iload_n C 3 dX12_reach_36 rfl rfl ?_
    refine q_aload_n C 0 dX12_reach_37 rfl rfl ?_
    obtain ⟨q9, h10, hF⟩ := bnd hF
    try dsimp only at hF
    refine q_callVi C [] (c_X12_cells l D ad ca kz C.2.2.2.2.2.2.1 _ _ _ h10) tw_1382 gm_X12_cells pi_249.1 (pe_11 pi_249.2) rfl ⟨rfl, rfl⟩ ⟨Nat.le_trans (Nat.le_of_ble_eq_true rfl) hR.1, Nat.le_trans (Nat.le_of_ble_eq_true rfl) hR.2⟩ rfl (Nat.le_of_ble_eq_true rfl) dX12_reach_38 q00 ?_
    refine q_icmp_ge (tgt := 68) C dX12_reach_41 (by decide) (fun c11 => ?_) (fun c11 => ?_)
    · replace hF := ift c11 hF
      cases hF
      refine q_sub [2] rfl ?_
      exact hx0
    · replace hF := ife c11 hF
      refine q_iload_n C 2 dX12_reach_44 rfl rfl ?_
      refine q_aload_n C 0 dX12_reach_45 rfl rfl ?_
      refine qg_11_23 C pi_249 tw_1076 dX12_reach_46 ?_
      refine q_iload_n C 3 dX12_reach_49 rfl rfl ?_
      obtain ⟨g12, hF⟩ := grd hF
      refine q_iald C pa_260 (vp_of g12) dX12_reach_50 ?_
      refine q_iload_n C 1 dX12_reach_51 rfl rfl ?_
      refine q_icmp_gt (tgt := 59) C dX12_reach_52 (by decide) (fun c13 => ?_) (fun c13 => ?_)
      · replace hF := ift c13 hF
        refine q_iconst (v := 0) C dX12_reach_59 (by decide) ?_
        refine q_iadd C dX12_reach_60 ?_
        refine q_istore_n C [(2, .int (x2 + (0 : Int32))), (0, .ref (ad (249))), (1, .int x1), (3, .int x3)] dX12_reach_61 rfl (by decide) rfl ?_
        refine q_iinc C 3 [(3, .int (x3 + 1)), (2, .int (x2 + (0 : Int32))), (0, .ref (ad (249))), (1, .int x1)] dX12_reach_62 rfl rfl (by decide) rfl ?_
        refine q_goto (tgt := 36) C dX12_reach_65 (by decide) ?_
        refine q_sub [2, 3, 1, 0] rfl ?_
        exact ih _ _ _ _ hF
      · replace hF := ife c13 hF
        refine q_iconst (v := 1) C dX12_reach_55 (by decide) ?_
        refine q_goto (tgt := 60) C dX12_reach_56 (by decide) ?_
        refine q_iadd C dX12_reach_60 ?_
        refine q_istore_n C [(2, .int (x2 + (1 : Int32))), (0, .ref (ad (249))), (1, .int x1), (3, .int x3)] dX12_reach_61 rfl (by decide) rfl ?_
        refine q_iinc C 3 [(3, .int (x3 + 1)), (2, .int (x2 + (1 : Int32))), (0, .ref (ad (249))), (1, .int x1)] dX12_reach_62 rfl rfl (by decide) rfl ?_
        refine q_goto (tgt := 36) C dX12_reach_65 (by decide) ?_
        refine q_sub [2, 3, 1, 0] rfl ?_
        exact ih _ _ _ _ hF
set_option maxHeartbeats 4000000 in
set_option maxRecDepth 100000 in
theorem c_X12_reach (l : Launch) (D : va_G) (ad : Nat → Nat) (ca : Nat → ClassId) (kz : Nat → Nat) (hJ : pInj ad) (n : Nat) (a1 : Int32) (σ : PS) (out : Int32 × PS) (hF : F_X12_reach n a1 σ = some out) : Met l yX12_reach (Cond.code yX12_reach cX12_reach 4 (Option.some Jvm.ClassFile.FieldType.int) :: gw_tbl) { frames := 3, cells := 0, slots := 0, locals := 69 } (va_Pc [.ref (ad (249)), .int a1] (pU D ad ca kz σ)) (pQi D ad ca out) 0 0 (pAD ad) := by
  refine q_entry (own := "AskedCampModel") hJ (by decide) rfl (Nat.le_of_ble_eq_true rfl) (fun p e s m below meth c C hr hlk => ?_)
  refine q_lv [(0, .ref (ad (249))), (1, .int a1)] rfl ?_
  rw [F_X12_reach] at hF
  refine q_aload_n C 0 dX12_reach_0 rfl rfl ?_
  obtain ⟨q1, h2, hF⟩ := bnd hF
  try dsimp only at hF
  refine q_callVi C [] (c_X12_isCamp l D ad ca kz C.2.2.2.2.2.2.1 _ _ _ h2) tw_1403 gm_X12_isCamp pi_249.1 (pe_11 pi_249.2) rfl ⟨rfl, rfl⟩ ⟨Nat.le_of_ble_eq_true rfl, Nat.le_of_ble_eq_true rfl⟩ rfl (Nat.le_of_ble_eq_true rfl) dX12_reach_1 q00 ?_
  refine q_if_eq (tgt := 19) C dX12_reach_4 (by decide) (fun c3 => ?_) (fun c3 => ?_)
  · replace hF := ift c3 hF
    refine q_iconst (v := -1) C dX12_reach_19 (by decide) ?_
    exact q_iret C hr hlk dX12_reach_20 hF
  · replace hF := ife c3 hF
    refine q_iload_n C 1 dX12_reach_7 rfl rfl ?_
    refine q_i2l C dX12_reach_8 ?_
    refine q_lconst (v := 0) C dX12_reach_9 (by decide) ?_
    refine q_ldc2 C dX12_reach_10 tw_1542 ?_
    obtain ⟨q4, h5, hF⟩ := bnd hF
    try dsimp only at hF
    refine q_callSi C [.long a1.toInt64, .long ((0 : Int64)), .long ((36 : Int64))] (c_X12_in l D ad ca kz C.2.2.2.2.2.2.1 _ _ _ _ _ _ h5) tw_1255 gm_X12_in ⟨rfl, rfl⟩ ⟨Nat.le_of_ble_eq_true rfl, Nat.le_of_ble_eq_true rfl⟩ rfl (Nat.le_of_ble_eq_true rfl) dX12_reach_13 q00 ?_
    refine q_if_ne (tgt := 21) C dX12_reach_16 (by decide) (fun c6 => ?_) (fun c6 => ?_)
    · replace hF := ife c6 hF
      refine q_iconst (v := 0) C dX12_reach_21 (by decide) ?_
      refine q_istore_n C [(2, .int 0), (0, .ref (ad (249))), (1, .int a1)] dX12_reach_22 rfl (by decide) rfl ?_
      refine q_aload_n C 1 dX12_reach_23 rfl rfl ?_
      refine q_aload_n C 1 dX12_reach_24 rfl rfl ?_
      refine qg_11_20 C pi_249 tw_1073 dX12_reach_25 ?_
      refine q_bipush (v := 11) C dX12_reach_28 (by decide) ?_
      refine q_ialdk (jn := 11) C pa_259 (vp_of (by decide)) rfl dX12_reach_30 ?_
      obtain ⟨q7, h8, hF⟩ := bnd hF
      try dsimp only at hF
      refine q_callVv C [.int (q4.2.1 259 11)] (c_X12_measures l D ad ca kz C.2.2.2.2.2.2.1 _ _ _ _ h8) tw_1423 gm_X12_measures pi_249.1 (pe_11 pi_249.2) rfl ⟨rfl, rfl⟩ ⟨Nat.le_of_ble_eq_true rfl, Nat.le_of_ble_eq_true rfl⟩ rfl (Nat.le_of_ble_eq_true rfl) dX12_reach_31 q00 ?_
      refine q_iconst (v := 0) C dX12_reach_34 (by decide) ?_
      refine q_istore_n C [(3, .int 0), (2, .int 0), (0, .ref (ad (249))), (1, .int a1)] dX12_reach_35 rfl (by decide) rfl ?_
      obtain ⟨o14, h15, hF⟩ := bnd hF
      try dsimp only at hF
      refine q_sub [2, 3, 1, 0] rfl ?_
      refine l_X12_reach_36 C ⟨Nat.le_of_ble_eq_true rfl, Nat.le_of_ble_eq_true rfl⟩ o14 ?_ n _ _ _ _ h15
      refine q_iload_n C 0 dX12_reach_68 rfl rfl ?_
      exact q_iret C hr hlk dX12_reach_69 hF
    · replace hF := ift c6 hF
      refine q_iconst (v := -1) C dX12_reach_19 (by decide) ?_
      exact q_iret C hr hlk dX12_reach_20 hF
-- X12_ring
def L_X12_ring_25 (n : Nat) : Nat → Int32 → Int32 → PS → Option (Int32 × PS)
  | 0, _, _, _ => none
  | k + 1, x1, x2, σ => (if (66 : Int32) ≤ x2 then some (x1, σ) else (if 0 ≤ x2 ∧ x2.toNatClampNeg < 66 then (F_X12_passes n (psI σ 270 x2.toNatClampNeg (σ.1 259 11))).bind (fun q11 => L_X12_ring_25 n k x1 (x2 + 1) q11.2) else none))
def L_X12_ring_71 (n : Nat) : Nat → Int32 → Int32 → Int32 → PS → Option (Nat × Int32 × Int32 × Int32 × PS)
  | 0, _, _, _, _ => none
  | k + 1, x1, x2, x3, σ => (if (60 : Int32) < x3 then some (1, x1, x2, 0, σ) else (F_X12_areAlike n x2 x3 σ).bind (fun q19 => (if q19.1 = 0 then L_X12_ring_71 n k x1 x2 (x3 + 1) q19.2 else some (0, x1, x2, x3, q19.2))))
def L_X12_ring_61 (n : Nat) : Nat → Int32 → Int32 → PS → Option (Nat × Int32 × Int32 × Int32 × PS)
  | 0, _, _, _ => none
  | k + 1, x1, x2, σ => (if (60 : Int32) ≤ x2 then some (1, 0, 0, 0, σ) else (L_X12_ring_71 n n x1 x2 (x2 + (1 : Int32)) σ).bind (fun o18 => (if o18.1 = 0 then some (0, o18.2.1, o18.2.2.1, o18.2.2.2.1, o18.2.2.2.2) else L_X12_ring_61 n k o18.2.1 (o18.2.2.1 + 1) o18.2.2.2.2)))
def F_X12_ring (n : Nat) (a1 : Int32) (σ : PS) : Option (Int32 × PS) := (F_X12_isCamp n σ).bind (fun q1 => (if q1.1 = 0 then some ((-1 : Int32), q1.2) else (F_X12_in n a1.toInt64 (0 : Int64) (1 : Int64) q1.2).bind (fun q4 => (if q4.1 = 0 then some ((-1 : Int32), q4.2) else (F_X12_keeps n q4.2).bind (fun q7 => (L_X12_ring_25 n n a1 (0 : Int32) q7).bind (fun o13 => (F_X12_laysBack n o13.2).bind (fun q15 => (L_X12_ring_61 n n o13.1 (0 : Int32) q15).bind (fun o20 => (if o20.1 = 0 then (if o20.2.1 = 0 then some (((o20.2.2.2.2.1 259 10) + o20.2.2.1), o20.2.2.2.2) else some ((o20.2.2.2.1 - o20.2.2.1), o20.2.2.2.2)) else some ((-2 : Int32), o20.2.2.2.2))))))))))
theorem gm_X12_ring : gM "AskedCampModel" yX12_ring (Cond.code yX12_ring cX12_ring 4 (Option.some Jvm.ClassFile.FieldType.int)) 1 := ⟨by decide +kernel, tw_1611, tw_1612, tw_12, tw_1613⟩
set_option maxHeartbeats 4000000 in
set_option maxRecDepth 100000 in
theorem l_X12_ring_25 {p : Program} {l : Launch} {e : Env} {R : Room} {s : State} {m : MethodId} {args : Array Value} {below : List Frame} {meth : Method} {c : Code} {D : va_G} {ad : Nat → Nat} {ca : Nat → ClassId} {kz : Nat → Nat} {Q : State → Prop} (C : pC p s m args c cX12_ring "AskedCampModel" 4 D ad ca kz) (hR : 7 ≤ R.frames ∧ 166 ≤ R.locals) {n : Nat} (o : Int32 × PS) (hx0 : PW p l e R s m args below meth c 4 D ad ca 0 0 Q (o.2) 55 [(0, .ref (ad (249))), (1, .int o.1)] []) : ∀ (k : Nat) (x1 : Int32) (x2 : Int32) (σ : PS), L_X12_ring_25 n k x1 x2 σ = some o → PW p l e R s m args below meth c 4 D ad ca 0 0 Q σ 25 [(0, .ref (ad (249))), (1, .int x1), (2, .int x2)] [] := by
  intro k
  induction k with
  | zero => intro x1 x2 σ hF; exact nomatch (show (none : Option (Int32 × PS)) = some o from hF)
  | succ k ih =>
    intro x1 x2 σ hF
    rw [L_X12_ring_25] at hF
    refine q_iload_n C 2 dX12_ring_25 rfl rfl ?_
    refine q_bipush (v := 66) C dX12_ring_26 (by decide) ?_
    refine q_icmp_ge (tgt := 55) C dX12_ring_28 (by decide) (fun c9 => ?_) (fun c9 => ?_)
    · replace hF := ift c9 hF
      cases hF
      refine q_sub [0, 1] rfl ?_
      exact hx0
    · replace hF := ife c9 hF
      refine q_aload_n C 0 dX12_ring_31 rfl rfl ?_
      refine qg_11_35 C pi_249 tw_1088 dX12_ring_32 ?_
      refine q_iload_n C 2 dX12_ring_35 rfl rfl ?_
      refine q_aload_n C 0 dX12_ring_36 rfl rfl ?_
      refine qg_11_20 C pi_249 tw_1073 dX12_ring_37 ?_
      refine q_bipush (v := 11) C dX12_ring_40 (by decide) ?_
      refine q_ialdk (jn := 11) C pa_259 (vp_of (by decide)) rfl dX12_ring_42 ?_
      obtain ⟨g10, hF⟩ := grd hF
      refine q_iast C pa_270 (vp_of g10) dX12_ring_43 ?_
      refine q_aload_n C 0 dX12_ring_44 rfl rfl ?_
      obtain ⟨q11, h12, hF⟩ := bnd hF
      try dsimp only at hF
      refine q_callVi C [] (c_X12_passes l D ad ca kz C.2.2.2.2.2.2.1 _ _ _ h12) tw_1411 gm_X12_passes pi_249.1 (pe_11 pi_249.2) rfl ⟨rfl, rfl⟩ ⟨Nat.le_trans (Nat.le_of_ble_eq_true rfl) hR.1, Nat.le_trans (Nat.le_of_ble_eq_true rfl) hR.2⟩ rfl (Nat.le_of_ble_eq_true rfl) dX12_ring_45 q00 ?_
      refine q_pop C dX12_ring_48 rfl ?_
      refine q_iinc C 2 [(2, .int (x2 + 1)), (0, .ref (ad (249))), (1, .int x1)] dX12_ring_49 rfl rfl (by decide) rfl ?_
      refine q_goto (tgt := 25) C dX12_ring_52 (by decide) ?_
      refine q_sub [1, 2, 0] rfl ?_
      exact ih _ _ _ hF
set_option maxHeartbeats 4000000 in
set_option maxRecDepth 100000 in
theorem l_X12_ring_71 {p : Program} {l : Launch} {e : Env} {R : Room} {s : State} {m : MethodId} {args : Array Value} {below : List Frame} {meth : Method} {c : Code} {D : va_G} {ad : Nat → Nat} {ca : Nat → ClassId} {kz : Nat → Nat} {Q : State → Prop} (C : pC p s m args c cX12_ring "AskedCampModel" 4 D ad ca kz) (hR : 7 ≤ R.frames ∧ 166 ≤ R.locals) {n : Nat} (o : Nat × Int32 × Int32 × Int32 × PS) (hx0 : o.1 = 0 → PW p l e R s m args below meth c 4 D ad ca 0 0 Q (o.2.2.2.2) 86 [(0, .ref (ad (249))), (1, .int o.2.1), (2, .int o.2.2.1), (3, .int o.2.2.2.1)] []) (hx1 : o.1 = 1 → PW p l e R s m args below meth c 4 D ad ca 0 0 Q (o.2.2.2.2) 112 [(0, .ref (ad (249))), (1, .int o.2.1), (2, .int o.2.2.1)] []) : ∀ (k : Nat) (x1 : Int32) (x2 : Int32) (x3 : Int32) (σ : PS), L_X12_ring_71 n k x1 x2 x3 σ = some o → PW p l e R s m args below meth c 4 D ad ca 0 0 Q σ 71 [(0, .ref (ad (249))), (1, .int x1), (2, .int x2), (3, .int x3)] [] := by
  intro k
  induction k with
  | zero => intro x1 x2 x3 σ hF; exact nomatch (show (none : Option (Nat × Int32 × Int32 × Int32 × PS)) = some o from hF)
  | succ k ih =>
    intro x1 x2 x3 σ hF
    rw [L_X12_ring_71] at hF
    refine q_iload_n C 3 dX12_ring_71 rfl rfl ?_
    refine q_bipush (v := 60) C dX12_ring_72 (by decide) ?_
    refine q_icmp_gt (tgt := 112) C dX12_ring_74 (by decide) (fun c18 => ?_) (fun c18 => ?_)
    · replace hF := ift c18 hF
      cases hF
      refine q_sub [0, 1, 2] rfl ?_
      exact hx1 rfl
    · replace hF := ife c18 hF
      refine q_aload_n C 0 dX12_ring_77 rfl rfl ?_
      refine q_iload_n C 2 dX12_ring_78 rfl rfl ?_
      refine q_iload_n C 3 dX12_ring_79 rfl rfl ?_
      obtain ⟨q19, h20, hF⟩ := bnd hF
      try dsimp only at hF
      refine q_callVi C [.int x2, .int x3] (c_X12_areAlike l D ad ca kz C.2.2.2.2.2.2.1 _ _ _ _ _ h20) tw_1614 gm_X12_areAlike pi_249.1 (pe_11 pi_249.2) rfl ⟨rfl, rfl⟩ ⟨Nat.le_trans (Nat.le_of_ble_eq_true rfl) hR.1, Nat.le_trans (Nat.le_of_ble_eq_true rfl) hR.2⟩ rfl (Nat.le_of_ble_eq_true rfl) dX12_ring_80 q00 ?_
      refine q_if_eq (tgt := 106) C dX12_ring_83 (by decide) (fun c21 => ?_) (fun c21 => ?_)
      · replace hF := ift c21 hF
        refine q_iinc C 3 [(3, .int (x3 + 1)), (0, .ref (ad (249))), (1, .int x1), (2, .int x2)] dX12_ring_106 rfl rfl (by decide) rfl ?_
        refine q_goto (tgt := 71) C dX12_ring_109 (by decide) ?_
        refine q_sub [1, 2, 3, 0] rfl ?_
        exact ih _ _ _ _ hF
      · replace hF := ife c21 hF
        cases hF
        refine q_sub [0, 1, 2, 3] rfl ?_
        exact hx0 rfl
set_option maxHeartbeats 4000000 in
set_option maxRecDepth 100000 in
theorem l_X12_ring_61 {p : Program} {l : Launch} {e : Env} {R : Room} {s : State} {m : MethodId} {args : Array Value} {below : List Frame} {meth : Method} {c : Code} {D : va_G} {ad : Nat → Nat} {ca : Nat → ClassId} {kz : Nat → Nat} {Q : State → Prop} (C : pC p s m args c cX12_ring "AskedCampModel" 4 D ad ca kz) (hR : 7 ≤ R.frames ∧ 166 ≤ R.locals) {n : Nat} (o : Nat × Int32 × Int32 × Int32 × PS) (hx0 : o.1 = 0 → PW p l e R s m args below meth c 4 D ad ca 0 0 Q (o.2.2.2.2) 86 [(0, .ref (ad (249))), (1, .int o.2.1), (2, .int o.2.2.1), (3, .int o.2.2.2.1)] []) (hx1 : o.1 = 1 → PW p l e R s m args below meth c 4 D ad ca 0 0 Q (o.2.2.2.2) 118 [] []) : ∀ (k : Nat) (x1 : Int32) (x2 : Int32) (σ : PS), L_X12_ring_61 n k x1 x2 σ = some o → PW p l e R s m args below meth c 4 D ad ca 0 0 Q σ 61 [(0, .ref (ad (249))), (1, .int x1), (2, .int x2)] [] := by
  intro k
  induction k with
  | zero => intro x1 x2 σ hF; exact nomatch (show (none : Option (Nat × Int32 × Int32 × Int32 × PS)) = some o from hF)
  | succ k ih =>
    intro x1 x2 σ hF
    rw [L_X12_ring_61] at hF
    refine q_iload_n C 2 dX12_ring_61 rfl rfl ?_
    refine q_bipush (v := 60) C dX12_ring_62 (by decide) ?_
    refine q_icmp_ge (tgt := 118) C dX12_ring_64 (by decide) (fun c17 => ?_) (fun c17 => ?_)
    · replace hF := ift c17 hF
      cases hF
      refine q_sub [] rfl ?_
      exact hx1 rfl
    · replace hF := ife c17 hF
      refine q_iload_n C 2 dX12_ring_67 rfl rfl ?_
      refine q_iconst (v := 1) C dX12_ring_68 (by decide) ?_
      refine q_iadd C dX12_ring_69 ?_
      refine q_istore_n C [(3, .int (x2 + (1 : Int32))), (0, .ref (ad (249))), (1, .int x1), (2, .int x2)] dX12_ring_70 rfl (by decide) rfl ?_
      obtain ⟨o18, h19, hF⟩ := bnd hF
      try dsimp only at hF
      refine q_sub [1, 2, 3, 0] rfl ?_
      refine l_X12_ring_71 C ⟨hR.1, hR.2⟩ o18 (fun eo18_0 => ?_) (fun eo18_1 => ?_) n _ _ _ _ h19
      · -- exit 0
        replace hF := ift eo18_0 hF
        cases hF
        refine q_sub [0, 1, 2, 3] rfl ?_
        exact hx0 rfl
      · -- exit 1
        replace hF := ife (by rw [eo18_1]; decide) hF
        refine q_iinc C 2 [(2, .int (o18.2.2.1 + 1)), (0, .ref (ad (249))), (1, .int o18.2.1)] dX12_ring_112 rfl rfl (by decide) rfl ?_
        refine q_goto (tgt := 61) C dX12_ring_115 (by decide) ?_
        refine q_sub [1, 2, 0] rfl ?_
        exact ih _ _ _ hF
set_option maxHeartbeats 4000000 in
set_option maxRecDepth 100000 in
theorem c_X12_ring (l : Launch) (D : va_G) (ad : Nat → Nat) (ca : Nat → ClassId) (kz : Nat → Nat) (hJ : pInj ad) (n : Nat) (a1 : Int32) (σ : PS) (out : Int32 × PS) (hF : F_X12_ring n a1 σ = some out) : Met l yX12_ring (Cond.code yX12_ring cX12_ring 4 (Option.some Jvm.ClassFile.FieldType.int) :: gw_tbl) { frames := 7, cells := 0, slots := 0, locals := 166 } (va_Pc [.ref (ad (249)), .int a1] (pU D ad ca kz σ)) (pQi D ad ca out) 0 0 (pAD ad) := by
  refine q_entry (own := "AskedCampModel") hJ (by decide) rfl (Nat.le_of_ble_eq_true rfl) (fun p e s m below meth c C hr hlk => ?_)
  refine q_lv [(0, .ref (ad (249))), (1, .int a1)] rfl ?_
  rw [F_X12_ring] at hF
  refine q_aload_n C 0 dX12_ring_0 rfl rfl ?_
  obtain ⟨q1, h2, hF⟩ := bnd hF
  try dsimp only at hF
  refine q_callVi C [] (c_X12_isCamp l D ad ca kz C.2.2.2.2.2.2.1 _ _ _ h2) tw_1403 gm_X12_isCamp pi_249.1 (pe_11 pi_249.2) rfl ⟨rfl, rfl⟩ ⟨Nat.le_of_ble_eq_true rfl, Nat.le_of_ble_eq_true rfl⟩ rfl (Nat.le_of_ble_eq_true rfl) dX12_ring_1 q00 ?_
  refine q_if_eq (tgt := 17) C dX12_ring_4 (by decide) (fun c3 => ?_) (fun c3 => ?_)
  · replace hF := ift c3 hF
    refine q_iconst (v := -1) C dX12_ring_17 (by decide) ?_
    exact q_iret C hr hlk dX12_ring_18 hF
  · replace hF := ife c3 hF
    refine q_iload_n C 1 dX12_ring_7 rfl rfl ?_
    refine q_i2l C dX12_ring_8 ?_
    refine q_lconst (v := 0) C dX12_ring_9 (by decide) ?_
    refine q_lconst (v := 1) C dX12_ring_10 (by decide) ?_
    obtain ⟨q4, h5, hF⟩ := bnd hF
    try dsimp only at hF
    refine q_callSi C [.long a1.toInt64, .long ((0 : Int64)), .long ((1 : Int64))] (c_X12_in l D ad ca kz C.2.2.2.2.2.2.1 _ _ _ _ _ _ h5) tw_1255 gm_X12_in ⟨rfl, rfl⟩ ⟨Nat.le_of_ble_eq_true rfl, Nat.le_of_ble_eq_true rfl⟩ rfl (Nat.le_of_ble_eq_true rfl) dX12_ring_11 q00 ?_
    refine q_if_ne (tgt := 19) C dX12_ring_14 (by decide) (fun c6 => ?_) (fun c6 => ?_)
    · replace hF := ife c6 hF
      refine q_aload_n C 0 dX12_ring_19 rfl rfl ?_
      obtain ⟨q7, h8, hF⟩ := bnd hF
      try dsimp only at hF
      refine q_callVv C [] (c_X12_keeps l D ad ca kz C.2.2.2.2.2.2.1 _ _ _ h8) tw_1514 gm_X12_keeps pi_249.1 (pe_11 pi_249.2) rfl ⟨rfl, rfl⟩ ⟨Nat.le_of_ble_eq_true rfl, Nat.le_of_ble_eq_true rfl⟩ rfl (Nat.le_of_ble_eq_true rfl) dX12_ring_20 q00 ?_
      refine q_iconst (v := 0) C dX12_ring_23 (by decide) ?_
      refine q_istore_n C [(2, .int 0), (0, .ref (ad (249))), (1, .int a1)] dX12_ring_24 rfl (by decide) rfl ?_
      obtain ⟨o13, h14, hF⟩ := bnd hF
      try dsimp only at hF
      refine q_sub [1, 2, 0] rfl ?_
      refine l_X12_ring_25 C ⟨Nat.le_of_ble_eq_true rfl, Nat.le_of_ble_eq_true rfl⟩ o13 ?_ n _ _ _ h14
      refine q_aload_n C 0 dX12_ring_55 rfl rfl ?_
      obtain ⟨q15, h16, hF⟩ := bnd hF
      try dsimp only at hF
      refine q_callVv C [] (c_X12_laysBack l D ad ca kz C.2.2.2.2.2.2.1 _ _ _ h16) tw_1526 gm_X12_laysBack pi_249.1 (pe_11 pi_249.2) rfl ⟨rfl, rfl⟩ ⟨Nat.le_of_ble_eq_true rfl, Nat.le_of_ble_eq_true rfl⟩ rfl (Nat.le_of_ble_eq_true rfl) dX12_ring_56 q00 ?_
      refine q_iconst (v := 0) C dX12_ring_59 (by decide) ?_
      refine q_istore_n C [(2, .int 0), (0, .ref (ad (249))), (1, .int o13.1)] dX12_ring_60 rfl (by decide) rfl ?_
      obtain ⟨o20, h21, hF⟩ := bnd hF
      try dsimp only at hF
      refine q_sub [1, 2, 0] rfl ?_
      refine l_X12_ring_61 C ⟨Nat.le_of_ble_eq_true rfl, Nat.le_of_ble_eq_true rfl⟩ o20 (fun eo20_0 => ?_) (fun eo20_1 => ?_) n _ _ _ h21
      · -- exit 0
        replace hF := ift eo20_0 hF
        refine q_iload_n C 1 dX12_ring_86 rfl rfl ?_
        refine q_if_ne (tgt := 102) C dX12_ring_87 (by decide) (fun c22 => ?_) (fun c22 => ?_)
        · replace hF := ife c22 hF
          refine q_iload_n C 3 dX12_ring_102 rfl rfl ?_
          refine q_iload_n C 2 dX12_ring_103 rfl rfl ?_
          refine q_isub C dX12_ring_104 ?_
          exact q_iret C hr hlk dX12_ring_105 hF
        · replace hF := ift c22 hF
          refine q_aload_n C 0 dX12_ring_90 rfl rfl ?_
          refine qg_11_20 C pi_249 tw_1073 dX12_ring_91 ?_
          refine q_bipush (v := 10) C dX12_ring_94 (by decide) ?_
          refine q_ialdk (jn := 10) C pa_259 (vp_of (by decide)) rfl dX12_ring_96 ?_
          refine q_iload_n C 2 dX12_ring_97 rfl rfl ?_
          refine q_iadd C dX12_ring_98 ?_
          refine q_goto (tgt := 105) C dX12_ring_99 (by decide) ?_
          exact q_iret C hr hlk dX12_ring_105 hF
      · -- exit 1
        replace hF := ife (by rw [eo20_1]; decide) hF
        refine q_bipush (v := -2) C dX12_ring_118 (by decide) ?_
        exact q_iret C hr hlk dX12_ring_120 hF
    · replace hF := ift c6 hF
      refine q_iconst (v := -1) C dX12_ring_17 (by decide) ?_
      exact q_iret C hr hlk dX12_ring_18 hF
-- X12_rule
def F_X12_rule (n : Nat) (σ : PS) : Option (Int32 × PS) := (if (σ.1 249 2) = (6 : Int32) then some ((-1 : Int32), σ) else (if 0 ≤ ((psI σ 249 11 (σ.1 249 2)).1 249 11) ∧ ((psI σ 249 11 (σ.1 249 2)).1 249 11).toNatClampNeg < 6 then (F_X12_readsAll n (psI (psI σ 249 11 (σ.1 249 2)) 254 (((psI σ 249 11 (σ.1 249 2)).1 249 11).toNatClampNeg) (0 : Int32))).bind (fun q3 => (if q3.1 = 0 then some (((-2 : Int32) - (q3.2.1 249 9)), q3.2) else some ((((psI q3.2 249 2 ((q3.2.1 249 2) + (1 : Int32))).1 249 2) - (1 : Int32)), psI q3.2 249 2 ((q3.2.1 249 2) + (1 : Int32))))) else none))
theorem gm_X12_rule : gM "AskedCampModel" yX12_rule (Cond.code yX12_rule cX12_rule 1 (Option.some Jvm.ClassFile.FieldType.int)) 0 := ⟨by decide +kernel, tw_1196, tw_1197, tw_12, tw_1198⟩
set_option maxHeartbeats 4000000 in
set_option maxRecDepth 100000 in
theorem c_X12_rule (l : Launch) (D : va_G) (ad : Nat → Nat) (ca : Nat → ClassId) (kz : Nat → Nat) (hJ : pInj ad) (n : Nat) (σ : PS) (out : Int32 × PS) (hF : F_X12_rule n σ = some out) : Met l yX12_rule (Cond.code yX12_rule cX12_rule 1 (Option.some Jvm.ClassFile.FieldType.int) :: gw_tbl) { frames := 12, cells := 0, slots := 0, locals := 262 } (va_Pc [.ref (ad (249))] (pU D ad ca kz σ)) (pQi D ad ca out) 0 0 (pAD ad) := by
  refine q_entry (own := "AskedCampModel") hJ (by decide) rfl (Nat.le_of_ble_eq_true rfl) (fun p e s m below meth c C hr hlk => ?_)
  refine q_lv [(0, .ref (ad (249)))] rfl ?_
  rw [F_X12_rule] at hF
  refine q_aload_n C 0 dX12_rule_0 rfl rfl ?_
  refine qg_11_2 C pi_249 tw_1055 dX12_rule_1 ?_
  refine q_bipush (v := 6) C dX12_rule_4 (by decide) ?_
  refine q_icmp_ne (tgt := 11) C dX12_rule_6 (by decide) (fun c1 => ?_) (fun c1 => ?_)
  · replace hF := ife c1 hF
    refine q_aload_n C 0 dX12_rule_11 rfl rfl ?_
    refine q_aload_n C 0 dX12_rule_12 rfl rfl ?_
    refine qg_11_2 C pi_249 tw_1055 dX12_rule_13 ?_
    refine qs_11_11 C pi_249 tw_1064 dX12_rule_16 ?_
    refine q_aload_n C 0 dX12_rule_19 rfl rfl ?_
    refine qg_11_6 C pi_249 tw_1059 dX12_rule_20 ?_
    refine q_aload_n C 0 dX12_rule_23 rfl rfl ?_
    refine qg_11_11 C pi_249 tw_1064 dX12_rule_24 ?_
    refine q_iconst (v := 0) C dX12_rule_27 (by decide) ?_
    obtain ⟨g2, hF⟩ := grd hF
    refine q_iast C pa_254 (vp_of g2) dX12_rule_28 ?_
    refine q_aload_n C 0 dX12_rule_29 rfl rfl ?_
    obtain ⟨q3, h4, hF⟩ := bnd hF
    try dsimp only at hF
    refine q_callVi C [] (c_X12_readsAll l D ad ca kz C.2.2.2.2.2.2.1 _ _ _ h4) tw_1199 gm_X12_readsAll pi_249.1 (pe_11 pi_249.2) rfl ⟨rfl, rfl⟩ ⟨Nat.le_of_ble_eq_true rfl, Nat.le_of_ble_eq_true rfl⟩ rfl (Nat.le_of_ble_eq_true rfl) dX12_rule_30 q00 ?_
    refine q_if_ne (tgt := 44) C dX12_rule_33 (by decide) (fun c5 => ?_) (fun c5 => ?_)
    · replace hF := ife c5 hF
      refine q_aload_n C 0 dX12_rule_44 rfl rfl ?_
      refine q_dup C dX12_rule_45 rfl ?_
      refine qg_11_2 C pi_249 tw_1055 dX12_rule_46 ?_
      refine q_iconst (v := 1) C dX12_rule_49 (by decide) ?_
      refine q_iadd C dX12_rule_50 ?_
      refine qs_11_2 C pi_249 tw_1055 dX12_rule_51 ?_
      refine q_aload_n C 0 dX12_rule_54 rfl rfl ?_
      refine qg_11_2 C pi_249 tw_1055 dX12_rule_55 ?_
      refine q_iconst (v := 1) C dX12_rule_58 (by decide) ?_
      refine q_isub C dX12_rule_59 ?_
      exact q_iret C hr hlk dX12_rule_60 hF
    · replace hF := ift c5 hF
      refine q_bipush (v := -2) C dX12_rule_36 (by decide) ?_
      refine q_aload_n C 0 dX12_rule_38 rfl rfl ?_
      refine qg_11_9 C pi_249 tw_1062 dX12_rule_39 ?_
      refine q_isub C dX12_rule_42 ?_
      exact q_iret C hr hlk dX12_rule_43 hF
  · replace hF := ift c1 hF
    refine q_iconst (v := -1) C dX12_rule_9 (by decide) ?_
    exact q_iret C hr hlk dX12_rule_10 hF
-- X12_ruled
def L_X12_ruled_35 (n : Nat) : Nat → Int32 → Int32 → Int32 → Int32 → PS → Option (Int32 × Int32 × Int32 × PS)
  | 0, _, _, _, _, _ => none
  | k + 1, x1, x2, x3, x4, σ => (if x4 < 0 then some (x1, x2, x3, σ) else (if 0 ≤ x4 ∧ x4.toNatClampNeg < 7 then (if (σ.1 271 x4.toNatClampNeg) = 0 then L_X12_ruled_35 n k x1 x2 x3 (x4 + (-1)) σ else L_X12_ruled_35 n k x1 (x2 + 1) (x4 - (1 : Int32)) (x4 + (-1)) σ) else none))
def F_X12_ruled (n : Nat) (a1 : Int32) (σ : PS) : Option (Int32 × PS) := (F_X12_isCamp n σ).bind (fun q1 => (if q1.1 = 0 then some ((-3 : Int32), q1.2) else (F_X12_in n a1.toInt64 (0 : Int64) (1 : Int64) q1.2).bind (fun q4 => (if q4.1 = 0 then some ((-3 : Int32), q4.2) else (F_X12_fillsFits n q4.2).bind (fun q7 => (L_X12_ruled_35 n n a1 (0 : Int32) (-2 : Int32) (q7.1 249 2) q7).bind (fun o12 => (if o12.1 = 0 then some (o12.2.1, o12.2.2.2) else some (o12.2.2.1, o12.2.2.2))))))))
theorem gm_X12_ruled : gM "AskedCampModel" yX12_ruled (Cond.code yX12_ruled cX12_ruled 5 (Option.some Jvm.ClassFile.FieldType.int)) 1 := ⟨by decide +kernel, tw_1624, tw_1625, tw_12, tw_1626⟩
set_option maxHeartbeats 4000000 in
set_option maxRecDepth 100000 in
theorem l_X12_ruled_35 {p : Program} {l : Launch} {e : Env} {R : Room} {s : State} {m : MethodId} {args : Array Value} {below : List Frame} {meth : Method} {c : Code} {D : va_G} {ad : Nat → Nat} {ca : Nat → ClassId} {kz : Nat → Nat} {Q : State → Prop} (C : pC p s m args c cX12_ruled "AskedCampModel" 5 D ad ca kz) (hR : 8 ≤ R.frames ∧ 189 ≤ R.locals) {n : Nat} (o : Int32 × Int32 × Int32 × PS) (hx0 : PW p l e R s m args below meth c 5 D ad ca 0 0 Q (o.2.2.2) 67 [(1, .int o.1), (2, .int o.2.1), (3, .int o.2.2.1)] []) : ∀ (k : Nat) (x1 : Int32) (x2 : Int32) (x3 : Int32) (x4 : Int32) (σ : PS), L_X12_ruled_35 n k x1 x2 x3 x4 σ = some o → PW p l e R s m args below meth c 5 D ad ca 0 0 Q σ 35 [(0, .ref (ad (249))), (1, .int x1), (2, .int x2), (3, .int x3), (4, .int x4)] [] := by
  intro k
  induction k with
  | zero => intro x1 x2 x3 x4 σ hF; exact nomatch (show (none : Option (Int32 × Int32 × Int32 × PS)) = some o from hF)
  | succ k ih =>
    intro x1 x2 x3 x4 σ hF
    rw [L_X12_ruled_35] at hF
    refine q_iload C 4 dX12_ruled_35 rfl ?_
    refine q_if_lt (tgt := 67) C dX12_ruled_37 (by decide) (fun c9 => ?_) (fun c9 => ?_)
    · replace hF := ift c9 hF
      cases hF
      refine q_sub [1, 2, 3] rfl ?_
      exact hx0
    · replace hF := ife c9 hF
      refine q_aload_n C 0 dX12_ruled_40 rfl rfl ?_
      refine qg_11_36 C pi_249 tw_1089 dX12_ruled_41 ?_
      refine q_iload C 4 dX12_ruled_44 rfl ?_
      obtain ⟨g10, hF⟩ := grd hF
      refine q_zald C pa_271 (vp_of g10) dX12_ruled_46 ?_
      refine q_if_ne (tgt := 53) C dX12_ruled_47 (by decide) (fun c11 => ?_) (fun c11 => ?_)
      · replace hF := ife c11 hF
        refine q_iload C 4 dX12_ruled_53 rfl ?_
        refine q_iconst (v := 1) C dX12_ruled_55 (by decide) ?_
        refine q_isub C dX12_ruled_56 ?_
        refine q_istore_n C [(3, .int (x4 - (1 : Int32))), (0, .ref (ad (249))), (1, .int x1), (2, .int x2), (4, .int x4)] dX12_ruled_57 rfl (by decide) rfl ?_
        refine q_iinc C 3 [(2, .int (x2 + 1)), (3, .int (x4 - (1 : Int32))), (0, .ref (ad (249))), (1, .int x1), (4, .int x4)] dX12_ruled_58 rfl rfl (by decide) rfl ?_
        refine q_iinc C 4 [(4, .int (x4 + (-1))), (2, .int (x2 + 1)), (3, .int (x4 - (1 : Int32))), (0, .ref (ad (249))), (1, .int x1)] dX12_ruled_61 rfl rfl (by decide) rfl ?_
        refine q_goto (tgt := 35) C dX12_ruled_64 (by decide) ?_
        refine q_sub [3, 4, 1, 2, 0] rfl ?_
        exact ih _ _ _ _ _ hF
      · replace hF := ift c11 hF
        refine q_goto (tgt := 61) C dX12_ruled_50 (by decide) ?_
        refine q_iinc C 4 [(4, .int (x4 + (-1))), (0, .ref (ad (249))), (1, .int x1), (2, .int x2), (3, .int x3)] dX12_ruled_61 rfl rfl (by decide) rfl ?_
        refine q_goto (tgt := 35) C dX12_ruled_64 (by decide) ?_
        refine q_sub [1, 2, 3, 4, 0] rfl ?_
        exact ih _ _ _ _ _ hF
set_option maxHeartbeats 4000000 in
set_option maxRecDepth 100000 in
theorem c_X12_ruled (l : Launch) (D : va_G) (ad : Nat → Nat) (ca : Nat → ClassId) (kz : Nat → Nat) (hJ : pInj ad) (n : Nat) (a1 : Int32) (σ : PS) (out : Int32 × PS) (hF : F_X12_ruled n a1 σ = some out) : Met l yX12_ruled (Cond.code yX12_ruled cX12_ruled 5 (Option.some Jvm.ClassFile.FieldType.int) :: gw_tbl) { frames := 8, cells := 0, slots := 0, locals := 189 } (va_Pc [.ref (ad (249)), .int a1] (pU D ad ca kz σ)) (pQi D ad ca out) 0 0 (pAD ad) := by
  refine q_entry (own := "AskedCampModel") hJ (by decide) rfl (Nat.le_of_ble_eq_true rfl) (fun p e s m below meth c C hr hlk => ?_)
  refine q_lv [(0, .ref (ad (249))), (1, .int a1)] rfl ?_
  rw [F_X12_ruled] at hF
  refine q_aload_n C 0 dX12_ruled_0 rfl rfl ?_
  obtain ⟨q1, h2, hF⟩ := bnd hF
  try dsimp only at hF
  refine q_callVi C [] (c_X12_isCamp l D ad ca kz C.2.2.2.2.2.2.1 _ _ _ h2) tw_1403 gm_X12_isCamp pi_249.1 (pe_11 pi_249.2) rfl ⟨rfl, rfl⟩ ⟨Nat.le_of_ble_eq_true rfl, Nat.le_of_ble_eq_true rfl⟩ rfl (Nat.le_of_ble_eq_true rfl) dX12_ruled_1 q00 ?_
  refine q_if_eq (tgt := 17) C dX12_ruled_4 (by decide) (fun c3 => ?_) (fun c3 => ?_)
  · replace hF := ift c3 hF
    refine q_bipush (v := -3) C dX12_ruled_17 (by decide) ?_
    exact q_iret C hr hlk dX12_ruled_19 hF
  · replace hF := ife c3 hF
    refine q_iload_n C 1 dX12_ruled_7 rfl rfl ?_
    refine q_i2l C dX12_ruled_8 ?_
    refine q_lconst (v := 0) C dX12_ruled_9 (by decide) ?_
    refine q_lconst (v := 1) C dX12_ruled_10 (by decide) ?_
    obtain ⟨q4, h5, hF⟩ := bnd hF
    try dsimp only at hF
    refine q_callSi C [.long a1.toInt64, .long ((0 : Int64)), .long ((1 : Int64))] (c_X12_in l D ad ca kz C.2.2.2.2.2.2.1 _ _ _ _ _ _ h5) tw_1255 gm_X12_in ⟨rfl, rfl⟩ ⟨Nat.le_of_ble_eq_true rfl, Nat.le_of_ble_eq_true rfl⟩ rfl (Nat.le_of_ble_eq_true rfl) dX12_ruled_11 q00 ?_
    refine q_if_ne (tgt := 20) C dX12_ruled_14 (by decide) (fun c6 => ?_) (fun c6 => ?_)
    · replace hF := ife c6 hF
      refine q_aload_n C 0 dX12_ruled_20 rfl rfl ?_
      obtain ⟨q7, h8, hF⟩ := bnd hF
      try dsimp only at hF
      refine q_callVv C [] (c_X12_fillsFits l D ad ca kz C.2.2.2.2.2.2.1 _ _ _ h8) tw_1627 gm_X12_fillsFits pi_249.1 (pe_11 pi_249.2) rfl ⟨rfl, rfl⟩ ⟨Nat.le_of_ble_eq_true rfl, Nat.le_of_ble_eq_true rfl⟩ rfl (Nat.le_of_ble_eq_true rfl) dX12_ruled_21 q00 ?_
      refine q_iconst (v := 0) C dX12_ruled_24 (by decide) ?_
      refine q_istore_n C [(2, .int 0), (0, .ref (ad (249))), (1, .int a1)] dX12_ruled_25 rfl (by decide) rfl ?_
      refine q_bipush (v := -2) C dX12_ruled_26 (by decide) ?_
      refine q_istore_n C [(3, .int (-2)), (2, .int 0), (0, .ref (ad (249))), (1, .int a1)] dX12_ruled_28 rfl (by decide) rfl ?_
      refine q_aload_n C 2 dX12_ruled_29 rfl rfl ?_
      refine qg_11_2 C pi_249 tw_1055 dX12_ruled_30 ?_
      refine q_istore C [(4, .int (q7.1 249 2)), (3, .int (-2)), (2, .int 0), (0, .ref (ad (249))), (1, .int a1)] dX12_ruled_33 (by decide) rfl ?_
      obtain ⟨o12, h13, hF⟩ := bnd hF
      try dsimp only at hF
      refine q_sub [3, 4, 2, 1, 0] rfl ?_
      refine l_X12_ruled_35 C ⟨Nat.le_of_ble_eq_true rfl, Nat.le_of_ble_eq_true rfl⟩ o12 ?_ n _ _ _ _ _ h13
      refine q_iload_n C 0 dX12_ruled_67 rfl rfl ?_
      refine q_if_ne (tgt := 75) C dX12_ruled_68 (by decide) (fun c14 => ?_) (fun c14 => ?_)
      · replace hF := ife c14 hF
        refine q_iload_n C 2 dX12_ruled_75 rfl rfl ?_
        exact q_iret C hr hlk dX12_ruled_76 hF
      · replace hF := ift c14 hF
        refine q_iload_n C 1 dX12_ruled_71 rfl rfl ?_
        refine q_goto (tgt := 76) C dX12_ruled_72 (by decide) ?_
        exact q_iret C hr hlk dX12_ruled_76 hF
    · replace hF := ift c6 hF
      refine q_bipush (v := -3) C dX12_ruled_17 (by decide) ?_
      exact q_iret C hr hlk dX12_ruled_19 hF
-- X12_seed
def F_X12_seed (n : Nat) (a1 : Int32) (σ : PS) : Option (Int32 × PS) := (if 0 ≤ a1 then some ((σ.1 249 22), psI σ 249 22 a1) else some ((-1 : Int32), σ))
theorem gm_X12_seed : gM "AskedCampModel" yX12_seed (Cond.code yX12_seed cX12_seed 3 (Option.some Jvm.ClassFile.FieldType.int)) 1 := ⟨by decide +kernel, tw_1647, tw_1648, tw_12, tw_1649⟩
set_option maxHeartbeats 4000000 in
set_option maxRecDepth 100000 in
theorem c_X12_seed (l : Launch) (D : va_G) (ad : Nat → Nat) (ca : Nat → ClassId) (kz : Nat → Nat) (hJ : pInj ad) (n : Nat) (a1 : Int32) (σ : PS) (out : Int32 × PS) (hF : F_X12_seed n a1 σ = some out) : Met l yX12_seed (Cond.code yX12_seed cX12_seed 3 (Option.some Jvm.ClassFile.FieldType.int) :: gw_tbl) { frames := 0, cells := 0, slots := 0, locals := 0 } (va_Pc [.ref (ad (249)), .int a1] (pU D ad ca kz σ)) (pQi D ad ca out) 0 0 (pAD ad) := by
  refine q_entry (own := "AskedCampModel") hJ (by decide) rfl (Nat.le_of_ble_eq_true rfl) (fun p e s m below meth c C hr hlk => ?_)
  refine q_lv [(0, .ref (ad (249))), (1, .int a1)] rfl ?_
  rw [F_X12_seed] at hF
  refine q_iload_n C 1 dX12_seed_0 rfl rfl ?_
  refine q_if_ge (tgt := 6) C dX12_seed_1 (by decide) (fun c1 => ?_) (fun c1 => ?_)
  · replace hF := ift c1 hF
    refine q_aload_n C 0 dX12_seed_6 rfl rfl ?_
    refine qg_11_22 C pi_249 tw_1075 dX12_seed_7 ?_
    refine q_istore_n C [(2, .int (σ.1 249 22)), (0, .ref (ad (249))), (1, .int a1)] dX12_seed_10 rfl (by decide) rfl ?_
    refine q_aload_n C 1 dX12_seed_11 rfl rfl ?_
    refine q_iload_n C 2 dX12_seed_12 rfl rfl ?_
    refine qs_11_22 C pi_249 tw_1075 dX12_seed_13 ?_
    refine q_iload_n C 0 dX12_seed_16 rfl rfl ?_
    exact q_iret C hr hlk dX12_seed_17 hF
  · replace hF := ife c1 hF
    refine q_iconst (v := -1) C dX12_seed_4 (by decide) ?_
    exact q_iret C hr hlk dX12_seed_5 hF
-- X12_steady
def F_X12_steady (n : Nat) (a1 : Int32) (a2 : Int32) (σ : PS) : Option (Int32 × PS) := (F_X12_isTent n a1 σ).bind (fun q1 => (if q1.1 = 0 then some ((-1 : Int32), q1.2) else (F_X12_in n a2.toInt64 (1 : Int64) (9 : Int64) q1.2).bind (fun q4 => (if q4.1 = 0 then some ((-1 : Int32), q4.2) else (F_X12_keepsAct n q4.2).bind (fun q7 => (F_X12_nerveOf n a1 q7).bind (fun q9 => (if (q9.1 + a2) ≤ (99 : Int32) then (if 0 ≤ (((13 : Int32) + ((4 : Int32) * a1)) + (1 : Int32)) ∧ (((13 : Int32) + ((4 : Int32) * a1)) + (1 : Int32)).toNatClampNeg < 179 then (F_X12_nerveOf n a1 (psI q9.2 259 ((((13 : Int32) + ((4 : Int32) * a1)) + (1 : Int32)).toNatClampNeg) (q9.1 + a2))).bind (fun q13 => some (q13.1, q13.2)) else none) else (if 0 ≤ (((13 : Int32) + ((4 : Int32) * a1)) + (1 : Int32)) ∧ (((13 : Int32) + ((4 : Int32) * a1)) + (1 : Int32)).toNatClampNeg < 179 then (F_X12_nerveOf n a1 (psI q9.2 259 ((((13 : Int32) + ((4 : Int32) * a1)) + (1 : Int32)).toNatClampNeg) (99 : Int32))).bind (fun q16 => some (q16.1, q16.2)) else none))))))))
theorem gm_X12_steady : gM "AskedCampModel" yX12_steady (Cond.code yX12_steady cX12_steady 4 (Option.some Jvm.ClassFile.FieldType.int)) 2 := ⟨by decide +kernel, tw_1501, tw_1502, tw_12, tw_1503⟩
set_option maxHeartbeats 4000000 in
set_option maxRecDepth 100000 in
theorem c_X12_steady (l : Launch) (D : va_G) (ad : Nat → Nat) (ca : Nat → ClassId) (kz : Nat → Nat) (hJ : pInj ad) (n : Nat) (a1 : Int32) (a2 : Int32) (σ : PS) (out : Int32 × PS) (hF : F_X12_steady n a1 a2 σ = some out) : Met l yX12_steady (Cond.code yX12_steady cX12_steady 4 (Option.some Jvm.ClassFile.FieldType.int) :: gw_tbl) { frames := 1, cells := 0, slots := 0, locals := 25 } (va_Pc [.ref (ad (249)), .int a1, .int a2] (pU D ad ca kz σ)) (pQi D ad ca out) 0 0 (pAD ad) := by
  refine q_entry (own := "AskedCampModel") hJ (by decide) rfl (Nat.le_of_ble_eq_true rfl) (fun p e s m below meth c C hr hlk => ?_)
  refine q_lv [(0, .ref (ad (249))), (1, .int a1), (2, .int a2)] rfl ?_
  rw [F_X12_steady] at hF
  refine q_aload_n C 0 dX12_steady_0 rfl rfl ?_
  refine q_iload_n C 1 dX12_steady_1 rfl rfl ?_
  obtain ⟨q1, h2, hF⟩ := bnd hF
  try dsimp only at hF
  refine q_callVi C [.int a1] (c_X12_isTent l D ad ca kz C.2.2.2.2.2.2.1 _ _ _ _ h2) tw_1369 gm_X12_isTent pi_249.1 (pe_11 pi_249.2) rfl ⟨rfl, rfl⟩ ⟨Nat.le_of_ble_eq_true rfl, Nat.le_of_ble_eq_true rfl⟩ rfl (Nat.le_of_ble_eq_true rfl) dX12_steady_2 q00 ?_
  refine q_if_eq (tgt := 20) C dX12_steady_5 (by decide) (fun c3 => ?_) (fun c3 => ?_)
  · replace hF := ift c3 hF
    refine q_iconst (v := -1) C dX12_steady_20 (by decide) ?_
    exact q_iret C hr hlk dX12_steady_21 hF
  · replace hF := ife c3 hF
    refine q_iload_n C 2 dX12_steady_8 rfl rfl ?_
    refine q_i2l C dX12_steady_9 ?_
    refine q_lconst (v := 1) C dX12_steady_10 (by decide) ?_
    refine q_ldc2 C dX12_steady_11 tw_1504 ?_
    obtain ⟨q4, h5, hF⟩ := bnd hF
    try dsimp only at hF
    refine q_callSi C [.long a2.toInt64, .long ((1 : Int64)), .long ((9 : Int64))] (c_X12_in l D ad ca kz C.2.2.2.2.2.2.1 _ _ _ _ _ _ h5) tw_1255 gm_X12_in ⟨rfl, rfl⟩ ⟨Nat.le_of_ble_eq_true rfl, Nat.le_of_ble_eq_true rfl⟩ rfl (Nat.le_of_ble_eq_true rfl) dX12_steady_14 q00 ?_
    refine q_if_ne (tgt := 22) C dX12_steady_17 (by decide) (fun c6 => ?_) (fun c6 => ?_)
    · replace hF := ife c6 hF
      refine q_aload_n C 0 dX12_steady_22 rfl rfl ?_
      obtain ⟨q7, h8, hF⟩ := bnd hF
      try dsimp only at hF
      refine q_callVv C [] (c_X12_keepsAct l D ad ca kz C.2.2.2.2.2.2.1 _ _ _ h8) tw_1407 gm_X12_keepsAct pi_249.1 (pe_11 pi_249.2) rfl ⟨rfl, rfl⟩ ⟨Nat.le_of_ble_eq_true rfl, Nat.le_of_ble_eq_true rfl⟩ rfl (Nat.le_of_ble_eq_true rfl) dX12_steady_23 q00 ?_
      refine q_aload_n C 0 dX12_steady_26 rfl rfl ?_
      refine q_iload_n C 1 dX12_steady_27 rfl rfl ?_
      obtain ⟨q9, h10, hF⟩ := bnd hF
      try dsimp only at hF
      refine q_callVi C [.int a1] (c_X12_nerveOf l D ad ca kz C.2.2.2.2.2.2.1 _ _ _ _ h10) tw_1447 gm_X12_nerveOf pi_249.1 (pe_11 pi_249.2) rfl ⟨rfl, rfl⟩ ⟨Nat.le_of_ble_eq_true rfl, Nat.le_of_ble_eq_true rfl⟩ rfl (Nat.le_of_ble_eq_true rfl) dX12_steady_28 q00 ?_
      refine q_iload_n C 2 dX12_steady_31 rfl rfl ?_
      refine q_iadd C dX12_steady_32 ?_
      refine q_istore_n C [(3, .int (q9.1 + a2)), (0, .ref (ad (249))), (1, .int a1), (2, .int a2)] dX12_steady_33 rfl (by decide) rfl ?_
      refine q_aload_n C 1 dX12_steady_34 rfl rfl ?_
      refine qg_11_20 C pi_249 tw_1073 dX12_steady_35 ?_
      refine q_bipush (v := 13) C dX12_steady_38 (by decide) ?_
      refine q_iconst (v := 4) C dX12_steady_40 (by decide) ?_
      refine q_iload_n C 2 dX12_steady_41 rfl rfl ?_
      refine q_imul C dX12_steady_42 ?_
      refine q_iadd C dX12_steady_43 ?_
      refine q_iconst (v := 1) C dX12_steady_44 (by decide) ?_
      refine q_iadd C dX12_steady_45 ?_
      refine q_iload_n C 0 dX12_steady_46 rfl rfl ?_
      refine q_bipush (v := 99) C dX12_steady_47 (by decide) ?_
      refine q_icmp_le (tgt := 57) C dX12_steady_49 (by decide) (fun c11 => ?_) (fun c11 => ?_)
      · replace hF := ift c11 hF
        refine q_iload_n C 0 dX12_steady_57 rfl rfl ?_
        obtain ⟨g12, hF⟩ := grd hF
        refine q_iast C pa_259 (vp_of g12) dX12_steady_58 ?_
        refine q_aload_n C 1 dX12_steady_59 rfl rfl ?_
        refine q_iload_n C 2 dX12_steady_60 rfl rfl ?_
        obtain ⟨q13, h14, hF⟩ := bnd hF
        try dsimp only at hF
        refine q_callVi C [.int a1] (c_X12_nerveOf l D ad ca kz C.2.2.2.2.2.2.1 _ _ _ _ h14) tw_1447 gm_X12_nerveOf pi_249.1 (pe_11 pi_249.2) rfl ⟨rfl, rfl⟩ ⟨Nat.le_of_ble_eq_true rfl, Nat.le_of_ble_eq_true rfl⟩ rfl (Nat.le_of_ble_eq_true rfl) dX12_steady_61 q00 ?_
        exact q_iret C hr hlk dX12_steady_64 hF
      · replace hF := ife c11 hF
        refine q_bipush (v := 99) C dX12_steady_52 (by decide) ?_
        refine q_goto (tgt := 58) C dX12_steady_54 (by decide) ?_
        obtain ⟨g15, hF⟩ := grd hF
        refine q_iast C pa_259 (vp_of g15) dX12_steady_58 ?_
        refine q_aload_n C 1 dX12_steady_59 rfl rfl ?_
        refine q_iload_n C 2 dX12_steady_60 rfl rfl ?_
        obtain ⟨q16, h17, hF⟩ := bnd hF
        try dsimp only at hF
        refine q_callVi C [.int a1] (c_X12_nerveOf l D ad ca kz C.2.2.2.2.2.2.1 _ _ _ _ h17) tw_1447 gm_X12_nerveOf pi_249.1 (pe_11 pi_249.2) rfl ⟨rfl, rfl⟩ ⟨Nat.le_of_ble_eq_true rfl, Nat.le_of_ble_eq_true rfl⟩ rfl (Nat.le_of_ble_eq_true rfl) dX12_steady_61 q00 ?_
        exact q_iret C hr hlk dX12_steady_64 hF
    · replace hF := ift c6 hF
      refine q_iconst (v := -1) C dX12_steady_20 (by decide) ?_
      exact q_iret C hr hlk dX12_steady_21 hF
-- X12_step
def F_X12_step (n : Nat) (σ : PS) : Option (Int32 × PS) := (F_X12_isCamp n σ).bind (fun q1 => (if q1.1 = 0 then some ((-1 : Int32), q1.2) else (if (q1.2.1 259 10) = (999 : Int32) then some ((-1 : Int32), q1.2) else (F_X12_keepsAct n q1.2).bind (fun q5 => (F_X12_passes n q5).bind (fun q7 => some ((q7.2.1 259 11), q7.2))))))
theorem gm_X12_step : gM "AskedCampModel" yX12_step (Cond.code yX12_step cX12_step 1 (Option.some Jvm.ClassFile.FieldType.int)) 0 := ⟨by decide +kernel, tw_1400, tw_1401, tw_12, tw_1402⟩
set_option maxHeartbeats 4000000 in
set_option maxRecDepth 100000 in
theorem c_X12_step (l : Launch) (D : va_G) (ad : Nat → Nat) (ca : Nat → ClassId) (kz : Nat → Nat) (hJ : pInj ad) (n : Nat) (σ : PS) (out : Int32 × PS) (hF : F_X12_step n σ = some out) : Met l yX12_step (Cond.code yX12_step cX12_step 1 (Option.some Jvm.ClassFile.FieldType.int) :: gw_tbl) { frames := 7, cells := 0, slots := 0, locals := 166 } (va_Pc [.ref (ad (249))] (pU D ad ca kz σ)) (pQi D ad ca out) 0 0 (pAD ad) := by
  refine q_entry (own := "AskedCampModel") hJ (by decide) rfl (Nat.le_of_ble_eq_true rfl) (fun p e s m below meth c C hr hlk => ?_)
  refine q_lv [(0, .ref (ad (249)))] rfl ?_
  rw [F_X12_step] at hF
  refine q_aload_n C 0 dX12_step_0 rfl rfl ?_
  obtain ⟨q1, h2, hF⟩ := bnd hF
  try dsimp only at hF
  refine q_callVi C [] (c_X12_isCamp l D ad ca kz C.2.2.2.2.2.2.1 _ _ _ h2) tw_1403 gm_X12_isCamp pi_249.1 (pe_11 pi_249.2) rfl ⟨rfl, rfl⟩ ⟨Nat.le_of_ble_eq_true rfl, Nat.le_of_ble_eq_true rfl⟩ rfl (Nat.le_of_ble_eq_true rfl) dX12_step_1 q00 ?_
  refine q_if_eq (tgt := 20) C dX12_step_4 (by decide) (fun c3 => ?_) (fun c3 => ?_)
  · replace hF := ift c3 hF
    refine q_iconst (v := -1) C dX12_step_20 (by decide) ?_
    exact q_iret C hr hlk dX12_step_21 hF
  · replace hF := ife c3 hF
    refine q_aload_n C 0 dX12_step_7 rfl rfl ?_
    refine qg_11_20 C pi_249 tw_1073 dX12_step_8 ?_
    refine q_bipush (v := 10) C dX12_step_11 (by decide) ?_
    refine q_ialdk (jn := 10) C pa_259 (vp_of (by decide)) rfl dX12_step_13 ?_
    refine q_sipush (v := 999) C dX12_step_14 (by decide) ?_
    refine q_icmp_ne (tgt := 22) C dX12_step_17 (by decide) (fun c4 => ?_) (fun c4 => ?_)
    · replace hF := ife c4 hF
      refine q_aload_n C 0 dX12_step_22 rfl rfl ?_
      obtain ⟨q5, h6, hF⟩ := bnd hF
      try dsimp only at hF
      refine q_callVv C [] (c_X12_keepsAct l D ad ca kz C.2.2.2.2.2.2.1 _ _ _ h6) tw_1407 gm_X12_keepsAct pi_249.1 (pe_11 pi_249.2) rfl ⟨rfl, rfl⟩ ⟨Nat.le_of_ble_eq_true rfl, Nat.le_of_ble_eq_true rfl⟩ rfl (Nat.le_of_ble_eq_true rfl) dX12_step_23 q00 ?_
      refine q_aload_n C 0 dX12_step_26 rfl rfl ?_
      obtain ⟨q7, h8, hF⟩ := bnd hF
      try dsimp only at hF
      refine q_callVi C [] (c_X12_passes l D ad ca kz C.2.2.2.2.2.2.1 _ _ _ h8) tw_1411 gm_X12_passes pi_249.1 (pe_11 pi_249.2) rfl ⟨rfl, rfl⟩ ⟨Nat.le_of_ble_eq_true rfl, Nat.le_of_ble_eq_true rfl⟩ rfl (Nat.le_of_ble_eq_true rfl) dX12_step_27 q00 ?_
      refine q_pop C dX12_step_30 rfl ?_
      refine q_aload_n C 0 dX12_step_31 rfl rfl ?_
      refine qg_11_20 C pi_249 tw_1073 dX12_step_32 ?_
      refine q_bipush (v := 11) C dX12_step_35 (by decide) ?_
      refine q_ialdk (jn := 11) C pa_259 (vp_of (by decide)) rfl dX12_step_37 ?_
      exact q_iret C hr hlk dX12_step_38 hF
    · replace hF := ift c4 hF
      refine q_iconst (v := -1) C dX12_step_20 (by decide) ?_
      exact q_iret C hr hlk dX12_step_21 hF
-- X12_tent
def F_X12_tent (n : Nat) (a1 : Int32) (a2 : Int32) (σ : PS) : Option (Int32 × PS) := (F_X12_isTent n a1 σ).bind (fun q1 => (if q1.1 = 0 then some ((-1 : Int32), q1.2) else (F_X12_in n a2.toInt64 (0 : Int64) (3 : Int64) q1.2).bind (fun q4 => (if q4.1 = 0 then some ((-1 : Int32), q4.2) else (if 0 ≤ (((13 : Int32) + ((4 : Int32) * a1)) + a2) ∧ (((13 : Int32) + ((4 : Int32) * a1)) + a2).toNatClampNeg < 179 then some ((q4.2.1 259 ((((13 : Int32) + ((4 : Int32) * a1)) + a2).toNatClampNeg)), q4.2) else none)))))
theorem gm_X12_tent : gM "AskedCampModel" yX12_tent (Cond.code yX12_tent cX12_tent 3 (Option.some Jvm.ClassFile.FieldType.int)) 2 := ⟨by decide +kernel, tw_1366, tw_1367, tw_12, tw_1368⟩
set_option maxHeartbeats 4000000 in
set_option maxRecDepth 100000 in
theorem c_X12_tent (l : Launch) (D : va_G) (ad : Nat → Nat) (ca : Nat → ClassId) (kz : Nat → Nat) (hJ : pInj ad) (n : Nat) (a1 : Int32) (a2 : Int32) (σ : PS) (out : Int32 × PS) (hF : F_X12_tent n a1 a2 σ = some out) : Met l yX12_tent (Cond.code yX12_tent cX12_tent 3 (Option.some Jvm.ClassFile.FieldType.int) :: gw_tbl) { frames := 1, cells := 0, slots := 0, locals := 25 } (va_Pc [.ref (ad (249)), .int a1, .int a2] (pU D ad ca kz σ)) (pQi D ad ca out) 0 0 (pAD ad) := by
  refine q_entry (own := "AskedCampModel") hJ (by decide) rfl (Nat.le_of_ble_eq_true rfl) (fun p e s m below meth c C hr hlk => ?_)
  refine q_lv [(0, .ref (ad (249))), (1, .int a1), (2, .int a2)] rfl ?_
  rw [F_X12_tent] at hF
  refine q_aload_n C 0 dX12_tent_0 rfl rfl ?_
  refine q_iload_n C 1 dX12_tent_1 rfl rfl ?_
  obtain ⟨q1, h2, hF⟩ := bnd hF
  try dsimp only at hF
  refine q_callVi C [.int a1] (c_X12_isTent l D ad ca kz C.2.2.2.2.2.2.1 _ _ _ _ h2) tw_1369 gm_X12_isTent pi_249.1 (pe_11 pi_249.2) rfl ⟨rfl, rfl⟩ ⟨Nat.le_of_ble_eq_true rfl, Nat.le_of_ble_eq_true rfl⟩ rfl (Nat.le_of_ble_eq_true rfl) dX12_tent_2 q00 ?_
  refine q_if_eq (tgt := 36) C dX12_tent_5 (by decide) (fun c3 => ?_) (fun c3 => ?_)
  · replace hF := ift c3 hF
    refine q_iconst (v := -1) C dX12_tent_36 (by decide) ?_
    exact q_iret C hr hlk dX12_tent_37 hF
  · replace hF := ife c3 hF
    refine q_iload_n C 2 dX12_tent_8 rfl rfl ?_
    refine q_i2l C dX12_tent_9 ?_
    refine q_lconst (v := 0) C dX12_tent_10 (by decide) ?_
    refine q_ldc2 C dX12_tent_11 tw_1373 ?_
    obtain ⟨q4, h5, hF⟩ := bnd hF
    try dsimp only at hF
    refine q_callSi C [.long a2.toInt64, .long ((0 : Int64)), .long ((3 : Int64))] (c_X12_in l D ad ca kz C.2.2.2.2.2.2.1 _ _ _ _ _ _ h5) tw_1255 gm_X12_in ⟨rfl, rfl⟩ ⟨Nat.le_of_ble_eq_true rfl, Nat.le_of_ble_eq_true rfl⟩ rfl (Nat.le_of_ble_eq_true rfl) dX12_tent_14 q00 ?_
    refine q_if_eq (tgt := 36) C dX12_tent_17 (by decide) (fun c6 => ?_) (fun c6 => ?_)
    · replace hF := ift c6 hF
      refine q_iconst (v := -1) C dX12_tent_36 (by decide) ?_
      exact q_iret C hr hlk dX12_tent_37 hF
    · replace hF := ife c6 hF
      refine q_aload_n C 0 dX12_tent_20 rfl rfl ?_
      refine qg_11_20 C pi_249 tw_1073 dX12_tent_21 ?_
      refine q_bipush (v := 13) C dX12_tent_24 (by decide) ?_
      refine q_iconst (v := 4) C dX12_tent_26 (by decide) ?_
      refine q_iload_n C 1 dX12_tent_27 rfl rfl ?_
      refine q_imul C dX12_tent_28 ?_
      refine q_iadd C dX12_tent_29 ?_
      refine q_iload_n C 2 dX12_tent_30 rfl rfl ?_
      refine q_iadd C dX12_tent_31 ?_
      obtain ⟨g7, hF⟩ := grd hF
      refine q_iald C pa_259 (vp_of g7) dX12_tent_32 ?_
      refine q_goto (tgt := 37) C dX12_tent_33 (by decide) ?_
      exact q_iret C hr hlk dX12_tent_37 hF
-- X12_undo
def L_X12_undo_21 (n : Nat) : Nat → Int32 → PS → Option (PS)
  | 0, _, _ => none
  | k + 1, x1, σ => (if (99 : Int32) ≤ x1 then some σ else (if 0 ≤ (((99 : Int32) * (σ.1 249 26)) + x1) ∧ (((99 : Int32) * (σ.1 249 26)) + x1).toNatClampNeg < 1980 then (if 0 ≤ ((10 : Int32) + x1) ∧ ((10 : Int32) + x1).toNatClampNeg < 179 then L_X12_undo_21 n k (x1 + 1) (psI σ 259 (((10 : Int32) + x1).toNatClampNeg) (σ.1 262 ((((99 : Int32) * (σ.1 249 26)) + x1).toNatClampNeg))) else none) else none))
def F_X12_undo (n : Nat) (σ : PS) : Option (Int32 × PS) := (if (σ.1 249 26) = 0 then some ((-1 : Int32), σ) else (L_X12_undo_21 n n (0 : Int32) (psI σ 249 26 ((σ.1 249 26) - (1 : Int32)))).bind (fun o5 => some ((o5.1 249 26), o5)))
theorem gm_X12_undo : gM "AskedCampModel" yX12_undo (Cond.code yX12_undo cX12_undo 2 (Option.some Jvm.ClassFile.FieldType.int)) 0 := ⟨by decide +kernel, tw_1396, tw_1397, tw_12, tw_1398⟩
set_option maxHeartbeats 4000000 in
set_option maxRecDepth 100000 in
theorem l_X12_undo_21 {p : Program} {l : Launch} {e : Env} {R : Room} {s : State} {m : MethodId} {args : Array Value} {below : List Frame} {meth : Method} {c : Code} {D : va_G} {ad : Nat → Nat} {ca : Nat → ClassId} {kz : Nat → Nat} {Q : State → Prop} (C : pC p s m args c cX12_undo "AskedCampModel" 2 D ad ca kz) (hR : 0 ≤ R.frames ∧ 0 ≤ R.locals) {n : Nat} (o : PS) (hx0 : PW p l e R s m args below meth c 2 D ad ca 0 0 Q (o) 56 [(0, .ref (ad (249)))] []) : ∀ (k : Nat) (x1 : Int32) (σ : PS), L_X12_undo_21 n k x1 σ = some o → PW p l e R s m args below meth c 2 D ad ca 0 0 Q σ 21 [(0, .ref (ad (249))), (1, .int x1)] [] := by
  intro k
  induction k with
  | zero => intro x1 σ hF; exact nomatch (show (none : Option (PS)) = some o from hF)
  | succ k ih =>
    intro x1 σ hF
    rw [L_X12_undo_21] at hF
    refine q_iload_n C 1 dX12_undo_21 rfl rfl ?_
    refine q_bipush (v := 99) C dX12_undo_22 (by decide) ?_
    refine q_icmp_ge (tgt := 56) C dX12_undo_24 (by decide) (fun c2 => ?_) (fun c2 => ?_)
    · replace hF := ift c2 hF
      cases hF
      refine q_sub [0] rfl ?_
      exact hx0
    · replace hF := ife c2 hF
      refine q_aload_n C 0 dX12_undo_27 rfl rfl ?_
      refine qg_11_20 C pi_249 tw_1073 dX12_undo_28 ?_
      refine q_bipush (v := 10) C dX12_undo_31 (by decide) ?_
      refine q_iload_n C 1 dX12_undo_33 rfl rfl ?_
      refine q_iadd C dX12_undo_34 ?_
      refine q_aload_n C 0 dX12_undo_35 rfl rfl ?_
      refine qg_11_25 C pi_249 tw_1078 dX12_undo_36 ?_
      refine q_bipush (v := 99) C dX12_undo_39 (by decide) ?_
      refine q_aload_n C 0 dX12_undo_41 rfl rfl ?_
      refine qg_11_26 C pi_249 tw_1079 dX12_undo_42 ?_
      refine q_imul C dX12_undo_45 ?_
      refine q_iload_n C 1 dX12_undo_46 rfl rfl ?_
      refine q_iadd C dX12_undo_47 ?_
      obtain ⟨g3, hF⟩ := grd hF
      refine q_iald C pa_262 (vp_of g3) dX12_undo_48 ?_
      obtain ⟨g4, hF⟩ := grd hF
      refine q_iast C pa_259 (vp_of g4) dX12_undo_49 ?_
      refine q_iinc C 1 [(1, .int (x1 + 1)), (0, .ref (ad (249)))] dX12_undo_50 rfl rfl (by decide) rfl ?_
      refine q_goto (tgt := 21) C dX12_undo_53 (by decide) ?_
      refine q_sub [1, 0] rfl ?_
      exact ih _ _ hF
set_option maxHeartbeats 4000000 in
set_option maxRecDepth 100000 in
theorem c_X12_undo (l : Launch) (D : va_G) (ad : Nat → Nat) (ca : Nat → ClassId) (kz : Nat → Nat) (hJ : pInj ad) (n : Nat) (σ : PS) (out : Int32 × PS) (hF : F_X12_undo n σ = some out) : Met l yX12_undo (Cond.code yX12_undo cX12_undo 2 (Option.some Jvm.ClassFile.FieldType.int) :: gw_tbl) { frames := 0, cells := 0, slots := 0, locals := 0 } (va_Pc [.ref (ad (249))] (pU D ad ca kz σ)) (pQi D ad ca out) 0 0 (pAD ad) := by
  refine q_entry (own := "AskedCampModel") hJ (by decide) rfl (Nat.le_of_ble_eq_true rfl) (fun p e s m below meth c C hr hlk => ?_)
  refine q_lv [(0, .ref (ad (249)))] rfl ?_
  rw [F_X12_undo] at hF
  refine q_aload_n C 0 dX12_undo_0 rfl rfl ?_
  refine qg_11_26 C pi_249 tw_1079 dX12_undo_1 ?_
  refine q_if_ne (tgt := 9) C dX12_undo_4 (by decide) (fun c1 => ?_) (fun c1 => ?_)
  · replace hF := ife c1 hF
    refine q_aload_n C 0 dX12_undo_9 rfl rfl ?_
    refine q_dup C dX12_undo_10 rfl ?_
    refine qg_11_26 C pi_249 tw_1079 dX12_undo_11 ?_
    refine q_iconst (v := 1) C dX12_undo_14 (by decide) ?_
    refine q_isub C dX12_undo_15 ?_
    refine qs_11_26 C pi_249 tw_1079 dX12_undo_16 ?_
    refine q_iconst (v := 0) C dX12_undo_19 (by decide) ?_
    refine q_istore_n C [(1, .int 0), (0, .ref (ad (249)))] dX12_undo_20 rfl (by decide) rfl ?_
    obtain ⟨o5, h6, hF⟩ := bnd hF
    try dsimp only at hF
    refine q_sub [1, 0] rfl ?_
    refine l_X12_undo_21 C ⟨Nat.le_of_ble_eq_true rfl, Nat.le_of_ble_eq_true rfl⟩ o5 ?_ n _ _ h6
    refine q_aload_n C 0 dX12_undo_56 rfl rfl ?_
    refine qg_11_26 C pi_249 tw_1079 dX12_undo_57 ?_
    exact q_iret C hr hlk dX12_undo_60 hF
  · replace hF := ift c1 hF
    refine q_iconst (v := -1) C dX12_undo_7 (by decide) ?_
    exact q_iret C hr hlk dX12_undo_8 hF
-- X12_wake
def L_X12_wake_48 (n : Nat) : Nat → Int32 → Int32 → Int32 → Int32 → Int32 → PS → Option (Int32 × Int32 × Int32 × PS)
  | 0, _, _, _, _, _, _ => none
  | k + 1, x1, x2, x3, x4, x5, σ => (if (σ.1 259 2) ≤ x5 then some (x2, x3, x4, σ) else (if 0 ≤ (((13 : Int32) + ((4 : Int32) * x5)) + (2 : Int32)) ∧ (((13 : Int32) + ((4 : Int32) * x5)) + (2 : Int32)).toNatClampNeg < 179 then (F_X12_newIn n x1 (psI σ 259 ((((13 : Int32) + ((4 : Int32) * x5)) + (2 : Int32)).toNatClampNeg) ((σ.1 259 ((((13 : Int32) + ((4 : Int32) * x5)) + (2 : Int32)).toNatClampNeg)) + (1 : Int32)))).bind (fun q16 => (if x4 < q16.1 then L_X12_wake_48 n k x1 x2 x5 q16.1 (x5 + 1) q16.2 else L_X12_wake_48 n k x1 x2 x3 x4 (x5 + 1) q16.2)) else none))
def F_X12_wake (n : Nat) (a1 : Int32) (a2 : Int32) (σ : PS) : Option (Int32 × PS) := (F_X12_isCamp n σ).bind (fun q1 => (if q1.1 = 0 then some ((-2 : Int32), q1.2) else (F_X12_in n a1.toInt64 (1 : Int64) (30 : Int64) q1.2).bind (fun q4 => (if q4.1 = 0 then some ((-2 : Int32), q4.2) else (F_X12_in n a2.toInt64 (0 : Int64) (1 : Int64) q4.2).bind (fun q7 => (if q7.1 = 0 then some ((-2 : Int32), q7.2) else (F_X12_keeps n q7.2).bind (fun q10 => (F_X12_newIn n a1 q10).bind (fun q12 => (L_X12_wake_48 n n a1 a2 (-1 : Int32) q12.1 (0 : Int32) q12.2).bind (fun o19 => (if o19.1 = 0 then some (o19.2.1, o19.2.2.2) else some (o19.2.2.1, o19.2.2.2)))))))))))
theorem gm_X12_wake : gM "AskedCampModel" yX12_wake (Cond.code yX12_wake cX12_wake 7 (Option.some Jvm.ClassFile.FieldType.int)) 2 := ⟨by decide +kernel, tw_1573, tw_1574, tw_12, tw_1575⟩
set_option maxHeartbeats 4000000 in
set_option maxRecDepth 100000 in
theorem l_X12_wake_48 {p : Program} {l : Launch} {e : Env} {R : Room} {s : State} {m : MethodId} {args : Array Value} {below : List Frame} {meth : Method} {c : Code} {D : va_G} {ad : Nat → Nat} {ca : Nat → ClassId} {kz : Nat → Nat} {Q : State → Prop} (C : pC p s m args c cX12_wake "AskedCampModel" 7 D ad ca kz) (hR : 9 ≤ R.frames ∧ 212 ≤ R.locals) {n : Nat} (o : Int32 × Int32 × Int32 × PS) (hx0 : PW p l e R s m args below meth c 7 D ad ca 0 0 Q (o.2.2.2) 107 [(2, .int o.1), (3, .int o.2.1), (4, .int o.2.2.1)] []) : ∀ (k : Nat) (x1 : Int32) (x2 : Int32) (x3 : Int32) (x4 : Int32) (x5 : Int32) (σ : PS), L_X12_wake_48 n k x1 x2 x3 x4 x5 σ = some o → PW p l e R s m args below meth c 7 D ad ca 0 0 Q σ 48 [(0, .ref (ad (249))), (1, .int x1), (2, .int x2), (3, .int x3), (4, .int x4), (5, .int x5)] [] := by
  intro k
  induction k with
  | zero => intro x1 x2 x3 x4 x5 σ hF; exact nomatch (show (none : Option (Int32 × Int32 × Int32 × PS)) = some o from hF)
  | succ k ih =>
    intro x1 x2 x3 x4 x5 σ hF
    rw [L_X12_wake_48] at hF
    refine q_iload C 5 dX12_wake_48 rfl ?_
    refine q_aload_n C 0 dX12_wake_50 rfl rfl ?_
    refine qg_11_20 C pi_249 tw_1073 dX12_wake_51 ?_
    refine q_iconst (v := 2) C dX12_wake_54 (by decide) ?_
    refine q_ialdk (jn := 2) C pa_259 (vp_of (by decide)) rfl dX12_wake_55 ?_
    refine q_icmp_ge (tgt := 107) C dX12_wake_56 (by decide) (fun c14 => ?_) (fun c14 => ?_)
    · replace hF := ift c14 hF
      cases hF
      refine q_sub [2, 3, 4] rfl ?_
      exact hx0
    · replace hF := ife c14 hF
      refine q_aload_n C 0 dX12_wake_59 rfl rfl ?_
      refine qg_11_20 C pi_249 tw_1073 dX12_wake_60 ?_
      refine q_bipush (v := 13) C dX12_wake_63 (by decide) ?_
      refine q_iconst (v := 4) C dX12_wake_65 (by decide) ?_
      refine q_iload C 5 dX12_wake_66 rfl ?_
      refine q_imul C dX12_wake_68 ?_
      refine q_iadd C dX12_wake_69 ?_
      refine q_iconst (v := 2) C dX12_wake_70 (by decide) ?_
      refine q_iadd C dX12_wake_71 ?_
      refine q_dup2 C dX12_wake_72 rfl rfl ?_
      obtain ⟨g15, hF⟩ := grd hF
      refine q_iald C pa_259 (vp_of g15) dX12_wake_73 ?_
      refine q_iconst (v := 1) C dX12_wake_74 (by decide) ?_
      refine q_iadd C dX12_wake_75 ?_
      refine q_iast C pa_259 (vp_of g15) dX12_wake_76 ?_
      refine q_aload_n C 0 dX12_wake_77 rfl rfl ?_
      refine q_iload_n C 1 dX12_wake_78 rfl rfl ?_
      obtain ⟨q16, h17, hF⟩ := bnd hF
      try dsimp only at hF
      refine q_callVi C [.int x1] (c_X12_newIn l D ad ca kz C.2.2.2.2.2.2.1 _ _ _ _ h17) tw_1576 gm_X12_newIn pi_249.1 (pe_11 pi_249.2) rfl ⟨rfl, rfl⟩ ⟨Nat.le_trans (Nat.le_of_ble_eq_true rfl) hR.1, Nat.le_trans (Nat.le_of_ble_eq_true rfl) hR.2⟩ rfl (Nat.le_of_ble_eq_true rfl) dX12_wake_79 q00 ?_
      refine q_istore C [(6, .int q16.1), (0, .ref (ad (249))), (1, .int x1), (2, .int x2), (3, .int x3), (4, .int x4), (5, .int x5)] dX12_wake_82 (by decide) rfl ?_
      refine q_iload C 0 dX12_wake_84 rfl ?_
      refine q_iload C 5 dX12_wake_86 rfl ?_
      refine q_icmp_gt (tgt := 94) C dX12_wake_88 (by decide) (fun c18 => ?_) (fun c18 => ?_)
      · replace hF := ift c18 hF
        refine q_iload C 6 dX12_wake_94 rfl ?_
        refine q_istore_n C [(3, .int x5), (6, .int q16.1), (0, .ref (ad (249))), (1, .int x1), (2, .int x2), (4, .int x4), (5, .int x5)] dX12_wake_96 rfl (by decide) rfl ?_
        refine q_iload C 1 dX12_wake_97 rfl ?_
        refine q_istore C [(4, .int q16.1), (3, .int x5), (6, .int q16.1), (0, .ref (ad (249))), (1, .int x1), (2, .int x2), (5, .int x5)] dX12_wake_99 (by decide) rfl ?_
        refine q_iinc C 6 [(5, .int (x5 + 1)), (4, .int q16.1), (3, .int x5), (6, .int q16.1), (0, .ref (ad (249))), (1, .int x1), (2, .int x2)] dX12_wake_101 rfl rfl (by decide) rfl ?_
        refine q_goto (tgt := 48) C dX12_wake_104 (by decide) ?_
        refine q_sub [4, 5, 6, 2, 1, 0] rfl ?_
        exact ih _ _ _ _ _ _ hF
      · replace hF := ife c18 hF
        refine q_goto (tgt := 101) C dX12_wake_91 (by decide) ?_
        refine q_iinc C 6 [(5, .int (x5 + 1)), (6, .int q16.1), (0, .ref (ad (249))), (1, .int x1), (2, .int x2), (3, .int x3), (4, .int x4)] dX12_wake_101 rfl rfl (by decide) rfl ?_
        refine q_goto (tgt := 48) C dX12_wake_104 (by decide) ?_
        refine q_sub [2, 3, 4, 5, 6, 0] rfl ?_
        exact ih _ _ _ _ _ _ hF
set_option maxHeartbeats 4000000 in
set_option maxRecDepth 100000 in
theorem c_X12_wake (l : Launch) (D : va_G) (ad : Nat → Nat) (ca : Nat → ClassId) (kz : Nat → Nat) (hJ : pInj ad) (n : Nat) (a1 : Int32) (a2 : Int32) (σ : PS) (out : Int32 × PS) (hF : F_X12_wake n a1 a2 σ = some out) : Met l yX12_wake (Cond.code yX12_wake cX12_wake 7 (Option.some Jvm.ClassFile.FieldType.int) :: gw_tbl) { frames := 9, cells := 0, slots := 0, locals := 212 } (va_Pc [.ref (ad (249)), .int a1, .int a2] (pU D ad ca kz σ)) (pQi D ad ca out) 0 0 (pAD ad) := by
  refine q_entry (own := "AskedCampModel") hJ (by decide) rfl (Nat.le_of_ble_eq_true rfl) (fun p e s m below meth c C hr hlk => ?_)
  refine q_lv [(0, .ref (ad (249))), (1, .int a1), (2, .int a2)] rfl ?_
  rw [F_X12_wake] at hF
  refine q_aload_n C 0 dX12_wake_0 rfl rfl ?_
  obtain ⟨q1, h2, hF⟩ := bnd hF
  try dsimp only at hF
  refine q_callVi C [] (c_X12_isCamp l D ad ca kz C.2.2.2.2.2.2.1 _ _ _ h2) tw_1403 gm_X12_isCamp pi_249.1 (pe_11 pi_249.2) rfl ⟨rfl, rfl⟩ ⟨Nat.le_of_ble_eq_true rfl, Nat.le_of_ble_eq_true rfl⟩ rfl (Nat.le_of_ble_eq_true rfl) dX12_wake_1 q00 ?_
  refine q_if_eq (tgt := 29) C dX12_wake_4 (by decide) (fun c3 => ?_) (fun c3 => ?_)
  · replace hF := ift c3 hF
    refine q_bipush (v := -2) C dX12_wake_29 (by decide) ?_
    exact q_iret C hr hlk dX12_wake_31 hF
  · replace hF := ife c3 hF
    refine q_iload_n C 1 dX12_wake_7 rfl rfl ?_
    refine q_i2l C dX12_wake_8 ?_
    refine q_lconst (v := 1) C dX12_wake_9 (by decide) ?_
    refine q_ldc2 C dX12_wake_10 tw_1571 ?_
    obtain ⟨q4, h5, hF⟩ := bnd hF
    try dsimp only at hF
    refine q_callSi C [.long a1.toInt64, .long ((1 : Int64)), .long ((30 : Int64))] (c_X12_in l D ad ca kz C.2.2.2.2.2.2.1 _ _ _ _ _ _ h5) tw_1255 gm_X12_in ⟨rfl, rfl⟩ ⟨Nat.le_of_ble_eq_true rfl, Nat.le_of_ble_eq_true rfl⟩ rfl (Nat.le_of_ble_eq_true rfl) dX12_wake_13 q00 ?_
    refine q_if_eq (tgt := 29) C dX12_wake_16 (by decide) (fun c6 => ?_) (fun c6 => ?_)
    · replace hF := ift c6 hF
      refine q_bipush (v := -2) C dX12_wake_29 (by decide) ?_
      exact q_iret C hr hlk dX12_wake_31 hF
    · replace hF := ife c6 hF
      refine q_iload_n C 2 dX12_wake_19 rfl rfl ?_
      refine q_i2l C dX12_wake_20 ?_
      refine q_lconst (v := 0) C dX12_wake_21 (by decide) ?_
      refine q_lconst (v := 1) C dX12_wake_22 (by decide) ?_
      obtain ⟨q7, h8, hF⟩ := bnd hF
      try dsimp only at hF
      refine q_callSi C [.long a2.toInt64, .long ((0 : Int64)), .long ((1 : Int64))] (c_X12_in l D ad ca kz C.2.2.2.2.2.2.1 _ _ _ _ _ _ h8) tw_1255 gm_X12_in ⟨rfl, rfl⟩ ⟨Nat.le_of_ble_eq_true rfl, Nat.le_of_ble_eq_true rfl⟩ rfl (Nat.le_of_ble_eq_true rfl) dX12_wake_23 q00 ?_
      refine q_if_ne (tgt := 32) C dX12_wake_26 (by decide) (fun c9 => ?_) (fun c9 => ?_)
      · replace hF := ife c9 hF
        refine q_aload_n C 0 dX12_wake_32 rfl rfl ?_
        obtain ⟨q10, h11, hF⟩ := bnd hF
        try dsimp only at hF
        refine q_callVv C [] (c_X12_keeps l D ad ca kz C.2.2.2.2.2.2.1 _ _ _ h11) tw_1514 gm_X12_keeps pi_249.1 (pe_11 pi_249.2) rfl ⟨rfl, rfl⟩ ⟨Nat.le_of_ble_eq_true rfl, Nat.le_of_ble_eq_true rfl⟩ rfl (Nat.le_of_ble_eq_true rfl) dX12_wake_33 q00 ?_
        refine q_iconst (v := -1) C dX12_wake_36 (by decide) ?_
        refine q_istore_n C [(3, .int (-1)), (0, .ref (ad (249))), (1, .int a1), (2, .int a2)] dX12_wake_37 rfl (by decide) rfl ?_
        refine q_aload_n C 1 dX12_wake_38 rfl rfl ?_
        refine q_iload_n C 2 dX12_wake_39 rfl rfl ?_
        obtain ⟨q12, h13, hF⟩ := bnd hF
        try dsimp only at hF
        refine q_callVi C [.int a1] (c_X12_newIn l D ad ca kz C.2.2.2.2.2.2.1 _ _ _ _ h13) tw_1576 gm_X12_newIn pi_249.1 (pe_11 pi_249.2) rfl ⟨rfl, rfl⟩ ⟨Nat.le_of_ble_eq_true rfl, Nat.le_of_ble_eq_true rfl⟩ rfl (Nat.le_of_ble_eq_true rfl) dX12_wake_40 q00 ?_
        refine q_istore C [(4, .int q12.1), (3, .int (-1)), (0, .ref (ad (249))), (1, .int a1), (2, .int a2)] dX12_wake_43 (by decide) rfl ?_
        refine q_iconst (v := 0) C dX12_wake_45 (by decide) ?_
        refine q_istore C [(5, .int 0), (4, .int q12.1), (3, .int (-1)), (0, .ref (ad (249))), (1, .int a1), (2, .int a2)] dX12_wake_46 (by decide) rfl ?_
        obtain ⟨o19, h20, hF⟩ := bnd hF
        try dsimp only at hF
        refine q_sub [3, 4, 5, 2, 1, 0] rfl ?_
        refine l_X12_wake_48 C ⟨Nat.le_of_ble_eq_true rfl, Nat.le_of_ble_eq_true rfl⟩ o19 ?_ n _ _ _ _ _ _ h20
        refine q_iload_n C 0 dX12_wake_107 rfl rfl ?_
        refine q_if_ne (tgt := 115) C dX12_wake_108 (by decide) (fun c21 => ?_) (fun c21 => ?_)
        · replace hF := ife c21 hF
          refine q_iload C 2 dX12_wake_115 rfl ?_
          exact q_iret C hr hlk dX12_wake_117 hF
        · replace hF := ift c21 hF
          refine q_iload_n C 1 dX12_wake_111 rfl rfl ?_
          refine q_goto (tgt := 117) C dX12_wake_112 (by decide) ?_
          exact q_iret C hr hlk dX12_wake_117 hF
      · replace hF := ift c9 hF
        refine q_bipush (v := -2) C dX12_wake_29 (by decide) ?_
        exact q_iret C hr hlk dX12_wake_31 hF
