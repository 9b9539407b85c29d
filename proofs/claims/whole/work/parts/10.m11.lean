-- X12_isGoHere
def F_X12_isGoHere (n : Nat) (σ : PS) : Option (Int32 × PS) := (F_X12_passWord n σ).bind (fun q1 => (if 0 ≤ (q1.1 249 11) ∧ (q1.1 249 11).toNatClampNeg < 6 then (if 0 ≤ (q1.1 249 11) ∧ (q1.1 249 11).toNatClampNeg < 7 then (if 0 ≤ (((48 : Int32) * (q1.1 249 11)) + ((4 : Int32) * (q1.1 254 ((q1.1 249 11).toNatClampNeg)))) ∧ (((48 : Int32) * (q1.1 249 11)) + ((4 : Int32) * (q1.1 254 ((q1.1 249 11).toNatClampNeg)))).toNatClampNeg < 288 then (F_X12_sum n (psI q1 253 ((((48 : Int32) * (q1.1 249 11)) + ((4 : Int32) * (q1.1 254 ((q1.1 249 11).toNatClampNeg)))).toNatClampNeg) (q1.1 252 ((q1.1 249 11).toNatClampNeg)))).bind (fun q6 => (if q6.1 = 0 then some ((0 : Int32), q6.2) else (if 0 ≤ (q6.2.1 249 11) ∧ (q6.2.1 249 11).toNatClampNeg < 7 then (if 0 ≤ ((((48 : Int32) * (q1.1 249 11)) + ((4 : Int32) * (q1.1 254 ((q1.1 249 11).toNatClampNeg)))) + (1 : Int32)) ∧ ((((48 : Int32) * (q1.1 249 11)) + ((4 : Int32) * (q1.1 254 ((q1.1 249 11).toNatClampNeg)))) + (1 : Int32)).toNatClampNeg < 288 then (if 0 ≤ ((((48 : Int32) * (q1.1 249 11)) + ((4 : Int32) * (q1.1 254 ((q1.1 249 11).toNatClampNeg)))) + (2 : Int32)) ∧ ((((48 : Int32) * (q1.1 249 11)) + ((4 : Int32) * (q1.1 254 ((q1.1 249 11).toNatClampNeg)))) + (2 : Int32)).toNatClampNeg < 288 then (F_X12_takesWord n (26982 : Int64) (psI (psI q6.2 253 (((((48 : Int32) * (q1.1 249 11)) + ((4 : Int32) * (q1.1 254 ((q1.1 249 11).toNatClampNeg)))) + (1 : Int32)).toNatClampNeg) (q6.2.1 252 ((q6.2.1 249 11).toNatClampNeg))) 253 (((((48 : Int32) * (q1.1 249 11)) + ((4 : Int32) * (q1.1 254 ((q1.1 249 11).toNatClampNeg)))) + (2 : Int32)).toNatClampNeg) (-1 : Int32))).bind (fun q12 => (if q12.1 = 0 then (if 0 ≤ (q12.2.1 249 11) ∧ (q12.2.1 249 11).toNatClampNeg < 7 then (if 0 ≤ ((((48 : Int32) * (q1.1 249 11)) + ((4 : Int32) * (q1.1 254 ((q1.1 249 11).toNatClampNeg)))) + (3 : Int32)) ∧ ((((48 : Int32) * (q1.1 249 11)) + ((4 : Int32) * (q1.1 254 ((q1.1 249 11).toNatClampNeg)))) + (3 : Int32)).toNatClampNeg < 288 then (if 0 ≤ ((psI q12.2 253 (((((48 : Int32) * (q1.1 249 11)) + ((4 : Int32) * (q1.1 254 ((q1.1 249 11).toNatClampNeg)))) + (3 : Int32)).toNatClampNeg) (q12.2.1 252 ((q12.2.1 249 11).toNatClampNeg))).1 249 11) ∧ ((psI q12.2 253 (((((48 : Int32) * (q1.1 249 11)) + ((4 : Int32) * (q1.1 254 ((q1.1 249 11).toNatClampNeg)))) + (3 : Int32)).toNatClampNeg) (q12.2.1 252 ((q12.2.1 249 11).toNatClampNeg))).1 249 11).toNatClampNeg < 6 then some ((1 : Int32), psI (psI q12.2 253 (((((48 : Int32) * (q1.1 249 11)) + ((4 : Int32) * (q1.1 254 ((q1.1 249 11).toNatClampNeg)))) + (3 : Int32)).toNatClampNeg) (q12.2.1 252 ((q12.2.1 249 11).toNatClampNeg))) 254 (((psI q12.2 253 (((((48 : Int32) * (q1.1 249 11)) + ((4 : Int32) * (q1.1 254 ((q1.1 249 11).toNatClampNeg)))) + (3 : Int32)).toNatClampNeg) (q12.2.1 252 ((q12.2.1 249 11).toNatClampNeg))).1 249 11).toNatClampNeg) (((psI q12.2 253 (((((48 : Int32) * (q1.1 249 11)) + ((4 : Int32) * (q1.1 254 ((q1.1 249 11).toNatClampNeg)))) + (3 : Int32)).toNatClampNeg) (q12.2.1 252 ((q12.2.1 249 11).toNatClampNeg))).1 254 (((psI q12.2 253 (((((48 : Int32) * (q1.1 249 11)) + ((4 : Int32) * (q1.1 254 ((q1.1 249 11).toNatClampNeg)))) + (3 : Int32)).toNatClampNeg) (q12.2.1 252 ((q12.2.1 249 11).toNatClampNeg))).1 249 11).toNatClampNeg)) + (1 : Int32))) else none) else none) else none) else (if 0 ≤ (q12.2.1 249 11) ∧ (q12.2.1 249 11).toNatClampNeg < 7 then (F_X12_tested n (psI q12.2 253 (((((48 : Int32) * (q1.1 249 11)) + ((4 : Int32) * (q1.1 254 ((q1.1 249 11).toNatClampNeg)))) + (2 : Int32)).toNatClampNeg) (q12.2.1 252 ((q12.2.1 249 11).toNatClampNeg)))).bind (fun q19 => (if q19.1 = 0 then some ((0 : Int32), q19.2) else (if 0 ≤ (q19.2.1 249 11) ∧ (q19.2.1 249 11).toNatClampNeg < 7 then (if 0 ≤ ((((48 : Int32) * (q1.1 249 11)) + ((4 : Int32) * (q1.1 254 ((q1.1 249 11).toNatClampNeg)))) + (3 : Int32)) ∧ ((((48 : Int32) * (q1.1 249 11)) + ((4 : Int32) * (q1.1 254 ((q1.1 249 11).toNatClampNeg)))) + (3 : Int32)).toNatClampNeg < 288 then (if 0 ≤ ((psI q19.2 253 (((((48 : Int32) * (q1.1 249 11)) + ((4 : Int32) * (q1.1 254 ((q1.1 249 11).toNatClampNeg)))) + (3 : Int32)).toNatClampNeg) (q19.2.1 252 ((q19.2.1 249 11).toNatClampNeg))).1 249 11) ∧ ((psI q19.2 253 (((((48 : Int32) * (q1.1 249 11)) + ((4 : Int32) * (q1.1 254 ((q1.1 249 11).toNatClampNeg)))) + (3 : Int32)).toNatClampNeg) (q19.2.1 252 ((q19.2.1 249 11).toNatClampNeg))).1 249 11).toNatClampNeg < 6 then some ((1 : Int32), psI (psI q19.2 253 (((((48 : Int32) * (q1.1 249 11)) + ((4 : Int32) * (q1.1 254 ((q1.1 249 11).toNatClampNeg)))) + (3 : Int32)).toNatClampNeg) (q19.2.1 252 ((q19.2.1 249 11).toNatClampNeg))) 254 (((psI q19.2 253 (((((48 : Int32) * (q1.1 249 11)) + ((4 : Int32) * (q1.1 254 ((q1.1 249 11).toNatClampNeg)))) + (3 : Int32)).toNatClampNeg) (q19.2.1 252 ((q19.2.1 249 11).toNatClampNeg))).1 249 11).toNatClampNeg) (((psI q19.2 253 (((((48 : Int32) * (q1.1 249 11)) + ((4 : Int32) * (q1.1 254 ((q1.1 249 11).toNatClampNeg)))) + (3 : Int32)).toNatClampNeg) (q19.2.1 252 ((q19.2.1 249 11).toNatClampNeg))).1 254 (((psI q19.2 253 (((((48 : Int32) * (q1.1 249 11)) + ((4 : Int32) * (q1.1 254 ((q1.1 249 11).toNatClampNeg)))) + (3 : Int32)).toNatClampNeg) (q19.2.1 252 ((q19.2.1 249 11).toNatClampNeg))).1 249 11).toNatClampNeg)) + (1 : Int32))) else none) else none) else none))) else none))) else none) else none) else none))) else none) else none) else none))
theorem gm_X12_isGoHere : gM "AskedCampModel" yX12_isGoHere (Cond.code yX12_isGoHere cX12_isGoHere 2 (Option.some Jvm.ClassFile.FieldType.boolean)) 0 := ⟨by decide +kernel, tw_1272, tw_p42, tw_12, tw_1273⟩
set_option maxHeartbeats 4000000 in
set_option maxRecDepth 100000 in
theorem c_X12_isGoHere (l : Launch) (D : va_G) (ad : Nat → Nat) (ca : Nat → ClassId) (kz : Nat → Nat) (hJ : pInj ad) (n : Nat) (σ : PS) (out : Int32 × PS) (hF : F_X12_isGoHere n σ = some out) : Met l yX12_isGoHere (Cond.code yX12_isGoHere cX12_isGoHere 2 (Option.some Jvm.ClassFile.FieldType.boolean) :: gw_tbl) { frames := 9, cells := 0, slots := 0, locals := 198 } (va_Pc [.ref (ad (249))] (pU D ad ca kz σ)) (pQi D ad ca out) 0 0 (pAD ad) := by
  refine q_entry (own := "AskedCampModel") hJ (by decide) rfl (Nat.le_of_ble_eq_true rfl) (fun p e s m below meth c C hr hlk => ?_)
  refine q_lv [(0, .ref (ad (249)))] rfl ?_
  rw [F_X12_isGoHere] at hF
  refine q_aload_n C 0 dX12_isGoHere_0 rfl rfl ?_
  obtain ⟨q1, h2, hF⟩ := bnd hF
  try dsimp only at hF
  refine q_callVv C [] (c_X12_passWord l D ad ca kz C.2.2.2.2.2.2.1 _ _ _ h2) tw_1239 gm_X12_passWord pi_249.1 (pe_11 pi_249.2) rfl ⟨rfl, rfl⟩ ⟨Nat.le_of_ble_eq_true rfl, Nat.le_of_ble_eq_true rfl⟩ rfl (Nat.le_of_ble_eq_true rfl) dX12_isGoHere_1 q00 ?_
  refine q_bipush (v := 48) C dX12_isGoHere_4 (by decide) ?_
  refine q_aload_n C 0 dX12_isGoHere_6 rfl rfl ?_
  refine qg_11_11 C pi_249 tw_1064 dX12_isGoHere_7 ?_
  refine q_imul C dX12_isGoHere_10 ?_
  refine q_iconst (v := 4) C dX12_isGoHere_11 (by decide) ?_
  refine q_aload_n C 0 dX12_isGoHere_12 rfl rfl ?_
  refine qg_11_6 C pi_249 tw_1059 dX12_isGoHere_13 ?_
  refine q_aload_n C 0 dX12_isGoHere_16 rfl rfl ?_
  refine qg_11_11 C pi_249 tw_1064 dX12_isGoHere_17 ?_
  obtain ⟨g3, hF⟩ := grd hF
  refine q_iald C pa_254 (vp_of g3) dX12_isGoHere_20 ?_
  refine q_imul C dX12_isGoHere_21 ?_
  refine q_iadd C dX12_isGoHere_22 ?_
  refine q_istore_n C [(1, .int (((48 : Int32) * (q1.1 249 11)) + ((4 : Int32) * (q1.1 254 ((q1.1 249 11).toNatClampNeg))))), (0, .ref (ad (249)))] dX12_isGoHere_23 rfl (by decide) rfl ?_
  refine q_aload_n C 1 dX12_isGoHere_24 rfl rfl ?_
  refine qg_11_5 C pi_249 tw_1058 dX12_isGoHere_25 ?_
  refine q_iload_n C 0 dX12_isGoHere_28 rfl rfl ?_
  refine q_aload_n C 1 dX12_isGoHere_29 rfl rfl ?_
  refine qg_11_4 C pi_249 tw_1057 dX12_isGoHere_30 ?_
  refine q_aload_n C 1 dX12_isGoHere_33 rfl rfl ?_
  refine qg_11_11 C pi_249 tw_1064 dX12_isGoHere_34 ?_
  obtain ⟨g4, hF⟩ := grd hF
  refine q_iald C pa_252 (vp_of g4) dX12_isGoHere_37 ?_
  obtain ⟨g5, hF⟩ := grd hF
  refine q_iast C pa_253 (vp_of g5) dX12_isGoHere_38 ?_
  refine q_aload_n C 1 dX12_isGoHere_39 rfl rfl ?_
  obtain ⟨q6, h7, hF⟩ := bnd hF
  try dsimp only at hF
  refine q_callVi C [] (c_X12_sum l D ad ca kz C.2.2.2.2.2.2.1 _ _ _ h7) tw_1274 gm_X12_sum pi_249.1 (pe_11 pi_249.2) rfl ⟨rfl, rfl⟩ ⟨Nat.le_of_ble_eq_true rfl, Nat.le_of_ble_eq_true rfl⟩ rfl (Nat.le_of_ble_eq_true rfl) dX12_isGoHere_40 q00 ?_
  refine q_if_ne (tgt := 48) C dX12_isGoHere_43 (by decide) (fun c8 => ?_) (fun c8 => ?_)
  · replace hF := ife c8 hF
    refine q_aload_n C 1 dX12_isGoHere_48 rfl rfl ?_
    refine qg_11_5 C pi_249 tw_1058 dX12_isGoHere_49 ?_
    refine q_iload_n C 0 dX12_isGoHere_52 rfl rfl ?_
    refine q_iconst (v := 1) C dX12_isGoHere_53 (by decide) ?_
    refine q_iadd C dX12_isGoHere_54 ?_
    refine q_aload_n C 1 dX12_isGoHere_55 rfl rfl ?_
    refine qg_11_4 C pi_249 tw_1057 dX12_isGoHere_56 ?_
    refine q_aload_n C 1 dX12_isGoHere_59 rfl rfl ?_
    refine qg_11_11 C pi_249 tw_1064 dX12_isGoHere_60 ?_
    obtain ⟨g9, hF⟩ := grd hF
    refine q_iald C pa_252 (vp_of g9) dX12_isGoHere_63 ?_
    obtain ⟨g10, hF⟩ := grd hF
    refine q_iast C pa_253 (vp_of g10) dX12_isGoHere_64 ?_
    refine q_aload_n C 1 dX12_isGoHere_65 rfl rfl ?_
    refine qg_11_5 C pi_249 tw_1058 dX12_isGoHere_66 ?_
    refine q_iload_n C 0 dX12_isGoHere_69 rfl rfl ?_
    refine q_iconst (v := 2) C dX12_isGoHere_70 (by decide) ?_
    refine q_iadd C dX12_isGoHere_71 ?_
    refine q_iconst (v := -1) C dX12_isGoHere_72 (by decide) ?_
    obtain ⟨g11, hF⟩ := grd hF
    refine q_iast C pa_253 (vp_of g11) dX12_isGoHere_73 ?_
    refine q_aload_n C 1 dX12_isGoHere_74 rfl rfl ?_
    refine q_ldc2 C dX12_isGoHere_75 tw_1310 ?_
    obtain ⟨q12, h13, hF⟩ := bnd hF
    try dsimp only at hF
    refine q_callVi C [.long ((26982 : Int64))] (c_X12_takesWord l D ad ca kz C.2.2.2.2.2.2.1 _ _ _ _ h13) tw_1311 gm_X12_takesWord pi_249.1 (pe_11 pi_249.2) rfl ⟨rfl, rfl⟩ ⟨Nat.le_of_ble_eq_true rfl, Nat.le_of_ble_eq_true rfl⟩ rfl (Nat.le_of_ble_eq_true rfl) dX12_isGoHere_78 q00 ?_
    refine q_if_eq (tgt := 110) C dX12_isGoHere_81 (by decide) (fun c14 => ?_) (fun c14 => ?_)
    · replace hF := ift c14 hF
      refine q_aload_n C 1 dX12_isGoHere_110 rfl rfl ?_
      refine qg_11_5 C pi_249 tw_1058 dX12_isGoHere_111 ?_
      refine q_iload_n C 0 dX12_isGoHere_114 rfl rfl ?_
      refine q_iconst (v := 3) C dX12_isGoHere_115 (by decide) ?_
      refine q_iadd C dX12_isGoHere_116 ?_
      refine q_aload_n C 1 dX12_isGoHere_117 rfl rfl ?_
      refine qg_11_4 C pi_249 tw_1057 dX12_isGoHere_118 ?_
      refine q_aload_n C 1 dX12_isGoHere_121 rfl rfl ?_
      refine qg_11_11 C pi_249 tw_1064 dX12_isGoHere_122 ?_
      obtain ⟨g15, hF⟩ := grd hF
      refine q_iald C pa_252 (vp_of g15) dX12_isGoHere_125 ?_
      obtain ⟨g16, hF⟩ := grd hF
      refine q_iast C pa_253 (vp_of g16) dX12_isGoHere_126 ?_
      refine q_aload_n C 1 dX12_isGoHere_127 rfl rfl ?_
      refine qg_11_6 C pi_249 tw_1059 dX12_isGoHere_128 ?_
      refine q_aload_n C 1 dX12_isGoHere_131 rfl rfl ?_
      refine qg_11_11 C pi_249 tw_1064 dX12_isGoHere_132 ?_
      refine q_dup2 C dX12_isGoHere_135 rfl rfl ?_
      obtain ⟨g17, hF⟩ := grd hF
      refine q_iald C pa_254 (vp_of g17) dX12_isGoHere_136 ?_
      refine q_iconst (v := 1) C dX12_isGoHere_137 (by decide) ?_
      refine q_iadd C dX12_isGoHere_138 ?_
      refine q_iast C pa_254 (vp_of g17) dX12_isGoHere_139 ?_
      refine q_iconst (v := 1) C dX12_isGoHere_140 (by decide) ?_
      exact q_zret C hr hlk dX12_isGoHere_141 (by decide) hF
    · replace hF := ife c14 hF
      refine q_aload_n C 1 dX12_isGoHere_84 rfl rfl ?_
      refine qg_11_5 C pi_249 tw_1058 dX12_isGoHere_85 ?_
      refine q_iload_n C 0 dX12_isGoHere_88 rfl rfl ?_
      refine q_iconst (v := 2) C dX12_isGoHere_89 (by decide) ?_
      refine q_iadd C dX12_isGoHere_90 ?_
      refine q_aload_n C 1 dX12_isGoHere_91 rfl rfl ?_
      refine qg_11_4 C pi_249 tw_1057 dX12_isGoHere_92 ?_
      refine q_aload_n C 1 dX12_isGoHere_95 rfl rfl ?_
      refine qg_11_11 C pi_249 tw_1064 dX12_isGoHere_96 ?_
      obtain ⟨g18, hF⟩ := grd hF
      refine q_iald C pa_252 (vp_of g18) dX12_isGoHere_99 ?_
      refine q_iast C pa_253 (vp_of g11) dX12_isGoHere_100 ?_
      refine q_aload_n C 1 dX12_isGoHere_101 rfl rfl ?_
      obtain ⟨q19, h20, hF⟩ := bnd hF
      try dsimp only at hF
      refine q_callVi C [] (c_X12_tested l D ad ca kz C.2.2.2.2.2.2.1 _ _ _ h20) tw_1315 gm_X12_tested pi_249.1 (pe_11 pi_249.2) rfl ⟨rfl, rfl⟩ ⟨Nat.le_of_ble_eq_true rfl, Nat.le_of_ble_eq_true rfl⟩ rfl (Nat.le_of_ble_eq_true rfl) dX12_isGoHere_102 q00 ?_
      refine q_if_ne (tgt := 110) C dX12_isGoHere_105 (by decide) (fun c21 => ?_) (fun c21 => ?_)
      · replace hF := ife c21 hF
        refine q_aload_n C 1 dX12_isGoHere_110 rfl rfl ?_
        refine qg_11_5 C pi_249 tw_1058 dX12_isGoHere_111 ?_
        refine q_iload_n C 0 dX12_isGoHere_114 rfl rfl ?_
        refine q_iconst (v := 3) C dX12_isGoHere_115 (by decide) ?_
        refine q_iadd C dX12_isGoHere_116 ?_
        refine q_aload_n C 1 dX12_isGoHere_117 rfl rfl ?_
        refine qg_11_4 C pi_249 tw_1057 dX12_isGoHere_118 ?_
        refine q_aload_n C 1 dX12_isGoHere_121 rfl rfl ?_
        refine qg_11_11 C pi_249 tw_1064 dX12_isGoHere_122 ?_
        obtain ⟨g22, hF⟩ := grd hF
        refine q_iald C pa_252 (vp_of g22) dX12_isGoHere_125 ?_
        obtain ⟨g23, hF⟩ := grd hF
        refine q_iast C pa_253 (vp_of g23) dX12_isGoHere_126 ?_
        refine q_aload_n C 1 dX12_isGoHere_127 rfl rfl ?_
        refine qg_11_6 C pi_249 tw_1059 dX12_isGoHere_128 ?_
        refine q_aload_n C 1 dX12_isGoHere_131 rfl rfl ?_
        refine qg_11_11 C pi_249 tw_1064 dX12_isGoHere_132 ?_
        refine q_dup2 C dX12_isGoHere_135 rfl rfl ?_
        obtain ⟨g24, hF⟩ := grd hF
        refine q_iald C pa_254 (vp_of g24) dX12_isGoHere_136 ?_
        refine q_iconst (v := 1) C dX12_isGoHere_137 (by decide) ?_
        refine q_iadd C dX12_isGoHere_138 ?_
        refine q_iast C pa_254 (vp_of g24) dX12_isGoHere_139 ?_
        refine q_iconst (v := 1) C dX12_isGoHere_140 (by decide) ?_
        exact q_zret C hr hlk dX12_isGoHere_141 (by decide) hF
      · replace hF := ift c21 hF
        refine q_iconst (v := 0) C dX12_isGoHere_108 (by decide) ?_
        exact q_zret C hr hlk dX12_isGoHere_109 (by decide) hF
  · replace hF := ift c8 hF
    refine q_iconst (v := 0) C dX12_isGoHere_46 (by decide) ?_
    exact q_zret C hr hlk dX12_isGoHere_47 (by decide) hF
-- X12_clauseHere
def J_X12_clauseHere_56 (n : Nat) (x1 : Int32) (x2 : Int32) (σ : PS) : Option (Int32 × PS) := (if x2 = 0 then (if (σ.1 249 14) = (12 : Int32) then (F_X12_fails n (4 : Int32) x1 σ).bind (fun q17 => (if q17.1 = 0 ∨ q17.1 = 1 then some (q17.1, q17.2) else none)) else (if x2 = 0 then (F_X12_isGoHere n (psI σ 249 14 ((σ.1 249 14) + (1 : Int32)))).bind (fun q11 => (if q11.1 = 0 ∨ q11.1 = 1 then some (q11.1, q11.2) else none)) else (F_X12_campLineHere n x1 (psI σ 249 14 ((σ.1 249 14) + (1 : Int32)))).bind (fun q14 => (if q14.1 = 0 ∨ q14.1 = 1 then some (q14.1, q14.2) else none)))) else (if (σ.1 249 14) = (40 : Int32) then (F_X12_fails n (4 : Int32) x1 σ).bind (fun q28 => (if q28.1 = 0 ∨ q28.1 = 1 then some (q28.1, q28.2) else none)) else (if x2 = 0 then (F_X12_isGoHere n (psI σ 249 14 ((σ.1 249 14) + (1 : Int32)))).bind (fun q22 => (if q22.1 = 0 ∨ q22.1 = 1 then some (q22.1, q22.2) else none)) else (F_X12_campLineHere n x1 (psI σ 249 14 ((σ.1 249 14) + (1 : Int32)))).bind (fun q25 => (if q25.1 = 0 ∨ q25.1 = 1 then some (q25.1, q25.2) else none)))))
def F_X12_clauseHere (n : Nat) (σ : PS) : Option (Int32 × PS) := (F_X12_see n σ).bind (fun q1 => (if (q1.2.1 249 11) = (6 : Int32) then (if (1 : Int32) = 0 then (F_X12_isWord n (26479 : Int64) q1.2).bind (fun q41 => (if q41.1 = 0 then (F_X12_fails n (0 : Int32) (q1.2.1 249 8) q41.2).bind (fun q44 => (if q44.1 = 0 ∨ q44.1 = 1 then some (q44.1, q44.2) else none)) else J_X12_clauseHere_56 n (q1.2.1 249 8) (1 : Int32) q41.2)) else (F_X12_isCampWord n q1.2).bind (fun q47 => (if q47.1 = 0 then (F_X12_fails n (0 : Int32) (q1.2.1 249 8) q47.2).bind (fun q50 => (if q50.1 = 0 ∨ q50.1 = 1 then some (q50.1, q50.2) else none)) else J_X12_clauseHere_56 n (q1.2.1 249 8) (1 : Int32) q47.2))) else (if (0 : Int32) = 0 then (F_X12_isWord n (26479 : Int64) q1.2).bind (fun q5 => (if q5.1 = 0 then (F_X12_fails n (0 : Int32) (q1.2.1 249 8) q5.2).bind (fun q31 => (if q31.1 = 0 ∨ q31.1 = 1 then some (q31.1, q31.2) else none)) else J_X12_clauseHere_56 n (q1.2.1 249 8) (0 : Int32) q5.2)) else (F_X12_isCampWord n q1.2).bind (fun q34 => (if q34.1 = 0 then (F_X12_fails n (0 : Int32) (q1.2.1 249 8) q34.2).bind (fun q37 => (if q37.1 = 0 ∨ q37.1 = 1 then some (q37.1, q37.2) else none)) else J_X12_clauseHere_56 n (q1.2.1 249 8) (0 : Int32) q34.2)))))
theorem gm_X12_clauseHere : gM "AskedCampModel" yX12_clauseHere (Cond.code yX12_clauseHere cX12_clauseHere 3 (Option.some Jvm.ClassFile.FieldType.boolean)) 0 := ⟨by decide +kernel, tw_1205, tw_p27, tw_12, tw_1206⟩
set_option maxHeartbeats 4000000 in
set_option maxRecDepth 100000 in
theorem j_X12_clauseHere_56 {p : Program} {l : Launch} {e : Env} {R : Room} {s : State} {m : MethodId} {args : Array Value} {below : List Frame} {meth : Method} {c : Code} {D : va_G} {ad : Nat → Nat} {ca : Nat → ClassId} {kz : Nat → Nat} (C : pC p s m args c cX12_clauseHere "AskedCampModel" 3 D ad ca kz) (hr : meth.sig.returnType = (Option.some Jvm.ClassFile.FieldType.boolean)) (hlk : meth.locks = false) (hR : 10 ≤ R.frames ∧ 219 ≤ R.locals) {n : Nat} (x1 : Int32) (x2 : Int32) (σ : PS) (out : Int32 × PS) (hF : J_X12_clauseHere_56 n x1 x2 σ = some out) : PW p l e R s m args below meth c 3 D ad ca 0 0 (MQ below (pQi D ad ca out) args s 0 0 (pAD ad)) σ 56 [(0, .ref (ad (249))), (1, .int x1), (2, .int x2)] [] := by
  rw [J_X12_clauseHere_56] at hF
  refine q_aload_n C 0 dX12_clauseHere_56 rfl rfl ?_
  refine qg_11_14 C pi_249 tw_1067 dX12_clauseHere_57 ?_
  refine q_iload_n C 2 dX12_clauseHere_60 rfl rfl ?_
  refine q_if_eq (tgt := 69) C dX12_clauseHere_61 (by decide) (fun c8 => ?_) (fun c8 => ?_)
  · replace hF := ift c8 hF
    refine q_bipush (v := 12) C dX12_clauseHere_69 (by decide) ?_
    refine q_icmp_ne (tgt := 81) C dX12_clauseHere_71 (by decide) (fun c9 => ?_) (fun c9 => ?_)
    · replace hF := ife c9 hF
      refine q_aload_n C 0 dX12_clauseHere_81 rfl rfl ?_
      refine q_dup C dX12_clauseHere_82 rfl ?_
      refine qg_11_14 C pi_249 tw_1067 dX12_clauseHere_83 ?_
      refine q_iconst (v := 1) C dX12_clauseHere_86 (by decide) ?_
      refine q_iadd C dX12_clauseHere_87 ?_
      refine qs_11_14 C pi_249 tw_1067 dX12_clauseHere_88 ?_
      refine q_iload_n C 2 dX12_clauseHere_91 rfl rfl ?_
      refine q_if_eq (tgt := 103) C dX12_clauseHere_92 (by decide) (fun c10 => ?_) (fun c10 => ?_)
      · replace hF := ift c10 hF
        refine q_aload_n C 0 dX12_clauseHere_103 rfl rfl ?_
        obtain ⟨q11, h12, hF⟩ := bnd hF
        try dsimp only at hF
        refine q_callVi C [] (c_X12_isGoHere l D ad ca kz C.2.2.2.2.2.2.1 _ _ _ h12) tw_1270 gm_X12_isGoHere pi_249.1 (pe_11 pi_249.2) rfl ⟨rfl, rfl⟩ ⟨Nat.le_trans (Nat.le_of_ble_eq_true rfl) hR.1, Nat.le_trans (Nat.le_of_ble_eq_true rfl) hR.2⟩ rfl (Nat.le_of_ble_eq_true rfl) dX12_clauseHere_104 q00 ?_
        obtain ⟨g13, hF⟩ := grd hF
        exact q_zret C hr hlk dX12_clauseHere_107 g13 hF
      · replace hF := ife c10 hF
        refine q_aload_n C 0 dX12_clauseHere_95 rfl rfl ?_
        refine q_iload_n C 1 dX12_clauseHere_96 rfl rfl ?_
        obtain ⟨q14, h15, hF⟩ := bnd hF
        try dsimp only at hF
        refine q_callVi C [.int x1] (c_X12_campLineHere l D ad ca kz C.2.2.2.2.2.2.1 _ _ _ _ h15) tw_1231 gm_X12_campLineHere pi_249.1 (pe_11 pi_249.2) rfl ⟨rfl, rfl⟩ ⟨Nat.le_trans (Nat.le_of_ble_eq_true rfl) hR.1, Nat.le_trans (Nat.le_of_ble_eq_true rfl) hR.2⟩ rfl (Nat.le_of_ble_eq_true rfl) dX12_clauseHere_97 q00 ?_
        refine q_goto (tgt := 107) C dX12_clauseHere_100 (by decide) ?_
        obtain ⟨g16, hF⟩ := grd hF
        exact q_zret C hr hlk dX12_clauseHere_107 g16 hF
    · replace hF := ift c9 hF
      refine q_aload_n C 0 dX12_clauseHere_74 rfl rfl ?_
      refine q_iconst (v := 4) C dX12_clauseHere_75 (by decide) ?_
      refine q_iload_n C 1 dX12_clauseHere_76 rfl rfl ?_
      obtain ⟨q17, h18, hF⟩ := bnd hF
      try dsimp only at hF
      refine q_callVi C [.int 4, .int x1] (c_X12_fails l D ad ca kz C.2.2.2.2.2.2.1 _ _ _ _ _ h18) tw_1227 gm_X12_fails pi_249.1 (pe_11 pi_249.2) rfl ⟨rfl, rfl⟩ ⟨Nat.le_trans (Nat.le_of_ble_eq_true rfl) hR.1, Nat.le_trans (Nat.le_of_ble_eq_true rfl) hR.2⟩ rfl (Nat.le_of_ble_eq_true rfl) dX12_clauseHere_77 q00 ?_
      obtain ⟨g19, hF⟩ := grd hF
      exact q_zret C hr hlk dX12_clauseHere_80 g19 hF
  · replace hF := ife c8 hF
    refine q_bipush (v := 40) C dX12_clauseHere_64 (by decide) ?_
    refine q_goto (tgt := 71) C dX12_clauseHere_66 (by decide) ?_
    refine q_icmp_ne (tgt := 81) C dX12_clauseHere_71 (by decide) (fun c20 => ?_) (fun c20 => ?_)
    · replace hF := ife c20 hF
      refine q_aload_n C 0 dX12_clauseHere_81 rfl rfl ?_
      refine q_dup C dX12_clauseHere_82 rfl ?_
      refine qg_11_14 C pi_249 tw_1067 dX12_clauseHere_83 ?_
      refine q_iconst (v := 1) C dX12_clauseHere_86 (by decide) ?_
      refine q_iadd C dX12_clauseHere_87 ?_
      refine qs_11_14 C pi_249 tw_1067 dX12_clauseHere_88 ?_
      refine q_iload_n C 2 dX12_clauseHere_91 rfl rfl ?_
      refine q_if_eq (tgt := 103) C dX12_clauseHere_92 (by decide) (fun c21 => ?_) (fun c21 => ?_)
      · replace hF := ift c21 hF
        refine q_aload_n C 0 dX12_clauseHere_103 rfl rfl ?_
        obtain ⟨q22, h23, hF⟩ := bnd hF
        try dsimp only at hF
        refine q_callVi C [] (c_X12_isGoHere l D ad ca kz C.2.2.2.2.2.2.1 _ _ _ h23) tw_1270 gm_X12_isGoHere pi_249.1 (pe_11 pi_249.2) rfl ⟨rfl, rfl⟩ ⟨Nat.le_trans (Nat.le_of_ble_eq_true rfl) hR.1, Nat.le_trans (Nat.le_of_ble_eq_true rfl) hR.2⟩ rfl (Nat.le_of_ble_eq_true rfl) dX12_clauseHere_104 q00 ?_
        obtain ⟨g24, hF⟩ := grd hF
        exact q_zret C hr hlk dX12_clauseHere_107 g24 hF
      · replace hF := ife c21 hF
        refine q_aload_n C 0 dX12_clauseHere_95 rfl rfl ?_
        refine q_iload_n C 1 dX12_clauseHere_96 rfl rfl ?_
        obtain ⟨q25, h26, hF⟩ := bnd hF
        try dsimp only at hF
        refine q_callVi C [.int x1] (c_X12_campLineHere l D ad ca kz C.2.2.2.2.2.2.1 _ _ _ _ h26) tw_1231 gm_X12_campLineHere pi_249.1 (pe_11 pi_249.2) rfl ⟨rfl, rfl⟩ ⟨Nat.le_trans (Nat.le_of_ble_eq_true rfl) hR.1, Nat.le_trans (Nat.le_of_ble_eq_true rfl) hR.2⟩ rfl (Nat.le_of_ble_eq_true rfl) dX12_clauseHere_97 q00 ?_
        refine q_goto (tgt := 107) C dX12_clauseHere_100 (by decide) ?_
        obtain ⟨g27, hF⟩ := grd hF
        exact q_zret C hr hlk dX12_clauseHere_107 g27 hF
    · replace hF := ift c20 hF
      refine q_aload_n C 0 dX12_clauseHere_74 rfl rfl ?_
      refine q_iconst (v := 4) C dX12_clauseHere_75 (by decide) ?_
      refine q_iload_n C 1 dX12_clauseHere_76 rfl rfl ?_
      obtain ⟨q28, h29, hF⟩ := bnd hF
      try dsimp only at hF
      refine q_callVi C [.int 4, .int x1] (c_X12_fails l D ad ca kz C.2.2.2.2.2.2.1 _ _ _ _ _ h29) tw_1227 gm_X12_fails pi_249.1 (pe_11 pi_249.2) rfl ⟨rfl, rfl⟩ ⟨Nat.le_trans (Nat.le_of_ble_eq_true rfl) hR.1, Nat.le_trans (Nat.le_of_ble_eq_true rfl) hR.2⟩ rfl (Nat.le_of_ble_eq_true rfl) dX12_clauseHere_77 q00 ?_
      obtain ⟨g30, hF⟩ := grd hF
      exact q_zret C hr hlk dX12_clauseHere_80 g30 hF
set_option maxHeartbeats 4000000 in
set_option maxRecDepth 100000 in
theorem c_X12_clauseHere (l : Launch) (D : va_G) (ad : Nat → Nat) (ca : Nat → ClassId) (kz : Nat → Nat) (hJ : pInj ad) (n : Nat) (σ : PS) (out : Int32 × PS) (hF : F_X12_clauseHere n σ = some out) : Met l yX12_clauseHere (Cond.code yX12_clauseHere cX12_clauseHere 3 (Option.some Jvm.ClassFile.FieldType.boolean) :: gw_tbl) { frames := 10, cells := 0, slots := 0, locals := 219 } (va_Pc [.ref (ad (249))] (pU D ad ca kz σ)) (pQi D ad ca out) 0 0 (pAD ad) := by
  refine q_entry (own := "AskedCampModel") hJ (by decide) rfl (Nat.le_of_ble_eq_true rfl) (fun p e s m below meth c C hr hlk => ?_)
  refine q_lv [(0, .ref (ad (249)))] rfl ?_
  rw [F_X12_clauseHere] at hF
  refine q_aload_n C 0 dX12_clauseHere_0 rfl rfl ?_
  obtain ⟨q1, h2, hF⟩ := bnd hF
  try dsimp only at hF
  refine q_callVi C [] (c_X12_see l D ad ca kz C.2.2.2.2.2.2.1 _ _ _ h2) tw_1207 gm_X12_see pi_249.1 (pe_11 pi_249.2) rfl ⟨rfl, rfl⟩ ⟨Nat.le_of_ble_eq_true rfl, Nat.le_of_ble_eq_true rfl⟩ rfl (Nat.le_of_ble_eq_true rfl) dX12_clauseHere_1 q00 ?_
  refine q_pop C dX12_clauseHere_4 rfl ?_
  refine q_aload_n C 0 dX12_clauseHere_5 rfl rfl ?_
  refine qg_11_8 C pi_249 tw_1061 dX12_clauseHere_6 ?_
  refine q_istore_n C [(1, .int (q1.2.1 249 8)), (0, .ref (ad (249)))] dX12_clauseHere_9 rfl (by decide) rfl ?_
  refine q_aload_n C 1 dX12_clauseHere_10 rfl rfl ?_
  refine qg_11_11 C pi_249 tw_1064 dX12_clauseHere_11 ?_
  refine q_bipush (v := 6) C dX12_clauseHere_14 (by decide) ?_
  refine q_icmp_ne (tgt := 23) C dX12_clauseHere_16 (by decide) (fun c3 => ?_) (fun c3 => ?_)
  · replace hF := ife c3 hF
    refine q_iconst (v := 0) C dX12_clauseHere_23 (by decide) ?_
    refine q_istore_n C [(2, .int 0), (1, .int (q1.2.1 249 8)), (0, .ref (ad (249)))] dX12_clauseHere_24 rfl (by decide) rfl ?_
    refine q_iload_n C 0 dX12_clauseHere_25 rfl rfl ?_
    refine q_if_eq (tgt := 39) C dX12_clauseHere_26 (by decide) (fun c4 => ?_) (fun c4 => ?_)
    · replace hF := ift c4 hF
      refine q_aload_n C 2 dX12_clauseHere_39 rfl rfl ?_
      refine q_ldc2 C dX12_clauseHere_40 tw_1226 ?_
      obtain ⟨q5, h6, hF⟩ := bnd hF
      try dsimp only at hF
      refine q_callVi C [.long ((26479 : Int64))] (c_X12_isWord l D ad ca kz C.2.2.2.2.2.2.1 _ _ _ _ h6) tw_1216 gm_X12_isWord pi_249.1 (pe_11 pi_249.2) rfl ⟨rfl, rfl⟩ ⟨Nat.le_of_ble_eq_true rfl, Nat.le_of_ble_eq_true rfl⟩ rfl (Nat.le_of_ble_eq_true rfl) dX12_clauseHere_43 q00 ?_
      refine q_if_ne (tgt := 56) C dX12_clauseHere_46 (by decide) (fun c7 => ?_) (fun c7 => ?_)
      · replace hF := ife c7 hF
        refine q_sub [2, 1, 0] rfl ?_
        exact j_X12_clauseHere_56 C hr hlk ⟨Nat.le_of_ble_eq_true rfl, Nat.le_of_ble_eq_true rfl⟩ _ _ _ _ hF
      · replace hF := ift c7 hF
        refine q_aload_n C 2 dX12_clauseHere_49 rfl rfl ?_
        refine q_iconst (v := 0) C dX12_clauseHere_50 (by decide) ?_
        refine q_iload_n C 1 dX12_clauseHere_51 rfl rfl ?_
        obtain ⟨q31, h32, hF⟩ := bnd hF
        try dsimp only at hF
        refine q_callVi C [.int 0, .int (q1.2.1 249 8)] (c_X12_fails l D ad ca kz C.2.2.2.2.2.2.1 _ _ _ _ _ h32) tw_1227 gm_X12_fails pi_249.1 (pe_11 pi_249.2) rfl ⟨rfl, rfl⟩ ⟨Nat.le_of_ble_eq_true rfl, Nat.le_of_ble_eq_true rfl⟩ rfl (Nat.le_of_ble_eq_true rfl) dX12_clauseHere_52 q00 ?_
        obtain ⟨g33, hF⟩ := grd hF
        exact q_zret C hr hlk dX12_clauseHere_55 g33 hF
    · replace hF := ife c4 hF
      refine q_aload_n C 2 dX12_clauseHere_29 rfl rfl ?_
      obtain ⟨q34, h35, hF⟩ := bnd hF
      try dsimp only at hF
      refine q_callVi C [] (c_X12_isCampWord l D ad ca kz C.2.2.2.2.2.2.1 _ _ _ h35) tw_1211 gm_X12_isCampWord pi_249.1 (pe_11 pi_249.2) rfl ⟨rfl, rfl⟩ ⟨Nat.le_of_ble_eq_true rfl, Nat.le_of_ble_eq_true rfl⟩ rfl (Nat.le_of_ble_eq_true rfl) dX12_clauseHere_30 q00 ?_
      refine q_if_ne (tgt := 56) C dX12_clauseHere_33 (by decide) (fun c36 => ?_) (fun c36 => ?_)
      · replace hF := ife c36 hF
        refine q_sub [2, 1, 0] rfl ?_
        exact j_X12_clauseHere_56 C hr hlk ⟨Nat.le_of_ble_eq_true rfl, Nat.le_of_ble_eq_true rfl⟩ _ _ _ _ hF
      · replace hF := ift c36 hF
        refine q_goto (tgt := 49) C dX12_clauseHere_36 (by decide) ?_
        refine q_aload_n C 2 dX12_clauseHere_49 rfl rfl ?_
        refine q_iconst (v := 0) C dX12_clauseHere_50 (by decide) ?_
        refine q_iload_n C 1 dX12_clauseHere_51 rfl rfl ?_
        obtain ⟨q37, h38, hF⟩ := bnd hF
        try dsimp only at hF
        refine q_callVi C [.int 0, .int (q1.2.1 249 8)] (c_X12_fails l D ad ca kz C.2.2.2.2.2.2.1 _ _ _ _ _ h38) tw_1227 gm_X12_fails pi_249.1 (pe_11 pi_249.2) rfl ⟨rfl, rfl⟩ ⟨Nat.le_of_ble_eq_true rfl, Nat.le_of_ble_eq_true rfl⟩ rfl (Nat.le_of_ble_eq_true rfl) dX12_clauseHere_52 q00 ?_
        obtain ⟨g39, hF⟩ := grd hF
        exact q_zret C hr hlk dX12_clauseHere_55 g39 hF
  · replace hF := ift c3 hF
    refine q_iconst (v := 1) C dX12_clauseHere_19 (by decide) ?_
    refine q_goto (tgt := 24) C dX12_clauseHere_20 (by decide) ?_
    refine q_istore_n C [(2, .int 1), (1, .int (q1.2.1 249 8)), (0, .ref (ad (249)))] dX12_clauseHere_24 rfl (by decide) rfl ?_
    refine q_iload_n C 0 dX12_clauseHere_25 rfl rfl ?_
    refine q_if_eq (tgt := 39) C dX12_clauseHere_26 (by decide) (fun c40 => ?_) (fun c40 => ?_)
    · replace hF := ift c40 hF
      refine q_aload_n C 2 dX12_clauseHere_39 rfl rfl ?_
      refine q_ldc2 C dX12_clauseHere_40 tw_1226 ?_
      obtain ⟨q41, h42, hF⟩ := bnd hF
      try dsimp only at hF
      refine q_callVi C [.long ((26479 : Int64))] (c_X12_isWord l D ad ca kz C.2.2.2.2.2.2.1 _ _ _ _ h42) tw_1216 gm_X12_isWord pi_249.1 (pe_11 pi_249.2) rfl ⟨rfl, rfl⟩ ⟨Nat.le_of_ble_eq_true rfl, Nat.le_of_ble_eq_true rfl⟩ rfl (Nat.le_of_ble_eq_true rfl) dX12_clauseHere_43 q00 ?_
      refine q_if_ne (tgt := 56) C dX12_clauseHere_46 (by decide) (fun c43 => ?_) (fun c43 => ?_)
      · replace hF := ife c43 hF
        refine q_sub [2, 1, 0] rfl ?_
        exact j_X12_clauseHere_56 C hr hlk ⟨Nat.le_of_ble_eq_true rfl, Nat.le_of_ble_eq_true rfl⟩ _ _ _ _ hF
      · replace hF := ift c43 hF
        refine q_aload_n C 2 dX12_clauseHere_49 rfl rfl ?_
        refine q_iconst (v := 0) C dX12_clauseHere_50 (by decide) ?_
        refine q_iload_n C 1 dX12_clauseHere_51 rfl rfl ?_
        obtain ⟨q44, h45, hF⟩ := bnd hF
        try dsimp only at hF
        refine q_callVi C [.int 0, .int (q1.2.1 249 8)] (c_X12_fails l D ad ca kz C.2.2.2.2.2.2.1 _ _ _ _ _ h45) tw_1227 gm_X12_fails pi_249.1 (pe_11 pi_249.2) rfl ⟨rfl, rfl⟩ ⟨Nat.le_of_ble_eq_true rfl, Nat.le_of_ble_eq_true rfl⟩ rfl (Nat.le_of_ble_eq_true rfl) dX12_clauseHere_52 q00 ?_
        obtain ⟨g46, hF⟩ := grd hF
        exact q_zret C hr hlk dX12_clauseHere_55 g46 hF
    · replace hF := ife c40 hF
      refine q_aload_n C 2 dX12_clauseHere_29 rfl rfl ?_
      obtain ⟨q47, h48, hF⟩ := bnd hF
      try dsimp only at hF
      refine q_callVi C [] (c_X12_isCampWord l D ad ca kz C.2.2.2.2.2.2.1 _ _ _ h48) tw_1211 gm_X12_isCampWord pi_249.1 (pe_11 pi_249.2) rfl ⟨rfl, rfl⟩ ⟨Nat.le_of_ble_eq_true rfl, Nat.le_of_ble_eq_true rfl⟩ rfl (Nat.le_of_ble_eq_true rfl) dX12_clauseHere_30 q00 ?_
      refine q_if_ne (tgt := 56) C dX12_clauseHere_33 (by decide) (fun c49 => ?_) (fun c49 => ?_)
      · replace hF := ife c49 hF
        refine q_sub [2, 1, 0] rfl ?_
        exact j_X12_clauseHere_56 C hr hlk ⟨Nat.le_of_ble_eq_true rfl, Nat.le_of_ble_eq_true rfl⟩ _ _ _ _ hF
      · replace hF := ift c49 hF
        refine q_goto (tgt := 49) C dX12_clauseHere_36 (by decide) ?_
        refine q_aload_n C 2 dX12_clauseHere_49 rfl rfl ?_
        refine q_iconst (v := 0) C dX12_clauseHere_50 (by decide) ?_
        refine q_iload_n C 1 dX12_clauseHere_51 rfl rfl ?_
        obtain ⟨q50, h51, hF⟩ := bnd hF
        try dsimp only at hF
        refine q_callVi C [.int 0, .int (q1.2.1 249 8)] (c_X12_fails l D ad ca kz C.2.2.2.2.2.2.1 _ _ _ _ _ h51) tw_1227 gm_X12_fails pi_249.1 (pe_11 pi_249.2) rfl ⟨rfl, rfl⟩ ⟨Nat.le_of_ble_eq_true rfl, Nat.le_of_ble_eq_true rfl⟩ rfl (Nat.le_of_ble_eq_true rfl) dX12_clauseHere_52 q00 ?_
        obtain ⟨g52, hF⟩ := grd hF
        exact q_zret C hr hlk dX12_clauseHere_55 g52 hF
-- X12_readsAll
def L_X12_readsAll_35 (n : Nat) : Nat → Int32 → PS → Option (Int32 × PS)
  | 0, _, _ => none
  | k + 1, x1, σ => (if x1 = 0 then some (x1, σ) else (F_X12_see n σ).bind (fun q5 => (if q5.1 = (59 : Int32) then (F_X12_clauseHere n (psI q5.2 249 8 ((q5.2.1 249 8) + (1 : Int32)))).bind (fun q8 => L_X12_readsAll_35 n k q8.1 q8.2) else some (x1, q5.2))))
def F_X12_readsAll (n : Nat) (σ : PS) : Option (Int32 × PS) := (if 0 ≤ (σ.1 249 11) ∧ (σ.1 249 11).toNatClampNeg < 7 then (F_X12_clauseHere n (psI (psI (psI (psI (psI σ 252 ((σ.1 249 11).toNatClampNeg) (0 : Int32)) 249 14 (0 : Int32)) 249 8 (0 : Int32)) 249 9 (0 : Int32)) 249 12 (0 : Int32))).bind (fun q2 => (L_X12_readsAll_35 n n q2.1 q2.2).bind (fun o10 => (if o10.1 = 0 then (if ((psI o10.2 249 1 (0 : Int32)).1 249 9) = 0 then some ((1 : Int32), psI o10.2 249 1 (0 : Int32)) else some ((0 : Int32), psI o10.2 249 1 (0 : Int32))) else (F_X12_see n o10.2).bind (fun q14 => (if q14.1 = (-1 : Int32) then (if ((psI q14.2 249 1 (0 : Int32)).1 249 9) = 0 then some ((1 : Int32), psI q14.2 249 1 (0 : Int32)) else some ((0 : Int32), psI q14.2 249 1 (0 : Int32))) else (F_X12_fails n (0 : Int32) (q14.2.1 249 8) q14.2).bind (fun q18 => (if ((psI q18.2 249 1 (0 : Int32)).1 249 9) = 0 then some ((1 : Int32), psI q18.2 249 1 (0 : Int32)) else some ((0 : Int32), psI q18.2 249 1 (0 : Int32))))))))) else none)
theorem gm_X12_readsAll : gM "AskedCampModel" yX12_readsAll (Cond.code yX12_readsAll cX12_readsAll 2 (Option.some Jvm.ClassFile.FieldType.boolean)) 0 := ⟨by decide +kernel, tw_1201, tw_p26, tw_12, tw_1202⟩
set_option maxHeartbeats 4000000 in
set_option maxRecDepth 100000 in
theorem l_X12_readsAll_35 {p : Program} {l : Launch} {e : Env} {R : Room} {s : State} {m : MethodId} {args : Array Value} {below : List Frame} {meth : Method} {c : Code} {D : va_G} {ad : Nat → Nat} {ca : Nat → ClassId} {kz : Nat → Nat} {Q : State → Prop} (C : pC p s m args c cX12_readsAll "AskedCampModel" 2 D ad ca kz) (hR : 11 ≤ R.frames ∧ 241 ≤ R.locals) {n : Nat} (o : Int32 × PS) (hx0 : PW p l e R s m args below meth c 2 D ad ca 0 0 Q (o.2) 66 [(0, .ref (ad (249))), (1, .int o.1)] []) : ∀ (k : Nat) (x1 : Int32) (σ : PS), L_X12_readsAll_35 n k x1 σ = some o → PW p l e R s m args below meth c 2 D ad ca 0 0 Q σ 35 [(0, .ref (ad (249))), (1, .int x1)] [] := by
  intro k
  induction k with
  | zero => intro x1 σ hF; exact nomatch (show (none : Option (Int32 × PS)) = some o from hF)
  | succ k ih =>
    intro x1 σ hF
    rw [L_X12_readsAll_35] at hF
    refine q_iload_n C 1 dX12_readsAll_35 rfl rfl ?_
    refine q_if_eq (tgt := 66) C dX12_readsAll_36 (by decide) (fun c4 => ?_) (fun c4 => ?_)
    · replace hF := ift c4 hF
      cases hF
      refine q_sub [0, 1] rfl ?_
      exact hx0
    · replace hF := ife c4 hF
      refine q_aload_n C 0 dX12_readsAll_39 rfl rfl ?_
      obtain ⟨q5, h6, hF⟩ := bnd hF
      try dsimp only at hF
      refine q_callVi C [] (c_X12_see l D ad ca kz C.2.2.2.2.2.2.1 _ _ _ h6) tw_1207 gm_X12_see pi_249.1 (pe_11 pi_249.2) rfl ⟨rfl, rfl⟩ ⟨Nat.le_trans (Nat.le_of_ble_eq_true rfl) hR.1, Nat.le_trans (Nat.le_of_ble_eq_true rfl) hR.2⟩ rfl (Nat.le_of_ble_eq_true rfl) dX12_readsAll_40 q00 ?_
      refine q_bipush (v := 59) C dX12_readsAll_43 (by decide) ?_
      refine q_icmp_ne (tgt := 66) C dX12_readsAll_45 (by decide) (fun c7 => ?_) (fun c7 => ?_)
      · replace hF := ife c7 hF
        cases hF
        refine q_sub [0, 1] rfl ?_
        exact hx0
      · replace hF := ift c7 hF
        refine q_aload_n C 0 dX12_readsAll_48 rfl rfl ?_
        refine q_dup C dX12_readsAll_49 rfl ?_
        refine qg_11_8 C pi_249 tw_1061 dX12_readsAll_50 ?_
        refine q_iconst (v := 1) C dX12_readsAll_53 (by decide) ?_
        refine q_iadd C dX12_readsAll_54 ?_
        refine qs_11_8 C pi_249 tw_1061 dX12_readsAll_55 ?_
        refine q_aload_n C 0 dX12_readsAll_58 rfl rfl ?_
        obtain ⟨q8, h9, hF⟩ := bnd hF
        try dsimp only at hF
        refine q_callVi C [] (c_X12_clauseHere l D ad ca kz C.2.2.2.2.2.2.1 _ _ _ h9) tw_1203 gm_X12_clauseHere pi_249.1 (pe_11 pi_249.2) rfl ⟨rfl, rfl⟩ ⟨Nat.le_trans (Nat.le_of_ble_eq_true rfl) hR.1, Nat.le_trans (Nat.le_of_ble_eq_true rfl) hR.2⟩ rfl (Nat.le_of_ble_eq_true rfl) dX12_readsAll_59 q00 ?_
        refine q_istore_n C [(1, .int q8.1), (0, .ref (ad (249)))] dX12_readsAll_62 rfl (by decide) rfl ?_
        refine q_goto (tgt := 35) C dX12_readsAll_63 (by decide) ?_
        refine q_sub [1, 0] rfl ?_
        exact ih _ _ hF
set_option maxHeartbeats 4000000 in
set_option maxRecDepth 100000 in
theorem c_X12_readsAll (l : Launch) (D : va_G) (ad : Nat → Nat) (ca : Nat → ClassId) (kz : Nat → Nat) (hJ : pInj ad) (n : Nat) (σ : PS) (out : Int32 × PS) (hF : F_X12_readsAll n σ = some out) : Met l yX12_readsAll (Cond.code yX12_readsAll cX12_readsAll 2 (Option.some Jvm.ClassFile.FieldType.boolean) :: gw_tbl) { frames := 11, cells := 0, slots := 0, locals := 241 } (va_Pc [.ref (ad (249))] (pU D ad ca kz σ)) (pQi D ad ca out) 0 0 (pAD ad) := by
  refine q_entry (own := "AskedCampModel") hJ (by decide) rfl (Nat.le_of_ble_eq_true rfl) (fun p e s m below meth c C hr hlk => ?_)
  refine q_lv [(0, .ref (ad (249)))] rfl ?_
  rw [F_X12_readsAll] at hF
  refine q_aload_n C 0 dX12_readsAll_0 rfl rfl ?_
  refine qg_11_4 C pi_249 tw_1057 dX12_readsAll_1 ?_
  refine q_aload_n C 0 dX12_readsAll_4 rfl rfl ?_
  refine qg_11_11 C pi_249 tw_1064 dX12_readsAll_5 ?_
  refine q_iconst (v := 0) C dX12_readsAll_8 (by decide) ?_
  obtain ⟨g1, hF⟩ := grd hF
  refine q_iast C pa_252 (vp_of g1) dX12_readsAll_9 ?_
  refine q_aload_n C 0 dX12_readsAll_10 rfl rfl ?_
  refine q_iconst (v := 0) C dX12_readsAll_11 (by decide) ?_
  refine qs_11_14 C pi_249 tw_1067 dX12_readsAll_12 ?_
  refine q_aload_n C 0 dX12_readsAll_15 rfl rfl ?_
  refine q_iconst (v := 0) C dX12_readsAll_16 (by decide) ?_
  refine qs_11_8 C pi_249 tw_1061 dX12_readsAll_17 ?_
  refine q_aload_n C 0 dX12_readsAll_20 rfl rfl ?_
  refine q_iconst (v := 0) C dX12_readsAll_21 (by decide) ?_
  refine qs_11_9 C pi_249 tw_1062 dX12_readsAll_22 ?_
  refine q_aload_n C 0 dX12_readsAll_25 rfl rfl ?_
  refine q_iconst (v := 0) C dX12_readsAll_26 (by decide) ?_
  refine qs_11_12 C pi_249 tw_1065 dX12_readsAll_27 ?_
  refine q_aload_n C 0 dX12_readsAll_30 rfl rfl ?_
  obtain ⟨q2, h3, hF⟩ := bnd hF
  try dsimp only at hF
  refine q_callVi C [] (c_X12_clauseHere l D ad ca kz C.2.2.2.2.2.2.1 _ _ _ h3) tw_1203 gm_X12_clauseHere pi_249.1 (pe_11 pi_249.2) rfl ⟨rfl, rfl⟩ ⟨Nat.le_of_ble_eq_true rfl, Nat.le_of_ble_eq_true rfl⟩ rfl (Nat.le_of_ble_eq_true rfl) dX12_readsAll_31 q00 ?_
  refine q_istore_n C [(1, .int q2.1), (0, .ref (ad (249)))] dX12_readsAll_34 rfl (by decide) rfl ?_
  obtain ⟨o10, h11, hF⟩ := bnd hF
  try dsimp only at hF
  refine q_sub [1, 0] rfl ?_
  refine l_X12_readsAll_35 C ⟨Nat.le_of_ble_eq_true rfl, Nat.le_of_ble_eq_true rfl⟩ o10 ?_ n _ _ h11
  refine q_iload_n C 1 dX12_readsAll_66 rfl rfl ?_
  refine q_if_eq (tgt := 88) C dX12_readsAll_67 (by decide) (fun c12 => ?_) (fun c12 => ?_)
  · replace hF := ift c12 hF
    refine q_aload_n C 0 dX12_readsAll_88 rfl rfl ?_
    refine q_iconst (v := 0) C dX12_readsAll_89 (by decide) ?_
    refine qs_11_1 C pi_249 tw_1054 dX12_readsAll_90 ?_
    refine q_aload_n C 0 dX12_readsAll_93 rfl rfl ?_
    refine qg_11_9 C pi_249 tw_1062 dX12_readsAll_94 ?_
    refine q_if_ne (tgt := 104) C dX12_readsAll_97 (by decide) (fun c13 => ?_) (fun c13 => ?_)
    · replace hF := ife c13 hF
      refine q_iconst (v := 0) C dX12_readsAll_104 (by decide) ?_
      exact q_zret C hr hlk dX12_readsAll_105 (by decide) hF
    · replace hF := ift c13 hF
      refine q_iconst (v := 1) C dX12_readsAll_100 (by decide) ?_
      refine q_goto (tgt := 105) C dX12_readsAll_101 (by decide) ?_
      exact q_zret C hr hlk dX12_readsAll_105 (by decide) hF
  · replace hF := ife c12 hF
    refine q_aload_n C 0 dX12_readsAll_70 rfl rfl ?_
    obtain ⟨q14, h15, hF⟩ := bnd hF
    try dsimp only at hF
    refine q_callVi C [] (c_X12_see l D ad ca kz C.2.2.2.2.2.2.1 _ _ _ h15) tw_1207 gm_X12_see pi_249.1 (pe_11 pi_249.2) rfl ⟨rfl, rfl⟩ ⟨Nat.le_of_ble_eq_true rfl, Nat.le_of_ble_eq_true rfl⟩ rfl (Nat.le_of_ble_eq_true rfl) dX12_readsAll_71 q00 ?_
    refine q_iconst (v := -1) C dX12_readsAll_74 (by decide) ?_
    refine q_icmp_eq (tgt := 88) C dX12_readsAll_75 (by decide) (fun c16 => ?_) (fun c16 => ?_)
    · replace hF := ift c16 hF
      refine q_aload_n C 0 dX12_readsAll_88 rfl rfl ?_
      refine q_iconst (v := 0) C dX12_readsAll_89 (by decide) ?_
      refine qs_11_1 C pi_249 tw_1054 dX12_readsAll_90 ?_
      refine q_aload_n C 0 dX12_readsAll_93 rfl rfl ?_
      refine qg_11_9 C pi_249 tw_1062 dX12_readsAll_94 ?_
      refine q_if_ne (tgt := 104) C dX12_readsAll_97 (by decide) (fun c17 => ?_) (fun c17 => ?_)
      · replace hF := ife c17 hF
        refine q_iconst (v := 0) C dX12_readsAll_104 (by decide) ?_
        exact q_zret C hr hlk dX12_readsAll_105 (by decide) hF
      · replace hF := ift c17 hF
        refine q_iconst (v := 1) C dX12_readsAll_100 (by decide) ?_
        refine q_goto (tgt := 105) C dX12_readsAll_101 (by decide) ?_
        exact q_zret C hr hlk dX12_readsAll_105 (by decide) hF
    · replace hF := ife c16 hF
      refine q_aload_n C 0 dX12_readsAll_78 rfl rfl ?_
      refine q_iconst (v := 0) C dX12_readsAll_79 (by decide) ?_
      refine q_aload_n C 0 dX12_readsAll_80 rfl rfl ?_
      refine qg_11_8 C pi_249 tw_1061 dX12_readsAll_81 ?_
      obtain ⟨q18, h19, hF⟩ := bnd hF
      try dsimp only at hF
      refine q_callVi C [.int 0, .int (q14.2.1 249 8)] (c_X12_fails l D ad ca kz C.2.2.2.2.2.2.1 _ _ _ _ _ h19) tw_1227 gm_X12_fails pi_249.1 (pe_11 pi_249.2) rfl ⟨rfl, rfl⟩ ⟨Nat.le_of_ble_eq_true rfl, Nat.le_of_ble_eq_true rfl⟩ rfl (Nat.le_of_ble_eq_true rfl) dX12_readsAll_84 q00 ?_
      refine q_pop C dX12_readsAll_87 rfl ?_
      refine q_aload_n C 0 dX12_readsAll_88 rfl rfl ?_
      refine q_iconst (v := 0) C dX12_readsAll_89 (by decide) ?_
      refine qs_11_1 C pi_249 tw_1054 dX12_readsAll_90 ?_
      refine q_aload_n C 0 dX12_readsAll_93 rfl rfl ?_
      refine qg_11_9 C pi_249 tw_1062 dX12_readsAll_94 ?_
      refine q_if_ne (tgt := 104) C dX12_readsAll_97 (by decide) (fun c20 => ?_) (fun c20 => ?_)
      · replace hF := ife c20 hF
        refine q_iconst (v := 0) C dX12_readsAll_104 (by decide) ?_
        exact q_zret C hr hlk dX12_readsAll_105 (by decide) hF
      · replace hF := ift c20 hF
        refine q_iconst (v := 1) C dX12_readsAll_100 (by decide) ?_
        refine q_goto (tgt := 105) C dX12_readsAll_101 (by decide) ?_
        exact q_zret C hr hlk dX12_readsAll_105 (by decide) hF
-- X12_camp
def L_X12_camp_8 (n : Nat) : Nat → Int32 → PS → Option (PS)
  | 0, _, _ => none
  | k + 1, x1, σ => (if (158 : Int32) ≤ x1 then some σ else (if 0 ≤ x1 ∧ x1.toNatClampNeg < 158 then L_X12_camp_8 n k (x1 + 1) (psI σ 255 x1.toNatClampNeg (0 : Int32)) else none))
def L_X12_camp_45 (n : Nat) : Nat → Int32 → PS → Option (PS)
  | 0, _, _ => none
  | k + 1, x1, σ => (if (179 : Int32) ≤ x1 then some σ else (if (158 : Int32) ≤ x1 then (if 0 ≤ x1 ∧ x1.toNatClampNeg < 179 then L_X12_camp_45 n k (x1 + 1) (psI σ 259 x1.toNatClampNeg (0 : Int32)) else none) else (if 0 ≤ x1 ∧ x1.toNatClampNeg < 158 then (if 0 ≤ x1 ∧ x1.toNatClampNeg < 179 then L_X12_camp_45 n k (x1 + 1) (psI σ 259 x1.toNatClampNeg (σ.1 255 x1.toNatClampNeg)) else none) else none)))
def F_X12_camp (n : Nat) (σ : PS) : Option (Int32 × PS) := (L_X12_camp_8 n n (0 : Int32) (psI σ 249 11 (6 : Int32))).bind (fun o3 => (F_X12_readsAll n o3).bind (fun q5 => (if q5.1 = 0 then some (((-2 : Int32) - (q5.2.1 249 9)), q5.2) else (L_X12_camp_45 n n (0 : Int32) q5.2).bind (fun o13 => (F_X12_begins n o13).bind (fun q15 => some (((psI q15 249 26 (0 : Int32)).1 259 2), psI q15 249 26 (0 : Int32)))))))
theorem gm_X12_camp : gM "AskedCampModel" yX12_camp (Cond.code yX12_camp cX12_camp 2 (Option.some Jvm.ClassFile.FieldType.int)) 0 := ⟨by decide +kernel, tw_1350, tw_1351, tw_12, tw_1352⟩
set_option maxHeartbeats 4000000 in
set_option maxRecDepth 100000 in
theorem l_X12_camp_8 {p : Program} {l : Launch} {e : Env} {R : Room} {s : State} {m : MethodId} {args : Array Value} {below : List Frame} {meth : Method} {c : Code} {D : va_G} {ad : Nat → Nat} {ca : Nat → ClassId} {kz : Nat → Nat} {Q : State → Prop} (C : pC p s m args c cX12_camp "AskedCampModel" 2 D ad ca kz) (hR : 12 ≤ R.frames ∧ 262 ≤ R.locals) {n : Nat} (o : PS) (hx0 : PW p l e R s m args below meth c 2 D ad ca 0 0 Q (o) 28 [(0, .ref (ad (249)))] []) : ∀ (k : Nat) (x1 : Int32) (σ : PS), L_X12_camp_8 n k x1 σ = some o → PW p l e R s m args below meth c 2 D ad ca 0 0 Q σ 8 [(0, .ref (ad (249))), (1, .int x1)] [] := by
  intro k
  induction k with
  | zero => intro x1 σ hF; exact nomatch (show (none : Option (PS)) = some o from hF)
  | succ k ih =>
    intro x1 σ hF
    rw [L_X12_camp_8] at hF
    refine q_iload_n C 1 dX12_camp_8 rfl rfl ?_
    refine q_sipush (v := 158) C dX12_camp_9 (by decide) ?_
    refine q_icmp_ge (tgt := 28) C dX12_camp_12 (by decide) (fun c1 => ?_) (fun c1 => ?_)
    · replace hF := ift c1 hF
      cases hF
      refine q_sub [0] rfl ?_
      exact hx0
    · replace hF := ife c1 hF
      refine q_aload_n C 0 dX12_camp_15 rfl rfl ?_
      refine qg_11_7 C pi_249 tw_1060 dX12_camp_16 ?_
      refine q_iload_n C 1 dX12_camp_19 rfl rfl ?_
      refine q_iconst (v := 0) C dX12_camp_20 (by decide) ?_
      obtain ⟨g2, hF⟩ := grd hF
      refine q_iast C pa_255 (vp_of g2) dX12_camp_21 ?_
      refine q_iinc C 1 [(1, .int (x1 + 1)), (0, .ref (ad (249)))] dX12_camp_22 rfl rfl (by decide) rfl ?_
      refine q_goto (tgt := 8) C dX12_camp_25 (by decide) ?_
      refine q_sub [1, 0] rfl ?_
      exact ih _ _ hF
set_option maxHeartbeats 4000000 in
set_option maxRecDepth 100000 in
theorem l_X12_camp_45 {p : Program} {l : Launch} {e : Env} {R : Room} {s : State} {m : MethodId} {args : Array Value} {below : List Frame} {meth : Method} {c : Code} {D : va_G} {ad : Nat → Nat} {ca : Nat → ClassId} {kz : Nat → Nat} {Q : State → Prop} (C : pC p s m args c cX12_camp "AskedCampModel" 2 D ad ca kz) (hR : 12 ≤ R.frames ∧ 262 ≤ R.locals) {n : Nat} (o : PS) (hx0 : PW p l e R s m args below meth c 2 D ad ca 0 0 Q (o) 81 [(0, .ref (ad (249)))] []) : ∀ (k : Nat) (x1 : Int32) (σ : PS), L_X12_camp_45 n k x1 σ = some o → PW p l e R s m args below meth c 2 D ad ca 0 0 Q σ 45 [(0, .ref (ad (249))), (1, .int x1)] [] := by
  intro k
  induction k with
  | zero => intro x1 σ hF; exact nomatch (show (none : Option (PS)) = some o from hF)
  | succ k ih =>
    intro x1 σ hF
    rw [L_X12_camp_45] at hF
    refine q_iload_n C 1 dX12_camp_45 rfl rfl ?_
    refine q_sipush (v := 179) C dX12_camp_46 (by decide) ?_
    refine q_icmp_ge (tgt := 81) C dX12_camp_49 (by decide) (fun c8 => ?_) (fun c8 => ?_)
    · replace hF := ift c8 hF
      cases hF
      refine q_sub [0] rfl ?_
      exact hx0
    · replace hF := ife c8 hF
      refine q_aload_n C 0 dX12_camp_52 rfl rfl ?_
      refine qg_11_20 C pi_249 tw_1073 dX12_camp_53 ?_
      refine q_iload_n C 1 dX12_camp_56 rfl rfl ?_
      refine q_iload_n C 1 dX12_camp_57 rfl rfl ?_
      refine q_sipush (v := 158) C dX12_camp_58 (by decide) ?_
      refine q_icmp_ge (tgt := 73) C dX12_camp_61 (by decide) (fun c9 => ?_) (fun c9 => ?_)
      · replace hF := ift c9 hF
        refine q_iconst (v := 0) C dX12_camp_73 (by decide) ?_
        obtain ⟨g10, hF⟩ := grd hF
        refine q_iast C pa_259 (vp_of g10) dX12_camp_74 ?_
        refine q_iinc C 1 [(1, .int (x1 + 1)), (0, .ref (ad (249)))] dX12_camp_75 rfl rfl (by decide) rfl ?_
        refine q_goto (tgt := 45) C dX12_camp_78 (by decide) ?_
        refine q_sub [1, 0] rfl ?_
        exact ih _ _ hF
      · replace hF := ife c9 hF
        refine q_aload_n C 0 dX12_camp_64 rfl rfl ?_
        refine qg_11_7 C pi_249 tw_1060 dX12_camp_65 ?_
        refine q_iload_n C 1 dX12_camp_68 rfl rfl ?_
        obtain ⟨g11, hF⟩ := grd hF
        refine q_iald C pa_255 (vp_of g11) dX12_camp_69 ?_
        refine q_goto (tgt := 74) C dX12_camp_70 (by decide) ?_
        obtain ⟨g12, hF⟩ := grd hF
        refine q_iast C pa_259 (vp_of g12) dX12_camp_74 ?_
        refine q_iinc C 1 [(1, .int (x1 + 1)), (0, .ref (ad (249)))] dX12_camp_75 rfl rfl (by decide) rfl ?_
        refine q_goto (tgt := 45) C dX12_camp_78 (by decide) ?_
        refine q_sub [1, 0] rfl ?_
        exact ih _ _ hF
set_option maxHeartbeats 4000000 in
set_option maxRecDepth 100000 in
theorem c_X12_camp (l : Launch) (D : va_G) (ad : Nat → Nat) (ca : Nat → ClassId) (kz : Nat → Nat) (hJ : pInj ad) (n : Nat) (σ : PS) (out : Int32 × PS) (hF : F_X12_camp n σ = some out) : Met l yX12_camp (Cond.code yX12_camp cX12_camp 2 (Option.some Jvm.ClassFile.FieldType.int) :: gw_tbl) { frames := 12, cells := 0, slots := 0, locals := 262 } (va_Pc [.ref (ad (249))] (pU D ad ca kz σ)) (pQi D ad ca out) 0 0 (pAD ad) := by
  refine q_entry (own := "AskedCampModel") hJ (by decide) rfl (Nat.le_of_ble_eq_true rfl) (fun p e s m below meth c C hr hlk => ?_)
  refine q_lv [(0, .ref (ad (249)))] rfl ?_
  rw [F_X12_camp] at hF
  refine q_aload_n C 0 dX12_camp_0 rfl rfl ?_
  refine q_bipush (v := 6) C dX12_camp_1 (by decide) ?_
  refine qs_11_11 C pi_249 tw_1064 dX12_camp_3 ?_
  refine q_iconst (v := 0) C dX12_camp_6 (by decide) ?_
  refine q_istore_n C [(1, .int 0), (0, .ref (ad (249)))] dX12_camp_7 rfl (by decide) rfl ?_
  obtain ⟨o3, h4, hF⟩ := bnd hF
  try dsimp only at hF
  refine q_sub [1, 0] rfl ?_
  refine l_X12_camp_8 C ⟨Nat.le_of_ble_eq_true rfl, Nat.le_of_ble_eq_true rfl⟩ o3 ?_ n _ _ h4
  refine q_aload_n C 0 dX12_camp_28 rfl rfl ?_
  obtain ⟨q5, h6, hF⟩ := bnd hF
  try dsimp only at hF
  refine q_callVi C [] (c_X12_readsAll l D ad ca kz C.2.2.2.2.2.2.1 _ _ _ h6) tw_1199 gm_X12_readsAll pi_249.1 (pe_11 pi_249.2) rfl ⟨rfl, rfl⟩ ⟨Nat.le_of_ble_eq_true rfl, Nat.le_of_ble_eq_true rfl⟩ rfl (Nat.le_of_ble_eq_true rfl) dX12_camp_29 q00 ?_
  refine q_if_ne (tgt := 43) C dX12_camp_32 (by decide) (fun c7 => ?_) (fun c7 => ?_)
  · replace hF := ife c7 hF
    refine q_iconst (v := 0) C dX12_camp_43 (by decide) ?_
    refine q_istore_n C [(1, .int 0), (0, .ref (ad (249)))] dX12_camp_44 rfl (by decide) rfl ?_
    obtain ⟨o13, h14, hF⟩ := bnd hF
    try dsimp only at hF
    refine q_sub [1, 0] rfl ?_
    refine l_X12_camp_45 C ⟨Nat.le_of_ble_eq_true rfl, Nat.le_of_ble_eq_true rfl⟩ o13 ?_ n _ _ h14
    refine q_aload_n C 0 dX12_camp_81 rfl rfl ?_
    obtain ⟨q15, h16, hF⟩ := bnd hF
    try dsimp only at hF
    refine q_callVv C [] (c_X12_begins l D ad ca kz C.2.2.2.2.2.2.1 _ _ _ h16) tw_1353 gm_X12_begins pi_249.1 (pe_11 pi_249.2) rfl ⟨rfl, rfl⟩ ⟨Nat.le_of_ble_eq_true rfl, Nat.le_of_ble_eq_true rfl⟩ rfl (Nat.le_of_ble_eq_true rfl) dX12_camp_82 q00 ?_
    refine q_aload_n C 0 dX12_camp_85 rfl rfl ?_
    refine q_iconst (v := 0) C dX12_camp_86 (by decide) ?_
    refine qs_11_26 C pi_249 tw_1079 dX12_camp_87 ?_
    refine q_aload_n C 0 dX12_camp_90 rfl rfl ?_
    refine qg_11_20 C pi_249 tw_1073 dX12_camp_91 ?_
    refine q_iconst (v := 2) C dX12_camp_94 (by decide) ?_
    refine q_ialdk (jn := 2) C pa_259 (vp_of (by decide)) rfl dX12_camp_95 ?_
    exact q_iret C hr hlk dX12_camp_96 hF
  · replace hF := ift c7 hF
    refine q_bipush (v := -2) C dX12_camp_35 (by decide) ?_
    refine q_aload_n C 0 dX12_camp_37 rfl rfl ?_
    refine qg_11_9 C pi_249 tw_1062 dX12_camp_38 ?_
    refine q_isub C dX12_camp_41 ?_
    exact q_iret C hr hlk dX12_camp_42 hF
-- X12_canCut
def F_X12_canCut (n : Nat) (a1 : Int32) (a2 : Int32) (σ : PS) : Option (Int32 × PS) := (F_X12_isBush n a1 σ).bind (fun q1 => (if q1.1 = 0 then (if a1 = (q1.2.1 259 11) then some ((0 : Int32), q1.2) else (F_X12_cellOf n a2 q1.2).bind (fun q5 => (if a1 = q5.1 then some ((0 : Int32), q5.2) else some ((1 : Int32), q5.2)))) else some ((0 : Int32), q1.2)))
theorem gm_X12_canCut : gM "AskedCampModel" yX12_canCut (Cond.code yX12_canCut cX12_canCut 3 (Option.some Jvm.ClassFile.FieldType.boolean)) 2 := ⟨by decide +kernel, tw_1565, tw_p90, tw_12, tw_1566⟩
set_option maxHeartbeats 4000000 in
set_option maxRecDepth 100000 in
theorem c_X12_canCut (l : Launch) (D : va_G) (ad : Nat → Nat) (ca : Nat → ClassId) (kz : Nat → Nat) (hJ : pInj ad) (n : Nat) (a1 : Int32) (a2 : Int32) (σ : PS) (out : Int32 × PS) (hF : F_X12_canCut n a1 a2 σ = some out) : Met l yX12_canCut (Cond.code yX12_canCut cX12_canCut 3 (Option.some Jvm.ClassFile.FieldType.boolean) :: gw_tbl) { frames := 1, cells := 0, slots := 0, locals := 21 } (va_Pc [.ref (ad (249)), .int a1, .int a2] (pU D ad ca kz σ)) (pQi D ad ca out) 0 0 (pAD ad) := by
  refine q_entry (own := "AskedCampModel") hJ (by decide) rfl (Nat.le_of_ble_eq_true rfl) (fun p e s m below meth c C hr hlk => ?_)
  refine q_lv [(0, .ref (ad (249))), (1, .int a1), (2, .int a2)] rfl ?_
  rw [F_X12_canCut] at hF
  refine q_aload_n C 0 dX12_canCut_0 rfl rfl ?_
  refine q_iload_n C 1 dX12_canCut_1 rfl rfl ?_
  obtain ⟨q1, h2, hF⟩ := bnd hF
  try dsimp only at hF
  refine q_callVi C [.int a1] (c_X12_isBush l D ad ca kz C.2.2.2.2.2.2.1 _ _ _ _ h2) tw_1431 gm_X12_isBush pi_249.1 (pe_11 pi_249.2) rfl ⟨rfl, rfl⟩ ⟨Nat.le_of_ble_eq_true rfl, Nat.le_of_ble_eq_true rfl⟩ rfl (Nat.le_of_ble_eq_true rfl) dX12_canCut_2 q00 ?_
  refine q_if_ne (tgt := 32) C dX12_canCut_5 (by decide) (fun c3 => ?_) (fun c3 => ?_)
  · replace hF := ife c3 hF
    refine q_iconst (v := 0) C dX12_canCut_32 (by decide) ?_
    exact q_zret C hr hlk dX12_canCut_33 (by decide) hF
  · replace hF := ift c3 hF
    refine q_iload_n C 1 dX12_canCut_8 rfl rfl ?_
    refine q_aload_n C 0 dX12_canCut_9 rfl rfl ?_
    refine qg_11_20 C pi_249 tw_1073 dX12_canCut_10 ?_
    refine q_bipush (v := 11) C dX12_canCut_13 (by decide) ?_
    refine q_ialdk (jn := 11) C pa_259 (vp_of (by decide)) rfl dX12_canCut_15 ?_
    refine q_icmp_eq (tgt := 32) C dX12_canCut_16 (by decide) (fun c4 => ?_) (fun c4 => ?_)
    · replace hF := ift c4 hF
      refine q_iconst (v := 0) C dX12_canCut_32 (by decide) ?_
      exact q_zret C hr hlk dX12_canCut_33 (by decide) hF
    · replace hF := ife c4 hF
      refine q_iload_n C 1 dX12_canCut_19 rfl rfl ?_
      refine q_aload_n C 0 dX12_canCut_20 rfl rfl ?_
      refine q_iload_n C 2 dX12_canCut_21 rfl rfl ?_
      obtain ⟨q5, h6, hF⟩ := bnd hF
      try dsimp only at hF
      refine q_callVi C [.int a2] (c_X12_cellOf l D ad ca kz C.2.2.2.2.2.2.1 _ _ _ _ h6) tw_1391 gm_X12_cellOf pi_249.1 (pe_11 pi_249.2) rfl ⟨rfl, rfl⟩ ⟨Nat.le_of_ble_eq_true rfl, Nat.le_of_ble_eq_true rfl⟩ rfl (Nat.le_of_ble_eq_true rfl) dX12_canCut_22 q00 ?_
      refine q_icmp_eq (tgt := 32) C dX12_canCut_25 (by decide) (fun c7 => ?_) (fun c7 => ?_)
      · replace hF := ift c7 hF
        refine q_iconst (v := 0) C dX12_canCut_32 (by decide) ?_
        exact q_zret C hr hlk dX12_canCut_33 (by decide) hF
      · replace hF := ife c7 hF
        refine q_iconst (v := 1) C dX12_canCut_28 (by decide) ?_
        refine q_goto (tgt := 33) C dX12_canCut_29 (by decide) ?_
        exact q_zret C hr hlk dX12_canCut_33 (by decide) hF
-- X12_canGo
def F_X12_canGo (n : Nat) (a1 : Int32) (σ : PS) : Option (Int32 × PS) := (if (a1 - a1 / (2 : Int32) * (2 : Int32)) = 0 then (if 0 ≤ a1 ∧ a1.toNatClampNeg < 5 then (if (σ.1 266 a1.toNatClampNeg) = (σ.1 268 a1.toNatClampNeg) then some ((1 : Int32), σ) else (F_X12_areBeside n (σ.1 266 a1.toNatClampNeg) (σ.1 268 a1.toNatClampNeg) σ).bind (fun q13 => (if q13.1 = 0 then some ((0 : Int32), q13.2) else (if (a1 - a1 / (2 : Int32) * (2 : Int32)) = (1 : Int32) then some ((1 : Int32), q13.2) else (F_X12_isBush n (σ.1 268 a1.toNatClampNeg) q13.2).bind (fun q17 => (if q17.1 = 0 then some ((1 : Int32), q17.2) else some ((0 : Int32), q17.2))))))) else none) else (if 0 ≤ a1 ∧ a1.toNatClampNeg < 5 then (if (σ.1 267 a1.toNatClampNeg) = (σ.1 268 a1.toNatClampNeg) then some ((1 : Int32), σ) else (F_X12_areBeside n (σ.1 267 a1.toNatClampNeg) (σ.1 268 a1.toNatClampNeg) σ).bind (fun q4 => (if q4.1 = 0 then some ((0 : Int32), q4.2) else (if (a1 - a1 / (2 : Int32) * (2 : Int32)) = (1 : Int32) then some ((1 : Int32), q4.2) else (F_X12_isBush n (σ.1 268 a1.toNatClampNeg) q4.2).bind (fun q8 => (if q8.1 = 0 then some ((1 : Int32), q8.2) else some ((0 : Int32), q8.2))))))) else none))
theorem gm_X12_canGo : gM "AskedCampModel" yX12_canGo (Cond.code yX12_canGo cX12_canGo 4 (Option.some Jvm.ClassFile.FieldType.boolean)) 1 := ⟨by decide +kernel, tw_1600, tw_p94, tw_12, tw_1601⟩
set_option maxHeartbeats 4000000 in
set_option maxRecDepth 100000 in
theorem c_X12_canGo (l : Launch) (D : va_G) (ad : Nat → Nat) (ca : Nat → ClassId) (kz : Nat → Nat) (hJ : pInj ad) (n : Nat) (a1 : Int32) (σ : PS) (out : Int32 × PS) (hF : F_X12_canGo n a1 σ = some out) : Met l yX12_canGo (Cond.code yX12_canGo cX12_canGo 4 (Option.some Jvm.ClassFile.FieldType.boolean) :: gw_tbl) { frames := 3, cells := 0, slots := 0, locals := 66 } (va_Pc [.ref (ad (249)), .int a1] (pU D ad ca kz σ)) (pQi D ad ca out) 0 0 (pAD ad) := by
  refine q_entry (own := "AskedCampModel") hJ (by decide) rfl (Nat.le_of_ble_eq_true rfl) (fun p e s m below meth c C hr hlk => ?_)
  refine q_lv [(0, .ref (ad (249))), (1, .int a1)] rfl ?_
  rw [F_X12_canGo] at hF
  refine q_iload_n C 1 dX12_canGo_0 rfl rfl ?_
  refine q_iconst (v := 2) C dX12_canGo_1 (by decide) ?_
  refine q_irem C dX12_canGo_2 (by decide) ?_
  refine q_if_ne (tgt := 15) C dX12_canGo_3 (by decide) (fun c1 => ?_) (fun c1 => ?_)
  · replace hF := ife c1 hF
    refine q_aload_n C 0 dX12_canGo_15 rfl rfl ?_
    refine qg_11_31 C pi_249 tw_1084 dX12_canGo_16 ?_
    refine q_iload_n C 1 dX12_canGo_19 rfl rfl ?_
    obtain ⟨g2, hF⟩ := grd hF
    refine q_iald C pa_267 (vp_of g2) dX12_canGo_20 ?_
    refine q_istore_n C [(2, .int (σ.1 267 a1.toNatClampNeg)), (0, .ref (ad (249))), (1, .int a1)] dX12_canGo_21 rfl (by decide) rfl ?_
    refine q_aload_n C 1 dX12_canGo_22 rfl rfl ?_
    refine qg_11_32 C pi_249 tw_1085 dX12_canGo_23 ?_
    refine q_iload_n C 2 dX12_canGo_26 rfl rfl ?_
    refine q_iald C pa_268 (vp_of g2) dX12_canGo_27 ?_
    refine q_istore_n C [(3, .int (σ.1 268 a1.toNatClampNeg)), (2, .int (σ.1 267 a1.toNatClampNeg)), (0, .ref (ad (249))), (1, .int a1)] dX12_canGo_28 rfl (by decide) rfl ?_
    refine q_iload_n C 1 dX12_canGo_29 rfl rfl ?_
    refine q_iload_n C 0 dX12_canGo_30 rfl rfl ?_
    refine q_icmp_eq (tgt := 58) C dX12_canGo_31 (by decide) (fun c3 => ?_) (fun c3 => ?_)
    · replace hF := ift c3 hF
      refine q_iconst (v := 1) C dX12_canGo_58 (by decide) ?_
      refine q_goto (tgt := 63) C dX12_canGo_59 (by decide) ?_
      exact q_zret C hr hlk dX12_canGo_63 (by decide) hF
    · replace hF := ife c3 hF
      refine q_aload_n C 2 dX12_canGo_34 rfl rfl ?_
      refine q_iload_n C 1 dX12_canGo_35 rfl rfl ?_
      refine q_iload_n C 0 dX12_canGo_36 rfl rfl ?_
      obtain ⟨q4, h5, hF⟩ := bnd hF
      try dsimp only at hF
      refine q_callVi C [.int (σ.1 267 a1.toNatClampNeg), .int (σ.1 268 a1.toNatClampNeg)] (c_X12_areBeside l D ad ca kz C.2.2.2.2.2.2.1 _ _ _ _ _ h5) tw_1439 gm_X12_areBeside pi_249.1 (pe_11 pi_249.2) rfl ⟨rfl, rfl⟩ ⟨Nat.le_of_ble_eq_true rfl, Nat.le_of_ble_eq_true rfl⟩ rfl (Nat.le_of_ble_eq_true rfl) dX12_canGo_37 q00 ?_
      refine q_if_eq (tgt := 62) C dX12_canGo_40 (by decide) (fun c6 => ?_) (fun c6 => ?_)
      · replace hF := ift c6 hF
        refine q_iconst (v := 0) C dX12_canGo_62 (by decide) ?_
        exact q_zret C hr hlk dX12_canGo_63 (by decide) hF
      · replace hF := ife c6 hF
        refine q_iload_n C 3 dX12_canGo_43 rfl rfl ?_
        refine q_iconst (v := 2) C dX12_canGo_44 (by decide) ?_
        refine q_irem C dX12_canGo_45 (by decide) ?_
        refine q_iconst (v := 1) C dX12_canGo_46 (by decide) ?_
        refine q_icmp_eq (tgt := 58) C dX12_canGo_47 (by decide) (fun c7 => ?_) (fun c7 => ?_)
        · replace hF := ift c7 hF
          refine q_iconst (v := 1) C dX12_canGo_58 (by decide) ?_
          refine q_goto (tgt := 63) C dX12_canGo_59 (by decide) ?_
          exact q_zret C hr hlk dX12_canGo_63 (by decide) hF
        · replace hF := ife c7 hF
          refine q_aload_n C 2 dX12_canGo_50 rfl rfl ?_
          refine q_iload_n C 0 dX12_canGo_51 rfl rfl ?_
          obtain ⟨q8, h9, hF⟩ := bnd hF
          try dsimp only at hF
          refine q_callVi C [.int (σ.1 268 a1.toNatClampNeg)] (c_X12_isBush l D ad ca kz C.2.2.2.2.2.2.1 _ _ _ _ h9) tw_1431 gm_X12_isBush pi_249.1 (pe_11 pi_249.2) rfl ⟨rfl, rfl⟩ ⟨Nat.le_of_ble_eq_true rfl, Nat.le_of_ble_eq_true rfl⟩ rfl (Nat.le_of_ble_eq_true rfl) dX12_canGo_52 q00 ?_
          refine q_if_ne (tgt := 62) C dX12_canGo_55 (by decide) (fun c10 => ?_) (fun c10 => ?_)
          · replace hF := ife c10 hF
            refine q_iconst (v := 0) C dX12_canGo_62 (by decide) ?_
            exact q_zret C hr hlk dX12_canGo_63 (by decide) hF
          · replace hF := ift c10 hF
            refine q_iconst (v := 1) C dX12_canGo_58 (by decide) ?_
            refine q_goto (tgt := 63) C dX12_canGo_59 (by decide) ?_
            exact q_zret C hr hlk dX12_canGo_63 (by decide) hF
  · replace hF := ift c1 hF
    refine q_aload_n C 0 dX12_canGo_6 rfl rfl ?_
    refine qg_11_30 C pi_249 tw_1083 dX12_canGo_7 ?_
    refine q_iload_n C 1 dX12_canGo_10 rfl rfl ?_
    obtain ⟨g11, hF⟩ := grd hF
    refine q_iald C pa_266 (vp_of g11) dX12_canGo_11 ?_
    refine q_goto (tgt := 21) C dX12_canGo_12 (by decide) ?_
    refine q_istore_n C [(2, .int (σ.1 266 a1.toNatClampNeg)), (0, .ref (ad (249))), (1, .int a1)] dX12_canGo_21 rfl (by decide) rfl ?_
    refine q_aload_n C 1 dX12_canGo_22 rfl rfl ?_
    refine qg_11_32 C pi_249 tw_1085 dX12_canGo_23 ?_
    refine q_iload_n C 2 dX12_canGo_26 rfl rfl ?_
    refine q_iald C pa_268 (vp_of g11) dX12_canGo_27 ?_
    refine q_istore_n C [(3, .int (σ.1 268 a1.toNatClampNeg)), (2, .int (σ.1 266 a1.toNatClampNeg)), (0, .ref (ad (249))), (1, .int a1)] dX12_canGo_28 rfl (by decide) rfl ?_
    refine q_iload_n C 1 dX12_canGo_29 rfl rfl ?_
    refine q_iload_n C 0 dX12_canGo_30 rfl rfl ?_
    refine q_icmp_eq (tgt := 58) C dX12_canGo_31 (by decide) (fun c12 => ?_) (fun c12 => ?_)
    · replace hF := ift c12 hF
      refine q_iconst (v := 1) C dX12_canGo_58 (by decide) ?_
      refine q_goto (tgt := 63) C dX12_canGo_59 (by decide) ?_
      exact q_zret C hr hlk dX12_canGo_63 (by decide) hF
    · replace hF := ife c12 hF
      refine q_aload_n C 2 dX12_canGo_34 rfl rfl ?_
      refine q_iload_n C 1 dX12_canGo_35 rfl rfl ?_
      refine q_iload_n C 0 dX12_canGo_36 rfl rfl ?_
      obtain ⟨q13, h14, hF⟩ := bnd hF
      try dsimp only at hF
      refine q_callVi C [.int (σ.1 266 a1.toNatClampNeg), .int (σ.1 268 a1.toNatClampNeg)] (c_X12_areBeside l D ad ca kz C.2.2.2.2.2.2.1 _ _ _ _ _ h14) tw_1439 gm_X12_areBeside pi_249.1 (pe_11 pi_249.2) rfl ⟨rfl, rfl⟩ ⟨Nat.le_of_ble_eq_true rfl, Nat.le_of_ble_eq_true rfl⟩ rfl (Nat.le_of_ble_eq_true rfl) dX12_canGo_37 q00 ?_
      refine q_if_eq (tgt := 62) C dX12_canGo_40 (by decide) (fun c15 => ?_) (fun c15 => ?_)
      · replace hF := ift c15 hF
        refine q_iconst (v := 0) C dX12_canGo_62 (by decide) ?_
        exact q_zret C hr hlk dX12_canGo_63 (by decide) hF
      · replace hF := ife c15 hF
        refine q_iload_n C 3 dX12_canGo_43 rfl rfl ?_
        refine q_iconst (v := 2) C dX12_canGo_44 (by decide) ?_
        refine q_irem C dX12_canGo_45 (by decide) ?_
        refine q_iconst (v := 1) C dX12_canGo_46 (by decide) ?_
        refine q_icmp_eq (tgt := 58) C dX12_canGo_47 (by decide) (fun c16 => ?_) (fun c16 => ?_)
        · replace hF := ift c16 hF
          refine q_iconst (v := 1) C dX12_canGo_58 (by decide) ?_
          refine q_goto (tgt := 63) C dX12_canGo_59 (by decide) ?_
          exact q_zret C hr hlk dX12_canGo_63 (by decide) hF
        · replace hF := ife c16 hF
          refine q_aload_n C 2 dX12_canGo_50 rfl rfl ?_
          refine q_iload_n C 0 dX12_canGo_51 rfl rfl ?_
          obtain ⟨q17, h18, hF⟩ := bnd hF
          try dsimp only at hF
          refine q_callVi C [.int (σ.1 268 a1.toNatClampNeg)] (c_X12_isBush l D ad ca kz C.2.2.2.2.2.2.1 _ _ _ _ h18) tw_1431 gm_X12_isBush pi_249.1 (pe_11 pi_249.2) rfl ⟨rfl, rfl⟩ ⟨Nat.le_of_ble_eq_true rfl, Nat.le_of_ble_eq_true rfl⟩ rfl (Nat.le_of_ble_eq_true rfl) dX12_canGo_52 q00 ?_
          refine q_if_ne (tgt := 62) C dX12_canGo_55 (by decide) (fun c19 => ?_) (fun c19 => ?_)
          · replace hF := ife c19 hF
            refine q_iconst (v := 0) C dX12_canGo_62 (by decide) ?_
            exact q_zret C hr hlk dX12_canGo_63 (by decide) hF
          · replace hF := ift c19 hF
            refine q_iconst (v := 1) C dX12_canGo_58 (by decide) ?_
            refine q_goto (tgt := 63) C dX12_canGo_59 (by decide) ?_
            exact q_zret C hr hlk dX12_canGo_63 (by decide) hF
-- X12_cell
def F_X12_cell (n : Nat) (a1 : Int32) (a2 : Int32) (σ : PS) : Option (Int32 × PS) := (F_X12_isCell n a1 σ).bind (fun q1 => (if q1.1 = 0 then some ((-1 : Int32), q1.2) else (F_X12_in n a2.toInt64 (0 : Int64) (2 : Int64) q1.2).bind (fun q4 => (if q4.1 = 0 then some ((-1 : Int32), q4.2) else (if a2 = 0 then (if 0 ≤ ((37 : Int32) + a1) ∧ ((37 : Int32) + a1).toNatClampNeg < 179 then some ((q4.2.1 259 (((37 : Int32) + a1).toNatClampNeg)), q4.2) else none) else (if a2 = (1 : Int32) then (if 0 ≤ ((73 : Int32) + a1) ∧ ((73 : Int32) + a1).toNatClampNeg < 179 then some ((q4.2.1 259 (((73 : Int32) + a1).toNatClampNeg)), q4.2) else none) else (F_X12_tentsOn n a1 q4.2).bind (fun q9 => some (q9.1, q9.2))))))))
theorem gm_X12_cell : gM "AskedCampModel" yX12_cell (Cond.code yX12_cell cX12_cell 3 (Option.some Jvm.ClassFile.FieldType.int)) 2 := ⟨by decide +kernel, tw_1375, tw_1376, tw_12, tw_1377⟩
set_option maxHeartbeats 4000000 in
set_option maxRecDepth 100000 in
theorem c_X12_cell (l : Launch) (D : va_G) (ad : Nat → Nat) (ca : Nat → ClassId) (kz : Nat → Nat) (hJ : pInj ad) (n : Nat) (a1 : Int32) (a2 : Int32) (σ : PS) (out : Int32 × PS) (hF : F_X12_cell n a1 a2 σ = some out) : Met l yX12_cell (Cond.code yX12_cell cX12_cell 3 (Option.some Jvm.ClassFile.FieldType.int) :: gw_tbl) { frames := 2, cells := 0, slots := 0, locals := 44 } (va_Pc [.ref (ad (249)), .int a1, .int a2] (pU D ad ca kz σ)) (pQi D ad ca out) 0 0 (pAD ad) := by
  refine q_entry (own := "AskedCampModel") hJ (by decide) rfl (Nat.le_of_ble_eq_true rfl) (fun p e s m below meth c C hr hlk => ?_)
  refine q_lv [(0, .ref (ad (249))), (1, .int a1), (2, .int a2)] rfl ?_
  rw [F_X12_cell] at hF
  refine q_aload_n C 0 dX12_cell_0 rfl rfl ?_
  refine q_iload_n C 1 dX12_cell_1 rfl rfl ?_
  obtain ⟨q1, h2, hF⟩ := bnd hF
  try dsimp only at hF
  refine q_callVi C [.int a1] (c_X12_isCell l D ad ca kz C.2.2.2.2.2.2.1 _ _ _ _ h2) tw_1378 gm_X12_isCell pi_249.1 (pe_11 pi_249.2) rfl ⟨rfl, rfl⟩ ⟨Nat.le_of_ble_eq_true rfl, Nat.le_of_ble_eq_true rfl⟩ rfl (Nat.le_of_ble_eq_true rfl) dX12_cell_2 q00 ?_
  refine q_if_eq (tgt := 20) C dX12_cell_5 (by decide) (fun c3 => ?_) (fun c3 => ?_)
  · replace hF := ift c3 hF
    refine q_iconst (v := -1) C dX12_cell_20 (by decide) ?_
    exact q_iret C hr hlk dX12_cell_21 hF
  · replace hF := ife c3 hF
    refine q_iload_n C 2 dX12_cell_8 rfl rfl ?_
    refine q_i2l C dX12_cell_9 ?_
    refine q_lconst (v := 0) C dX12_cell_10 (by decide) ?_
    refine q_ldc2 C dX12_cell_11 tw_1386 ?_
    obtain ⟨q4, h5, hF⟩ := bnd hF
    try dsimp only at hF
    refine q_callSi C [.long a2.toInt64, .long ((0 : Int64)), .long ((2 : Int64))] (c_X12_in l D ad ca kz C.2.2.2.2.2.2.1 _ _ _ _ _ _ h5) tw_1255 gm_X12_in ⟨rfl, rfl⟩ ⟨Nat.le_of_ble_eq_true rfl, Nat.le_of_ble_eq_true rfl⟩ rfl (Nat.le_of_ble_eq_true rfl) dX12_cell_14 q00 ?_
    refine q_if_ne (tgt := 22) C dX12_cell_17 (by decide) (fun c6 => ?_) (fun c6 => ?_)
    · replace hF := ife c6 hF
      refine q_iload_n C 2 dX12_cell_22 rfl rfl ?_
      refine q_if_ne (tgt := 38) C dX12_cell_23 (by decide) (fun c7 => ?_) (fun c7 => ?_)
      · replace hF := ife c7 hF
        refine q_iload_n C 2 dX12_cell_38 rfl rfl ?_
        refine q_iconst (v := 1) C dX12_cell_39 (by decide) ?_
        refine q_icmp_ne (tgt := 55) C dX12_cell_40 (by decide) (fun c8 => ?_) (fun c8 => ?_)
        · replace hF := ife c8 hF
          refine q_aload_n C 0 dX12_cell_55 rfl rfl ?_
          refine q_iload_n C 1 dX12_cell_56 rfl rfl ?_
          obtain ⟨q9, h10, hF⟩ := bnd hF
          try dsimp only at hF
          refine q_callVi C [.int a1] (c_X12_tentsOn l D ad ca kz C.2.2.2.2.2.2.1 _ _ _ _ h10) tw_1387 gm_X12_tentsOn pi_249.1 (pe_11 pi_249.2) rfl ⟨rfl, rfl⟩ ⟨Nat.le_of_ble_eq_true rfl, Nat.le_of_ble_eq_true rfl⟩ rfl (Nat.le_of_ble_eq_true rfl) dX12_cell_57 q00 ?_
          exact q_iret C hr hlk dX12_cell_60 hF
        · replace hF := ift c8 hF
          refine q_aload_n C 0 dX12_cell_43 rfl rfl ?_
          refine qg_11_20 C pi_249 tw_1073 dX12_cell_44 ?_
          refine q_bipush (v := 73) C dX12_cell_47 (by decide) ?_
          refine q_iload_n C 1 dX12_cell_49 rfl rfl ?_
          refine q_iadd C dX12_cell_50 ?_
          obtain ⟨g11, hF⟩ := grd hF
          refine q_iald C pa_259 (vp_of g11) dX12_cell_51 ?_
          refine q_goto (tgt := 60) C dX12_cell_52 (by decide) ?_
          exact q_iret C hr hlk dX12_cell_60 hF
      · replace hF := ift c7 hF
        refine q_aload_n C 0 dX12_cell_26 rfl rfl ?_
        refine qg_11_20 C pi_249 tw_1073 dX12_cell_27 ?_
        refine q_bipush (v := 37) C dX12_cell_30 (by decide) ?_
        refine q_iload_n C 1 dX12_cell_32 rfl rfl ?_
        refine q_iadd C dX12_cell_33 ?_
        obtain ⟨g12, hF⟩ := grd hF
        refine q_iald C pa_259 (vp_of g12) dX12_cell_34 ?_
        refine q_goto (tgt := 60) C dX12_cell_35 (by decide) ?_
        exact q_iret C hr hlk dX12_cell_60 hF
    · replace hF := ift c6 hF
      refine q_iconst (v := -1) C dX12_cell_20 (by decide) ?_
      exact q_iret C hr hlk dX12_cell_21 hF
-- X12_count
def L_X12_count_128 (n : Nat) : Nat → Int32 → Int32 → PS → Option (Int32 × PS)
  | 0, _, _, _ => none
  | k + 1, x2, x3, σ => (if (σ.1 259 2) ≤ x3 then some (x2, σ) else (F_X12_askedOf n x3 σ).bind (fun q15 => (if q15.1 ≤ 0 then L_X12_count_128 n k (x2 ||| (0 : Int32)) (x3 + 1) q15.2 else L_X12_count_128 n k (x2 ||| ((1 : Int32) <<< (x3 &&& 31))) (x3 + 1) q15.2)))
def L_X12_count_171 (n : Nat) : Nat → Int32 → Int32 → PS → Option (Int32 × PS)
  | 0, _, _, _ => none
  | k + 1, x2, x3, σ => (F_X12_cells n σ).bind (fun q24 => (if q24.1 ≤ x3 then some (x2, q24.2) else (if 0 ≤ ((37 : Int32) + x3) ∧ ((37 : Int32) + x3).toNatClampNeg < 179 then L_X12_count_171 n k (x2 + (q24.2.1 259 (((37 : Int32) + x3).toNatClampNeg))) (x3 + 1) q24.2 else none)))
def F_X12_count (n : Nat) (a1 : Int32) (σ : PS) : Option (Int32 × PS) := (if a1 = (0 : Int32) then (if 0 ≤ (a1 + (1 : Int32)) ∧ (a1 + (1 : Int32)).toNatClampNeg < 179 then some ((σ.1 259 ((a1 + (1 : Int32)).toNatClampNeg)), σ) else none) else (if a1 = (1 : Int32) then (if 0 ≤ (a1 + (1 : Int32)) ∧ (a1 + (1 : Int32)).toNatClampNeg < 179 then some ((σ.1 259 ((a1 + (1 : Int32)).toNatClampNeg)), σ) else none) else (if a1 = (2 : Int32) then some ((σ.1 249 2), σ) else (if a1 = (3 : Int32) then some ((σ.1 249 21), σ) else (if a1 = (4 : Int32) then some ((σ.1 259 10), σ) else (if a1 = (5 : Int32) then (F_X12_isCamp n σ).bind (fun q9 => (if q9.1 = 0 then some ((-1 : Int32), q9.2) else some ((q9.2.1 259 11), q9.2))) else (if a1 = (6 : Int32) then some ((σ.1 259 12), σ) else (if a1 = (7 : Int32) then (L_X12_count_128 n n (0 : Int32) (0 : Int32) σ).bind (fun o18 => some (o18.1, o18.2)) else (if a1 = (8 : Int32) then (F_X12_askedAll n σ).bind (fun q21 => some (q21.1, q21.2)) else (if a1 = (9 : Int32) then (L_X12_count_171 n n (0 : Int32) (0 : Int32) σ).bind (fun o28 => some (o28.1, o28.2)) else (if a1 = (10 : Int32) then some ((σ.1 259 178), σ) else (if a1 = (11 : Int32) then some ((σ.1 249 26), σ) else (if a1 = (12 : Int32) then some ((σ.1 249 22), σ) else (if a1 = (13 : Int32) then some ((σ.1 249 1), σ) else some ((-1 : Int32), σ)))))))))))))))
theorem gm_X12_count : gM "AskedCampModel" yX12_count (Cond.code yX12_count cX12_count 4 (Option.some Jvm.ClassFile.FieldType.int)) 1 := ⟨by decide +kernel, tw_1668, tw_1669, tw_12, tw_1670⟩
set_option maxHeartbeats 4000000 in
set_option maxRecDepth 100000 in
theorem l_X12_count_128 {p : Program} {l : Launch} {e : Env} {R : Room} {s : State} {m : MethodId} {args : Array Value} {below : List Frame} {meth : Method} {c : Code} {D : va_G} {ad : Nat → Nat} {ca : Nat → ClassId} {kz : Nat → Nat} {Q : State → Prop} (C : pC p s m args c cX12_count "AskedCampModel" 4 D ad ca kz) (hR : 2 ≤ R.frames ∧ 43 ≤ R.locals) {n : Nat} (o : Int32 × PS) (hx0 : PW p l e R s m args below meth c 4 D ad ca 0 0 Q (o.2) 162 [(2, .int o.1)] []) : ∀ (k : Nat) (x2 : Int32) (x3 : Int32) (σ : PS), L_X12_count_128 n k x2 x3 σ = some o → PW p l e R s m args below meth c 4 D ad ca 0 0 Q σ 128 [(0, .ref (ad (249))), (2, .int x2), (3, .int x3)] [] := by
  intro k
  induction k with
  | zero => intro x2 x3 σ hF; exact nomatch (show (none : Option (Int32 × PS)) = some o from hF)
  | succ k ih =>
    intro x2 x3 σ hF
    rw [L_X12_count_128] at hF
    refine q_iload_n C 2 dX12_count_128 rfl rfl ?_
    refine q_aload_n C 0 dX12_count_129 rfl rfl ?_
    refine qg_11_20 C pi_249 tw_1073 dX12_count_130 ?_
    refine q_iconst (v := 2) C dX12_count_133 (by decide) ?_
    refine q_ialdk (jn := 2) C pa_259 (vp_of (by decide)) rfl dX12_count_134 ?_
    refine q_icmp_ge (tgt := 162) C dX12_count_135 (by decide) (fun c14 => ?_) (fun c14 => ?_)
    · replace hF := ift c14 hF
      cases hF
      refine q_sub [1] rfl ?_
      exact hx0
    · replace hF := ife c14 hF
      refine q_iload_n C 1 dX12_count_138 rfl rfl ?_
      refine q_aload_n C 0 dX12_count_139 rfl rfl ?_
      refine q_iload_n C 2 dX12_count_140 rfl rfl ?_
      obtain ⟨q15, h16, hF⟩ := bnd hF
      try dsimp only at hF
      refine q_callVi C [.int x3] (c_X12_askedOf l D ad ca kz C.2.2.2.2.2.2.1 _ _ _ _ h16) tw_1435 gm_X12_askedOf pi_249.1 (pe_11 pi_249.2) rfl ⟨rfl, rfl⟩ ⟨Nat.le_trans (Nat.le_of_ble_eq_true rfl) hR.1, Nat.le_trans (Nat.le_of_ble_eq_true rfl) hR.2⟩ rfl (Nat.le_of_ble_eq_true rfl) dX12_count_141 q00 ?_
      refine q_if_le (tgt := 153) C dX12_count_144 (by decide) (fun c17 => ?_) (fun c17 => ?_)
      · replace hF := ift c17 hF
        refine q_iconst (v := 0) C dX12_count_153 (by decide) ?_
        refine q_ior C dX12_count_154 ?_
        refine q_istore_n C [(2, .int (x2 ||| (0 : Int32))), (0, .ref (ad (249))), (3, .int x3)] dX12_count_155 rfl (by decide) rfl ?_
        refine q_iinc C 2 [(3, .int (x3 + 1)), (2, .int (x2 ||| (0 : Int32))), (0, .ref (ad (249)))] dX12_count_156 rfl rfl (by decide) rfl ?_
        refine q_goto (tgt := 128) C dX12_count_159 (by decide) ?_
        refine q_sub [2, 1, 0] rfl ?_
        exact ih _ _ _ hF
      · replace hF := ife c17 hF
        refine q_iconst (v := 1) C dX12_count_147 (by decide) ?_
        refine q_iload_n C 2 dX12_count_148 rfl rfl ?_
        refine q_ishl C dX12_count_149 ?_
        refine q_goto (tgt := 154) C dX12_count_150 (by decide) ?_
        refine q_ior C dX12_count_154 ?_
        refine q_istore_n C [(2, .int (x2 ||| ((1 : Int32) <<< (x3 &&& 31)))), (0, .ref (ad (249))), (3, .int x3)] dX12_count_155 rfl (by decide) rfl ?_
        refine q_iinc C 2 [(3, .int (x3 + 1)), (2, .int (x2 ||| ((1 : Int32) <<< (x3 &&& 31)))), (0, .ref (ad (249)))] dX12_count_156 rfl rfl (by decide) rfl ?_
        refine q_goto (tgt := 128) C dX12_count_159 (by decide) ?_
        refine q_sub [2, 1, 0] rfl ?_
        exact ih _ _ _ hF
set_option maxHeartbeats 4000000 in
set_option maxRecDepth 100000 in
theorem l_X12_count_171 {p : Program} {l : Launch} {e : Env} {R : Room} {s : State} {m : MethodId} {args : Array Value} {below : List Frame} {meth : Method} {c : Code} {D : va_G} {ad : Nat → Nat} {ca : Nat → ClassId} {kz : Nat → Nat} {Q : State → Prop} (C : pC p s m args c cX12_count "AskedCampModel" 4 D ad ca kz) (hR : 2 ≤ R.frames ∧ 43 ≤ R.locals) {n : Nat} (o : Int32 × PS) (hx0 : PW p l e R s m args below meth c 4 D ad ca 0 0 Q (o.2) 197 [(2, .int o.1)] []) : ∀ (k : Nat) (x2 : Int32) (x3 : Int32) (σ : PS), L_X12_count_171 n k x2 x3 σ = some o → PW p l e R s m args below meth c 4 D ad ca 0 0 Q σ 171 [(0, .ref (ad (249))), (2, .int x2), (3, .int x3)] [] := by
  intro k
  induction k with
  | zero => intro x2 x3 σ hF; exact nomatch (show (none : Option (Int32 × PS)) = some o from hF)
  | succ k ih =>
    intro x2 x3 σ hF
    rw [L_X12_count_171] at hF
    refine q_iload_n C 2 dX12_count_171 rfl rfl ?_
    refine q_aload_n C 0 dX12_count_172 rfl rfl ?_
    obtain ⟨q24, h25, hF⟩ := bnd hF
    try dsimp only at hF
    refine q_callVi C [] (c_X12_cells l D ad ca kz C.2.2.2.2.2.2.1 _ _ _ h25) tw_1382 gm_X12_cells pi_249.1 (pe_11 pi_249.2) rfl ⟨rfl, rfl⟩ ⟨Nat.le_trans (Nat.le_of_ble_eq_true rfl) hR.1, Nat.le_trans (Nat.le_of_ble_eq_true rfl) hR.2⟩ rfl (Nat.le_of_ble_eq_true rfl) dX12_count_173 q00 ?_
    refine q_icmp_ge (tgt := 197) C dX12_count_176 (by decide) (fun c26 => ?_) (fun c26 => ?_)
    · replace hF := ift c26 hF
      cases hF
      refine q_sub [1] rfl ?_
      exact hx0
    · replace hF := ife c26 hF
      refine q_iload_n C 1 dX12_count_179 rfl rfl ?_
      refine q_aload_n C 0 dX12_count_180 rfl rfl ?_
      refine qg_11_20 C pi_249 tw_1073 dX12_count_181 ?_
      refine q_bipush (v := 37) C dX12_count_184 (by decide) ?_
      refine q_iload_n C 2 dX12_count_186 rfl rfl ?_
      refine q_iadd C dX12_count_187 ?_
      obtain ⟨g27, hF⟩ := grd hF
      refine q_iald C pa_259 (vp_of g27) dX12_count_188 ?_
      refine q_iadd C dX12_count_189 ?_
      refine q_istore_n C [(2, .int (x2 + (q24.2.1 259 (((37 : Int32) + x3).toNatClampNeg)))), (0, .ref (ad (249))), (3, .int x3)] dX12_count_190 rfl (by decide) rfl ?_
      refine q_iinc C 2 [(3, .int (x3 + 1)), (2, .int (x2 + (q24.2.1 259 (((37 : Int32) + x3).toNatClampNeg)))), (0, .ref (ad (249)))] dX12_count_191 rfl rfl (by decide) rfl ?_
      refine q_goto (tgt := 171) C dX12_count_194 (by decide) ?_
      refine q_sub [2, 1, 0] rfl ?_
      exact ih _ _ _ hF
set_option maxHeartbeats 4000000 in
set_option maxRecDepth 100000 in
theorem c_X12_count (l : Launch) (D : va_G) (ad : Nat → Nat) (ca : Nat → ClassId) (kz : Nat → Nat) (hJ : pInj ad) (n : Nat) (a1 : Int32) (σ : PS) (out : Int32 × PS) (hF : F_X12_count n a1 σ = some out) : Met l yX12_count (Cond.code yX12_count cX12_count 4 (Option.some Jvm.ClassFile.FieldType.int) :: gw_tbl) { frames := 2, cells := 0, slots := 0, locals := 43 } (va_Pc [.ref (ad (249)), .int a1] (pU D ad ca kz σ)) (pQi D ad ca out) 0 0 (pAD ad) := by
  refine q_entry (own := "AskedCampModel") hJ (by decide) rfl (Nat.le_of_ble_eq_true rfl) (fun p e s m below meth c C hr hlk => ?_)
  refine q_lv [(0, .ref (ad (249))), (1, .int a1)] rfl ?_
  rw [F_X12_count] at hF
  refine q_iconst (v := 0) C dX12_count_0 (by decide) ?_
  refine q_istore_n C [(2, .int 0), (0, .ref (ad (249))), (1, .int a1)] dX12_count_1 rfl (by decide) rfl ?_
  refine q_iload_n C 2 dX12_count_2 rfl rfl ?_
  by_cases c1 : a1 = (0 : Int32)
  · replace hF := ift c1 hF
    refine q_tableIn (off := 69) (tgt := 72) C dX12_count_3 (by rw [c1]; decide) (by rw [c1]; decide) (by rw [c1] <;> rfl) (by decide) ?_
    refine q_aload_n C 1 dX12_count_72 rfl rfl ?_
    refine qg_11_20 C pi_249 tw_1073 dX12_count_73 ?_
    refine q_iload_n C 2 dX12_count_76 rfl rfl ?_
    refine q_iconst (v := 1) C dX12_count_77 (by decide) ?_
    refine q_iadd C dX12_count_78 ?_
    obtain ⟨g2, hF⟩ := grd hF
    refine q_iald C pa_259 (vp_of g2) dX12_count_79 ?_
    exact q_iret C hr hlk dX12_count_80 hF
  replace hF := ife c1 hF
  by_cases c3 : a1 = (1 : Int32)
  · replace hF := ift c3 hF
    refine q_tableIn (off := 69) (tgt := 72) C dX12_count_3 (by rw [c3]; decide) (by rw [c3]; decide) (by rw [c3] <;> rfl) (by decide) ?_
    refine q_aload_n C 1 dX12_count_72 rfl rfl ?_
    refine qg_11_20 C pi_249 tw_1073 dX12_count_73 ?_
    refine q_iload_n C 2 dX12_count_76 rfl rfl ?_
    refine q_iconst (v := 1) C dX12_count_77 (by decide) ?_
    refine q_iadd C dX12_count_78 ?_
    obtain ⟨g4, hF⟩ := grd hF
    refine q_iald C pa_259 (vp_of g4) dX12_count_79 ?_
    exact q_iret C hr hlk dX12_count_80 hF
  replace hF := ife c3 hF
  by_cases c5 : a1 = (2 : Int32)
  · replace hF := ift c5 hF
    refine q_tableIn (off := 78) (tgt := 81) C dX12_count_3 (by rw [c5]; decide) (by rw [c5]; decide) (by rw [c5] <;> rfl) (by decide) ?_
    refine q_aload_n C 1 dX12_count_81 rfl rfl ?_
    refine qg_11_2 C pi_249 tw_1055 dX12_count_82 ?_
    exact q_iret C hr hlk dX12_count_85 hF
  replace hF := ife c5 hF
  by_cases c6 : a1 = (3 : Int32)
  · replace hF := ift c6 hF
    refine q_tableIn (off := 83) (tgt := 86) C dX12_count_3 (by rw [c6]; decide) (by rw [c6]; decide) (by rw [c6] <;> rfl) (by decide) ?_
    refine q_aload_n C 1 dX12_count_86 rfl rfl ?_
    refine qg_11_21 C pi_249 tw_1074 dX12_count_87 ?_
    exact q_iret C hr hlk dX12_count_90 hF
  replace hF := ife c6 hF
  by_cases c7 : a1 = (4 : Int32)
  · replace hF := ift c7 hF
    refine q_tableIn (off := 88) (tgt := 91) C dX12_count_3 (by rw [c7]; decide) (by rw [c7]; decide) (by rw [c7] <;> rfl) (by decide) ?_
    refine q_aload_n C 1 dX12_count_91 rfl rfl ?_
    refine qg_11_20 C pi_249 tw_1073 dX12_count_92 ?_
    refine q_bipush (v := 10) C dX12_count_95 (by decide) ?_
    refine q_ialdk (jn := 10) C pa_259 (vp_of (by decide)) rfl dX12_count_97 ?_
    exact q_iret C hr hlk dX12_count_98 hF
  replace hF := ife c7 hF
  by_cases c8 : a1 = (5 : Int32)
  · replace hF := ift c8 hF
    refine q_tableIn (off := 96) (tgt := 99) C dX12_count_3 (by rw [c8]; decide) (by rw [c8]; decide) (by rw [c8] <;> rfl) (by decide) ?_
    refine q_aload_n C 1 dX12_count_99 rfl rfl ?_
    obtain ⟨q9, h10, hF⟩ := bnd hF
    try dsimp only at hF
    refine q_callVi C [] (c_X12_isCamp l D ad ca kz C.2.2.2.2.2.2.1 _ _ _ h10) tw_1403 gm_X12_isCamp pi_249.1 (pe_11 pi_249.2) rfl ⟨rfl, rfl⟩ ⟨Nat.le_of_ble_eq_true rfl, Nat.le_of_ble_eq_true rfl⟩ rfl (Nat.le_of_ble_eq_true rfl) dX12_count_100 q00 ?_
    refine q_if_eq (tgt := 116) C dX12_count_103 (by decide) (fun c11 => ?_) (fun c11 => ?_)
    · replace hF := ift c11 hF
      refine q_iconst (v := -1) C dX12_count_116 (by decide) ?_
      exact q_iret C hr hlk dX12_count_117 hF
    · replace hF := ife c11 hF
      refine q_aload_n C 1 dX12_count_106 rfl rfl ?_
      refine qg_11_20 C pi_249 tw_1073 dX12_count_107 ?_
      refine q_bipush (v := 11) C dX12_count_110 (by decide) ?_
      refine q_ialdk (jn := 11) C pa_259 (vp_of (by decide)) rfl dX12_count_112 ?_
      refine q_goto (tgt := 117) C dX12_count_113 (by decide) ?_
      exact q_iret C hr hlk dX12_count_117 hF
  replace hF := ife c8 hF
  by_cases c12 : a1 = (6 : Int32)
  · replace hF := ift c12 hF
    refine q_tableIn (off := 115) (tgt := 118) C dX12_count_3 (by rw [c12]; decide) (by rw [c12]; decide) (by rw [c12] <;> rfl) (by decide) ?_
    refine q_aload_n C 1 dX12_count_118 rfl rfl ?_
    refine qg_11_20 C pi_249 tw_1073 dX12_count_119 ?_
    refine q_bipush (v := 12) C dX12_count_122 (by decide) ?_
    refine q_ialdk (jn := 12) C pa_259 (vp_of (by decide)) rfl dX12_count_124 ?_
    exact q_iret C hr hlk dX12_count_125 hF
  replace hF := ife c12 hF
  by_cases c13 : a1 = (7 : Int32)
  · replace hF := ift c13 hF
    refine q_tableIn (off := 123) (tgt := 126) C dX12_count_3 (by rw [c13]; decide) (by rw [c13]; decide) (by rw [c13] <;> rfl) (by decide) ?_
    refine q_iconst (v := 0) C dX12_count_126 (by decide) ?_
    refine q_istore_n C [(3, .int 0), (2, .int 0), (0, .ref (ad (249))), (1, .int a1)] dX12_count_127 rfl (by decide) rfl ?_
    obtain ⟨o18, h19, hF⟩ := bnd hF
    try dsimp only at hF
    refine q_sub [2, 1, 0] rfl ?_
    refine l_X12_count_128 C ⟨Nat.le_of_ble_eq_true rfl, Nat.le_of_ble_eq_true rfl⟩ o18 ?_ n _ _ _ h19
    refine q_iload_n C 0 dX12_count_162 rfl rfl ?_
    exact q_iret C hr hlk dX12_count_163 hF
  replace hF := ife c13 hF
  by_cases c20 : a1 = (8 : Int32)
  · replace hF := ift c20 hF
    refine q_tableIn (off := 161) (tgt := 164) C dX12_count_3 (by rw [c20]; decide) (by rw [c20]; decide) (by rw [c20] <;> rfl) (by decide) ?_
    refine q_aload_n C 1 dX12_count_164 rfl rfl ?_
    obtain ⟨q21, h22, hF⟩ := bnd hF
    try dsimp only at hF
    refine q_callVi C [] (c_X12_askedAll l D ad ca kz C.2.2.2.2.2.2.1 _ _ _ h22) tw_1454 gm_X12_askedAll pi_249.1 (pe_11 pi_249.2) rfl ⟨rfl, rfl⟩ ⟨Nat.le_of_ble_eq_true rfl, Nat.le_of_ble_eq_true rfl⟩ rfl (Nat.le_of_ble_eq_true rfl) dX12_count_165 q00 ?_
    exact q_iret C hr hlk dX12_count_168 hF
  replace hF := ife c20 hF
  by_cases c23 : a1 = (9 : Int32)
  · replace hF := ift c23 hF
    refine q_tableIn (off := 166) (tgt := 169) C dX12_count_3 (by rw [c23]; decide) (by rw [c23]; decide) (by rw [c23] <;> rfl) (by decide) ?_
    refine q_iconst (v := 0) C dX12_count_169 (by decide) ?_
    refine q_istore_n C [(3, .int 0), (2, .int 0), (0, .ref (ad (249))), (1, .int a1)] dX12_count_170 rfl (by decide) rfl ?_
    obtain ⟨o28, h29, hF⟩ := bnd hF
    try dsimp only at hF
    refine q_sub [2, 1, 0] rfl ?_
    refine l_X12_count_171 C ⟨Nat.le_of_ble_eq_true rfl, Nat.le_of_ble_eq_true rfl⟩ o28 ?_ n _ _ _ h29
    refine q_iload_n C 0 dX12_count_197 rfl rfl ?_
    exact q_iret C hr hlk dX12_count_198 hF
  replace hF := ife c23 hF
  by_cases c30 : a1 = (10 : Int32)
  · replace hF := ift c30 hF
    refine q_tableIn (off := 196) (tgt := 199) C dX12_count_3 (by rw [c30]; decide) (by rw [c30]; decide) (by rw [c30] <;> rfl) (by decide) ?_
    refine q_aload_n C 1 dX12_count_199 rfl rfl ?_
    refine qg_11_20 C pi_249 tw_1073 dX12_count_200 ?_
    refine q_sipush (v := 178) C dX12_count_203 (by decide) ?_
    refine q_ialdk (jn := 178) C pa_259 (vp_of (by decide)) rfl dX12_count_206 ?_
    exact q_iret C hr hlk dX12_count_207 hF
  replace hF := ife c30 hF
  by_cases c31 : a1 = (11 : Int32)
  · replace hF := ift c31 hF
    refine q_tableIn (off := 205) (tgt := 208) C dX12_count_3 (by rw [c31]; decide) (by rw [c31]; decide) (by rw [c31] <;> rfl) (by decide) ?_
    refine q_aload_n C 1 dX12_count_208 rfl rfl ?_
    refine qg_11_26 C pi_249 tw_1079 dX12_count_209 ?_
    exact q_iret C hr hlk dX12_count_212 hF
  replace hF := ife c31 hF
  by_cases c32 : a1 = (12 : Int32)
  · replace hF := ift c32 hF
    refine q_tableIn (off := 210) (tgt := 213) C dX12_count_3 (by rw [c32]; decide) (by rw [c32]; decide) (by rw [c32] <;> rfl) (by decide) ?_
    refine q_aload_n C 1 dX12_count_213 rfl rfl ?_
    refine qg_11_22 C pi_249 tw_1075 dX12_count_214 ?_
    exact q_iret C hr hlk dX12_count_217 hF
  replace hF := ife c32 hF
  by_cases c33 : a1 = (13 : Int32)
  · replace hF := ift c33 hF
    refine q_tableIn (off := 215) (tgt := 218) C dX12_count_3 (by rw [c33]; decide) (by rw [c33]; decide) (by rw [c33] <;> rfl) (by decide) ?_
    refine q_aload_n C 1 dX12_count_218 rfl rfl ?_
    refine qg_11_1 C pi_249 tw_1054 dX12_count_219 ?_
    exact q_iret C hr hlk dX12_count_222 hF
  replace hF := ife c33 hF
  refine q_tableOut (tgt := 223) C dX12_count_3 (by have ec1 := sw_ne c1; have ec3 := sw_ne c3; have ec5 := sw_ne c5; have ec6 := sw_ne c6; have ec7 := sw_ne c7; have ec8 := sw_ne c8; have ec12 := sw_ne c12; have ec13 := sw_ne c13; have ec20 := sw_ne c20; have ec23 := sw_ne c23; have ec30 := sw_ne c30; have ec31 := sw_ne c31; have ec32 := sw_ne c32; have ec33 := sw_ne c33; simp only [sw_lit] at ec1 ec3 ec5 ec6 ec7 ec8 ec12 ec13 ec20 ec23 ec30 ec31 ec32 ec33; omega) (by decide) ?_
  refine q_iconst (v := -1) C dX12_count_223 (by decide) ?_
  exact q_iret C hr hlk dX12_count_224 hF
-- X12_wayBetween
def F_X12_wayBetween (n : Nat) (a1 : Int32) (a2 : Int32) (σ : PS) : Option (Int32 × PS) := (F_X12_measures n a1 σ).bind (fun q1 => (if 0 ≤ a2 ∧ a2.toNatClampNeg < 36 then some ((q1.1 260 a2.toNatClampNeg), q1) else none))
theorem gm_X12_wayBetween : gM "AskedCampModel" yX12_wayBetween (Cond.code yX12_wayBetween cX12_wayBetween 3 (Option.some Jvm.ClassFile.FieldType.int)) 2 := ⟨by decide +kernel, tw_1490, tw_p82, tw_12, tw_1491⟩
set_option maxHeartbeats 4000000 in
set_option maxRecDepth 100000 in
theorem c_X12_wayBetween (l : Launch) (D : va_G) (ad : Nat → Nat) (ca : Nat → ClassId) (kz : Nat → Nat) (hJ : pInj ad) (n : Nat) (a1 : Int32) (a2 : Int32) (σ : PS) (out : Int32 × PS) (hF : F_X12_wayBetween n a1 a2 σ = some out) : Met l yX12_wayBetween (Cond.code yX12_wayBetween cX12_wayBetween 3 (Option.some Jvm.ClassFile.FieldType.int) :: gw_tbl) { frames := 3, cells := 0, slots := 0, locals := 69 } (va_Pc [.ref (ad (249)), .int a1, .int a2] (pU D ad ca kz σ)) (pQi D ad ca out) 0 0 (pAD ad) := by
  refine q_entry (own := "AskedCampModel") hJ (by decide) rfl (Nat.le_of_ble_eq_true rfl) (fun p e s m below meth c C hr hlk => ?_)
  refine q_lv [(0, .ref (ad (249))), (1, .int a1), (2, .int a2)] rfl ?_
  rw [F_X12_wayBetween] at hF
  refine q_aload_n C 0 dX12_wayBetween_0 rfl rfl ?_
  refine q_iload_n C 1 dX12_wayBetween_1 rfl rfl ?_
  obtain ⟨q1, h2, hF⟩ := bnd hF
  try dsimp only at hF
  refine q_callVv C [.int a1] (c_X12_measures l D ad ca kz C.2.2.2.2.2.2.1 _ _ _ _ h2) tw_1423 gm_X12_measures pi_249.1 (pe_11 pi_249.2) rfl ⟨rfl, rfl⟩ ⟨Nat.le_of_ble_eq_true rfl, Nat.le_of_ble_eq_true rfl⟩ rfl (Nat.le_of_ble_eq_true rfl) dX12_wayBetween_2 q00 ?_
  refine q_aload_n C 0 dX12_wayBetween_5 rfl rfl ?_
  refine qg_11_23 C pi_249 tw_1076 dX12_wayBetween_6 ?_
  refine q_iload_n C 2 dX12_wayBetween_9 rfl rfl ?_
  obtain ⟨g3, hF⟩ := grd hF
  refine q_iald C pa_260 (vp_of g3) dX12_wayBetween_10 ?_
  exact q_iret C hr hlk dX12_wayBetween_11 hF
-- X12_isCutBy
def L_X12_isCutBy_88 (n : Nat) : Nat → Int32 → Int32 → Int32 → PS → Option (Int32 × Int32 × Int32 × PS)
  | 0, _, _, _, _ => none
  | k + 1, x1, x2, x3, σ => (if 0 ≤ x3 ∧ x3.toNatClampNeg < 4 then (F_X12_cells n σ).bind (fun q6 => (if q6.1 ≤ (σ.1 264 x3.toNatClampNeg) then some (x1, x2, x3, q6.2) else (F_X12_canCut n (q6.2.1 264 x3.toNatClampNeg) x1 q6.2).bind (fun q9 => (if q9.1 = 0 then L_X12_isCutBy_88 n k x1 x2 x3 (psI q9.2 264 x3.toNatClampNeg ((q9.2.1 264 x3.toNatClampNeg) + (1 : Int32))) else some (x1, x2, x3, q9.2))))) else none)
def L_X12_isCutBy_16 (n : Nat) : Nat → Int32 → Int32 → Int32 → PS → Option (Nat × PS)
  | 0, _, _, _, _ => none
  | k + 1, x1, x2, x3, σ => (if x3 < 0 then some (1, σ) else (if x3 = x2 then (F_X12_cellOf n x1 σ).bind (fun q34 => (F_X12_wayBetween n (σ.1 259 11) q34.1 q34.2).bind (fun q36 => (if q36.1 = (99 : Int32) then some (0, q36.2) else L_X12_isCutBy_16 n k x1 x2 (x3 + (-1)) q36.2))) else (if 0 ≤ x3 ∧ x3.toNatClampNeg < 4 then (if (σ.1 265 x3.toNatClampNeg) = 0 then (L_X12_isCutBy_88 n n x1 x2 x3 (psI σ 264 x3.toNatClampNeg ((σ.1 264 x3.toNatClampNeg) + (1 : Int32)))).bind (fun o5 => (if 0 ≤ o5.2.2.1 ∧ o5.2.2.1.toNatClampNeg < 4 then (F_X12_cells n o5.2.2.2).bind (fun q8 => (if q8.1 ≤ (o5.2.2.2.1 264 o5.2.2.1.toNatClampNeg) then (if ((psI q8.2 265 o5.2.2.1.toNatClampNeg (vp_nar .boolean (0 : Int32))).1 265 o5.2.2.1.toNatClampNeg) = 0 then L_X12_isCutBy_16 n k o5.1 o5.2.1 (o5.2.2.1 + (-1)) (psI q8.2 265 o5.2.2.1.toNatClampNeg (vp_nar .boolean (0 : Int32))) else (if 0 ≤ ((37 : Int32) + ((psI q8.2 265 o5.2.2.1.toNatClampNeg (vp_nar .boolean (0 : Int32))).1 264 o5.2.2.1.toNatClampNeg)) ∧ ((37 : Int32) + ((psI q8.2 265 o5.2.2.1.toNatClampNeg (vp_nar .boolean (0 : Int32))).1 264 o5.2.2.1.toNatClampNeg)).toNatClampNeg < 179 then (if 0 ≤ ((o5.2.2.1 + 1) - (1 : Int32)) ∧ ((o5.2.2.1 + 1) - (1 : Int32)).toNatClampNeg < 4 then (if 0 ≤ (o5.2.2.1 + 1) ∧ (o5.2.2.1 + 1).toNatClampNeg < 4 then L_X12_isCutBy_16 n k o5.1 o5.2.1 (o5.2.2.1 + 1) (psI (psI (psI (psI q8.2 265 o5.2.2.1.toNatClampNeg (vp_nar .boolean (0 : Int32))) 259 (((37 : Int32) + ((psI q8.2 265 o5.2.2.1.toNatClampNeg (vp_nar .boolean (0 : Int32))).1 264 o5.2.2.1.toNatClampNeg)).toNatClampNeg) (1 : Int32)) 264 ((o5.2.2.1 + 1).toNatClampNeg) ((psI (psI q8.2 265 o5.2.2.1.toNatClampNeg (vp_nar .boolean (0 : Int32))) 259 (((37 : Int32) + ((psI q8.2 265 o5.2.2.1.toNatClampNeg (vp_nar .boolean (0 : Int32))).1 264 o5.2.2.1.toNatClampNeg)).toNatClampNeg) (1 : Int32)).1 264 (((o5.2.2.1 + 1) - (1 : Int32)).toNatClampNeg))) 265 ((o5.2.2.1 + 1).toNatClampNeg) (vp_nar .boolean (0 : Int32))) else none) else none) else none)) else (if ((psI q8.2 265 o5.2.2.1.toNatClampNeg (vp_nar .boolean (1 : Int32))).1 265 o5.2.2.1.toNatClampNeg) = 0 then L_X12_isCutBy_16 n k o5.1 o5.2.1 (o5.2.2.1 + (-1)) (psI q8.2 265 o5.2.2.1.toNatClampNeg (vp_nar .boolean (1 : Int32))) else (if 0 ≤ ((37 : Int32) + ((psI q8.2 265 o5.2.2.1.toNatClampNeg (vp_nar .boolean (1 : Int32))).1 264 o5.2.2.1.toNatClampNeg)) ∧ ((37 : Int32) + ((psI q8.2 265 o5.2.2.1.toNatClampNeg (vp_nar .boolean (1 : Int32))).1 264 o5.2.2.1.toNatClampNeg)).toNatClampNeg < 179 then (if 0 ≤ ((o5.2.2.1 + 1) - (1 : Int32)) ∧ ((o5.2.2.1 + 1) - (1 : Int32)).toNatClampNeg < 4 then (if 0 ≤ (o5.2.2.1 + 1) ∧ (o5.2.2.1 + 1).toNatClampNeg < 4 then L_X12_isCutBy_16 n k o5.1 o5.2.1 (o5.2.2.1 + 1) (psI (psI (psI (psI q8.2 265 o5.2.2.1.toNatClampNeg (vp_nar .boolean (1 : Int32))) 259 (((37 : Int32) + ((psI q8.2 265 o5.2.2.1.toNatClampNeg (vp_nar .boolean (1 : Int32))).1 264 o5.2.2.1.toNatClampNeg)).toNatClampNeg) (1 : Int32)) 264 ((o5.2.2.1 + 1).toNatClampNeg) ((psI (psI q8.2 265 o5.2.2.1.toNatClampNeg (vp_nar .boolean (1 : Int32))) 259 (((37 : Int32) + ((psI q8.2 265 o5.2.2.1.toNatClampNeg (vp_nar .boolean (1 : Int32))).1 264 o5.2.2.1.toNatClampNeg)).toNatClampNeg) (1 : Int32)).1 264 (((o5.2.2.1 + 1) - (1 : Int32)).toNatClampNeg))) 265 ((o5.2.2.1 + 1).toNatClampNeg) (vp_nar .boolean (0 : Int32))) else none) else none) else none)))) else none)) else (if 0 ≤ ((37 : Int32) + (σ.1 264 x3.toNatClampNeg)) ∧ ((37 : Int32) + (σ.1 264 x3.toNatClampNeg)).toNatClampNeg < 179 then (L_X12_isCutBy_88 n n x1 x2 x3 (psI (psI σ 259 (((37 : Int32) + (σ.1 264 x3.toNatClampNeg)).toNatClampNeg) (0 : Int32)) 264 x3.toNatClampNeg (((psI σ 259 (((37 : Int32) + (σ.1 264 x3.toNatClampNeg)).toNatClampNeg) (0 : Int32)).1 264 x3.toNatClampNeg) + (1 : Int32)))).bind (fun o20 => (if 0 ≤ o20.2.2.1 ∧ o20.2.2.1.toNatClampNeg < 4 then (F_X12_cells n o20.2.2.2).bind (fun q23 => (if q23.1 ≤ (o20.2.2.2.1 264 o20.2.2.1.toNatClampNeg) then (if ((psI q23.2 265 o20.2.2.1.toNatClampNeg (vp_nar .boolean (0 : Int32))).1 265 o20.2.2.1.toNatClampNeg) = 0 then L_X12_isCutBy_16 n k o20.1 o20.2.1 (o20.2.2.1 + (-1)) (psI q23.2 265 o20.2.2.1.toNatClampNeg (vp_nar .boolean (0 : Int32))) else (if 0 ≤ ((37 : Int32) + ((psI q23.2 265 o20.2.2.1.toNatClampNeg (vp_nar .boolean (0 : Int32))).1 264 o20.2.2.1.toNatClampNeg)) ∧ ((37 : Int32) + ((psI q23.2 265 o20.2.2.1.toNatClampNeg (vp_nar .boolean (0 : Int32))).1 264 o20.2.2.1.toNatClampNeg)).toNatClampNeg < 179 then (if 0 ≤ ((o20.2.2.1 + 1) - (1 : Int32)) ∧ ((o20.2.2.1 + 1) - (1 : Int32)).toNatClampNeg < 4 then (if 0 ≤ (o20.2.2.1 + 1) ∧ (o20.2.2.1 + 1).toNatClampNeg < 4 then L_X12_isCutBy_16 n k o20.1 o20.2.1 (o20.2.2.1 + 1) (psI (psI (psI (psI q23.2 265 o20.2.2.1.toNatClampNeg (vp_nar .boolean (0 : Int32))) 259 (((37 : Int32) + ((psI q23.2 265 o20.2.2.1.toNatClampNeg (vp_nar .boolean (0 : Int32))).1 264 o20.2.2.1.toNatClampNeg)).toNatClampNeg) (1 : Int32)) 264 ((o20.2.2.1 + 1).toNatClampNeg) ((psI (psI q23.2 265 o20.2.2.1.toNatClampNeg (vp_nar .boolean (0 : Int32))) 259 (((37 : Int32) + ((psI q23.2 265 o20.2.2.1.toNatClampNeg (vp_nar .boolean (0 : Int32))).1 264 o20.2.2.1.toNatClampNeg)).toNatClampNeg) (1 : Int32)).1 264 (((o20.2.2.1 + 1) - (1 : Int32)).toNatClampNeg))) 265 ((o20.2.2.1 + 1).toNatClampNeg) (vp_nar .boolean (0 : Int32))) else none) else none) else none)) else (if ((psI q23.2 265 o20.2.2.1.toNatClampNeg (vp_nar .boolean (1 : Int32))).1 265 o20.2.2.1.toNatClampNeg) = 0 then L_X12_isCutBy_16 n k o20.1 o20.2.1 (o20.2.2.1 + (-1)) (psI q23.2 265 o20.2.2.1.toNatClampNeg (vp_nar .boolean (1 : Int32))) else (if 0 ≤ ((37 : Int32) + ((psI q23.2 265 o20.2.2.1.toNatClampNeg (vp_nar .boolean (1 : Int32))).1 264 o20.2.2.1.toNatClampNeg)) ∧ ((37 : Int32) + ((psI q23.2 265 o20.2.2.1.toNatClampNeg (vp_nar .boolean (1 : Int32))).1 264 o20.2.2.1.toNatClampNeg)).toNatClampNeg < 179 then (if 0 ≤ ((o20.2.2.1 + 1) - (1 : Int32)) ∧ ((o20.2.2.1 + 1) - (1 : Int32)).toNatClampNeg < 4 then (if 0 ≤ (o20.2.2.1 + 1) ∧ (o20.2.2.1 + 1).toNatClampNeg < 4 then L_X12_isCutBy_16 n k o20.1 o20.2.1 (o20.2.2.1 + 1) (psI (psI (psI (psI q23.2 265 o20.2.2.1.toNatClampNeg (vp_nar .boolean (1 : Int32))) 259 (((37 : Int32) + ((psI q23.2 265 o20.2.2.1.toNatClampNeg (vp_nar .boolean (1 : Int32))).1 264 o20.2.2.1.toNatClampNeg)).toNatClampNeg) (1 : Int32)) 264 ((o20.2.2.1 + 1).toNatClampNeg) ((psI (psI q23.2 265 o20.2.2.1.toNatClampNeg (vp_nar .boolean (1 : Int32))) 259 (((37 : Int32) + ((psI q23.2 265 o20.2.2.1.toNatClampNeg (vp_nar .boolean (1 : Int32))).1 264 o20.2.2.1.toNatClampNeg)).toNatClampNeg) (1 : Int32)).1 264 (((o20.2.2.1 + 1) - (1 : Int32)).toNatClampNeg))) 265 ((o20.2.2.1 + 1).toNatClampNeg) (vp_nar .boolean (0 : Int32))) else none) else none) else none)))) else none)) else none)) else none)))
def F_X12_isCutBy (n : Nat) (a1 : Int32) (a2 : Int32) (σ : PS) : Option (Int32 × PS) := (L_X12_isCutBy_16 n n a1 a2 (0 : Int32) (psI (psI σ 264 0 (-1 : Int32)) 265 0 (vp_nar .boolean (0 : Int32)))).bind (fun o39 => (if o39.1 = 0 then some ((1 : Int32), o39.2) else some ((0 : Int32), o39.2)))
theorem gm_X12_isCutBy : gM "AskedCampModel" yX12_isCutBy (Cond.code yX12_isCutBy cX12_isCutBy 4 (Option.some Jvm.ClassFile.FieldType.boolean)) 2 := ⟨by decide +kernel, tw_1561, tw_p89, tw_12, tw_1562⟩
set_option maxHeartbeats 4000000 in
set_option maxRecDepth 100000 in
theorem l_X12_isCutBy_88 {p : Program} {l : Launch} {e : Env} {R : Room} {s : State} {m : MethodId} {args : Array Value} {below : List Frame} {meth : Method} {c : Code} {D : va_G} {ad : Nat → Nat} {ca : Nat → ClassId} {kz : Nat → Nat} {Q : State → Prop} (C : pC p s m args c cX12_isCutBy "AskedCampModel" 4 D ad ca kz) (hR : 4 ≤ R.frames ∧ 91 ≤ R.locals) {n : Nat} (o : Int32 × Int32 × Int32 × PS) (hx0 : PW p l e R s m args below meth c 4 D ad ca 0 0 Q (o.2.2.2) 128 [(0, .ref (ad (249))), (1, .int o.1), (2, .int o.2.1), (3, .int o.2.2.1)] []) : ∀ (k : Nat) (x1 : Int32) (x2 : Int32) (x3 : Int32) (σ : PS), L_X12_isCutBy_88 n k x1 x2 x3 σ = some o → PW p l e R s m args below meth c 4 D ad ca 0 0 Q σ 88 [(0, .ref (ad (249))), (1, .int x1), (2, .int x2), (3, .int x3)] [] := by
  intro k
  induction k with
  | zero => intro x1 x2 x3 σ hF; exact nomatch (show (none : Option (Int32 × Int32 × Int32 × PS)) = some o from hF)
  | succ k ih =>
    intro x1 x2 x3 σ hF
    rw [L_X12_isCutBy_88] at hF
    refine q_aload_n C 0 dX12_isCutBy_88 rfl rfl ?_
    refine qg_11_28 C pi_249 tw_1081 dX12_isCutBy_89 ?_
    refine q_iload_n C 3 dX12_isCutBy_92 rfl rfl ?_
    obtain ⟨g5, hF⟩ := grd hF
    refine q_iald C pa_264 (vp_of g5) dX12_isCutBy_93 ?_
    refine q_aload_n C 0 dX12_isCutBy_94 rfl rfl ?_
    obtain ⟨q6, h7, hF⟩ := bnd hF
    try dsimp only at hF
    refine q_callVi C [] (c_X12_cells l D ad ca kz C.2.2.2.2.2.2.1 _ _ _ h7) tw_1382 gm_X12_cells pi_249.1 (pe_11 pi_249.2) rfl ⟨rfl, rfl⟩ ⟨Nat.le_trans (Nat.le_of_ble_eq_true rfl) hR.1, Nat.le_trans (Nat.le_of_ble_eq_true rfl) hR.2⟩ rfl (Nat.le_of_ble_eq_true rfl) dX12_isCutBy_95 q00 ?_
    refine q_icmp_ge (tgt := 128) C dX12_isCutBy_98 (by decide) (fun c8 => ?_) (fun c8 => ?_)
    · replace hF := ift c8 hF
      cases hF
      refine q_sub [0, 1, 2, 3] rfl ?_
      exact hx0
    · replace hF := ife c8 hF
      refine q_aload_n C 0 dX12_isCutBy_101 rfl rfl ?_
      refine q_aload_n C 0 dX12_isCutBy_102 rfl rfl ?_
      refine qg_11_28 C pi_249 tw_1081 dX12_isCutBy_103 ?_
      refine q_iload_n C 3 dX12_isCutBy_106 rfl rfl ?_
      refine q_iald C pa_264 (vp_of g5) dX12_isCutBy_107 ?_
      refine q_iload_n C 1 dX12_isCutBy_108 rfl rfl ?_
      obtain ⟨q9, h10, hF⟩ := bnd hF
      try dsimp only at hF
      refine q_callVi C [.int (q6.2.1 264 x3.toNatClampNeg), .int x1] (c_X12_canCut l D ad ca kz C.2.2.2.2.2.2.1 _ _ _ _ _ h10) tw_1563 gm_X12_canCut pi_249.1 (pe_11 pi_249.2) rfl ⟨rfl, rfl⟩ ⟨Nat.le_trans (Nat.le_of_ble_eq_true rfl) hR.1, Nat.le_trans (Nat.le_of_ble_eq_true rfl) hR.2⟩ rfl (Nat.le_of_ble_eq_true rfl) dX12_isCutBy_109 q00 ?_
      refine q_if_ne (tgt := 128) C dX12_isCutBy_112 (by decide) (fun c11 => ?_) (fun c11 => ?_)
      · replace hF := ife c11 hF
        cases hF
        refine q_sub [0, 1, 2, 3] rfl ?_
        exact hx0
      · replace hF := ift c11 hF
        refine q_aload_n C 0 dX12_isCutBy_115 rfl rfl ?_
        refine qg_11_28 C pi_249 tw_1081 dX12_isCutBy_116 ?_
        refine q_iload_n C 3 dX12_isCutBy_119 rfl rfl ?_
        refine q_dup2 C dX12_isCutBy_120 rfl rfl ?_
        refine q_iald C pa_264 (vp_of g5) dX12_isCutBy_121 ?_
        refine q_iconst (v := 1) C dX12_isCutBy_122 (by decide) ?_
        refine q_iadd C dX12_isCutBy_123 ?_
        refine q_iast C pa_264 (vp_of g5) dX12_isCutBy_124 ?_
        refine q_goto (tgt := 88) C dX12_isCutBy_125 (by decide) ?_
        refine q_sub [0, 1, 2, 3] rfl ?_
        exact ih _ _ _ _ hF
set_option maxHeartbeats 4000000 in
set_option maxRecDepth 100000 in
theorem l_X12_isCutBy_16 {p : Program} {l : Launch} {e : Env} {R : Room} {s : State} {m : MethodId} {args : Array Value} {below : List Frame} {meth : Method} {c : Code} {D : va_G} {ad : Nat → Nat} {ca : Nat → ClassId} {kz : Nat → Nat} {Q : State → Prop} (C : pC p s m args c cX12_isCutBy "AskedCampModel" 4 D ad ca kz) (hR : 4 ≤ R.frames ∧ 91 ≤ R.locals) {n : Nat} (o : Nat × PS) (hx0 : o.1 = 0 → PW p l e R s m args below meth c 4 D ad ca 0 0 Q (o.2) 46 [] []) (hx1 : o.1 = 1 → PW p l e R s m args below meth c 4 D ad ca 0 0 Q (o.2) 209 [] []) : ∀ (k : Nat) (x1 : Int32) (x2 : Int32) (x3 : Int32) (σ : PS), L_X12_isCutBy_16 n k x1 x2 x3 σ = some o → PW p l e R s m args below meth c 4 D ad ca 0 0 Q σ 16 [(0, .ref (ad (249))), (1, .int x1), (2, .int x2), (3, .int x3)] [] := by
  intro k
  induction k with
  | zero => intro x1 x2 x3 σ hF; exact nomatch (show (none : Option (Nat × PS)) = some o from hF)
  | succ k ih =>
    intro x1 x2 x3 σ hF
    rw [L_X12_isCutBy_16] at hF
    refine q_iload_n C 3 dX12_isCutBy_16 rfl rfl ?_
    refine q_if_lt (tgt := 209) C dX12_isCutBy_17 (by decide) (fun c1 => ?_) (fun c1 => ?_)
    · replace hF := ift c1 hF
      cases hF
      refine q_sub [] rfl ?_
      exact hx1 rfl
    · replace hF := ife c1 hF
      refine q_iload_n C 3 dX12_isCutBy_20 rfl rfl ?_
      refine q_iload_n C 2 dX12_isCutBy_21 rfl rfl ?_
      refine q_icmp_ne (tgt := 54) C dX12_isCutBy_22 (by decide) (fun c2 => ?_) (fun c2 => ?_)
      · replace hF := ife c2 hF
        refine q_aload_n C 0 dX12_isCutBy_54 rfl rfl ?_
        refine qg_11_29 C pi_249 tw_1082 dX12_isCutBy_55 ?_
        refine q_iload_n C 3 dX12_isCutBy_58 rfl rfl ?_
        obtain ⟨g3, hF⟩ := grd hF
        refine q_zald C pa_265 (vp_of g3) dX12_isCutBy_59 ?_
        refine q_if_eq (tgt := 78) C dX12_isCutBy_60 (by decide) (fun c4 => ?_) (fun c4 => ?_)
        · replace hF := ift c4 hF
          refine q_aload_n C 0 dX12_isCutBy_78 rfl rfl ?_
          refine qg_11_28 C pi_249 tw_1081 dX12_isCutBy_79 ?_
          refine q_iload_n C 3 dX12_isCutBy_82 rfl rfl ?_
          refine q_dup2 C dX12_isCutBy_83 rfl rfl ?_
          refine q_iald C pa_264 (vp_of g3) dX12_isCutBy_84 ?_
          refine q_iconst (v := 1) C dX12_isCutBy_85 (by decide) ?_
          refine q_iadd C dX12_isCutBy_86 ?_
          refine q_iast C pa_264 (vp_of g3) dX12_isCutBy_87 ?_
          obtain ⟨o5, h6, hF⟩ := bnd hF
          try dsimp only at hF
          refine q_sub [0, 1, 2, 3] rfl ?_
          refine l_X12_isCutBy_88 C ⟨hR.1, hR.2⟩ o5 ?_ n _ _ _ _ h6
          refine q_aload_n C 0 dX12_isCutBy_128 rfl rfl ?_
          refine qg_11_29 C pi_249 tw_1082 dX12_isCutBy_129 ?_
          refine q_iload_n C 3 dX12_isCutBy_132 rfl rfl ?_
          refine q_aload_n C 0 dX12_isCutBy_133 rfl rfl ?_
          refine qg_11_28 C pi_249 tw_1081 dX12_isCutBy_134 ?_
          refine q_iload_n C 3 dX12_isCutBy_137 rfl rfl ?_
          obtain ⟨g7, hF⟩ := grd hF
          refine q_iald C pa_264 (vp_of g7) dX12_isCutBy_138 ?_
          refine q_aload_n C 0 dX12_isCutBy_139 rfl rfl ?_
          obtain ⟨q8, h9, hF⟩ := bnd hF
          try dsimp only at hF
          refine q_callVi C [] (c_X12_cells l D ad ca kz C.2.2.2.2.2.2.1 _ _ _ h9) tw_1382 gm_X12_cells pi_249.1 (pe_11 pi_249.2) rfl ⟨rfl, rfl⟩ ⟨Nat.le_trans (Nat.le_of_ble_eq_true rfl) hR.1, Nat.le_trans (Nat.le_of_ble_eq_true rfl) hR.2⟩ rfl (Nat.le_of_ble_eq_true rfl) dX12_isCutBy_140 q00 ?_
          refine q_icmp_ge (tgt := 150) C dX12_isCutBy_143 (by decide) (fun c10 => ?_) (fun c10 => ?_)
          · replace hF := ift c10 hF
            refine q_iconst (v := 0) C dX12_isCutBy_150 (by decide) ?_
            refine q_zast C pa_265 (vp_of g7) dX12_isCutBy_151 ?_
            refine q_aload_n C 0 dX12_isCutBy_152 rfl rfl ?_
            refine qg_11_29 C pi_249 tw_1082 dX12_isCutBy_153 ?_
            refine q_iload_n C 3 dX12_isCutBy_156 rfl rfl ?_
            refine q_zald C pa_265 (vp_of g7) dX12_isCutBy_157 ?_
            refine q_if_ne (tgt := 167) C dX12_isCutBy_158 (by decide) (fun c11 => ?_) (fun c11 => ?_)
            · replace hF := ife c11 hF
              refine q_aload_n C 0 dX12_isCutBy_167 rfl rfl ?_
              refine qg_11_20 C pi_249 tw_1073 dX12_isCutBy_168 ?_
              refine q_bipush (v := 37) C dX12_isCutBy_171 (by decide) ?_
              refine q_aload_n C 0 dX12_isCutBy_173 rfl rfl ?_
              refine qg_11_28 C pi_249 tw_1081 dX12_isCutBy_174 ?_
              refine q_iload_n C 3 dX12_isCutBy_177 rfl rfl ?_
              refine q_iald C pa_264 (vp_of g7) dX12_isCutBy_178 ?_
              refine q_iadd C dX12_isCutBy_179 ?_
              refine q_iconst (v := 1) C dX12_isCutBy_180 (by decide) ?_
              obtain ⟨g12, hF⟩ := grd hF
              refine q_iast C pa_259 (vp_of g12) dX12_isCutBy_181 ?_
              refine q_iinc C 3 [(3, .int (o5.2.2.1 + 1)), (0, .ref (ad (249))), (1, .int o5.1), (2, .int o5.2.1)] dX12_isCutBy_182 rfl rfl (by decide) rfl ?_
              refine q_aload_n C 1 dX12_isCutBy_185 rfl rfl ?_
              refine qg_11_28 C pi_249 tw_1081 dX12_isCutBy_186 ?_
              refine q_iload_n C 0 dX12_isCutBy_189 rfl rfl ?_
              refine q_aload_n C 1 dX12_isCutBy_190 rfl rfl ?_
              refine qg_11_28 C pi_249 tw_1081 dX12_isCutBy_191 ?_
              refine q_iload_n C 0 dX12_isCutBy_194 rfl rfl ?_
              refine q_iconst (v := 1) C dX12_isCutBy_195 (by decide) ?_
              refine q_isub C dX12_isCutBy_196 ?_
              obtain ⟨g13, hF⟩ := grd hF
              refine q_iald C pa_264 (vp_of g13) dX12_isCutBy_197 ?_
              obtain ⟨g14, hF⟩ := grd hF
              refine q_iast C pa_264 (vp_of g14) dX12_isCutBy_198 ?_
              refine q_aload_n C 1 dX12_isCutBy_199 rfl rfl ?_
              refine qg_11_29 C pi_249 tw_1082 dX12_isCutBy_200 ?_
              refine q_iload_n C 0 dX12_isCutBy_203 rfl rfl ?_
              refine q_iconst (v := 0) C dX12_isCutBy_204 (by decide) ?_
              refine q_zast C pa_265 (vp_of g14) dX12_isCutBy_205 ?_
              refine q_goto (tgt := 16) C dX12_isCutBy_206 (by decide) ?_
              refine q_sub [1, 2, 3, 0] rfl ?_
              exact ih _ _ _ _ hF
            · replace hF := ift c11 hF
              refine q_iinc C 3 [(3, .int (o5.2.2.1 + (-1))), (0, .ref (ad (249))), (1, .int o5.1), (2, .int o5.2.1)] dX12_isCutBy_161 rfl rfl (by decide) rfl ?_
              refine q_goto (tgt := 16) C dX12_isCutBy_164 (by decide) ?_
              refine q_sub [1, 2, 3, 0] rfl ?_
              exact ih _ _ _ _ hF
          · replace hF := ife c10 hF
            refine q_iconst (v := 1) C dX12_isCutBy_146 (by decide) ?_
            refine q_goto (tgt := 151) C dX12_isCutBy_147 (by decide) ?_
            refine q_zast C pa_265 (vp_of g7) dX12_isCutBy_151 ?_
            refine q_aload_n C 0 dX12_isCutBy_152 rfl rfl ?_
            refine qg_11_29 C pi_249 tw_1082 dX12_isCutBy_153 ?_
            refine q_iload_n C 3 dX12_isCutBy_156 rfl rfl ?_
            refine q_zald C pa_265 (vp_of g7) dX12_isCutBy_157 ?_
            refine q_if_ne (tgt := 167) C dX12_isCutBy_158 (by decide) (fun c15 => ?_) (fun c15 => ?_)
            · replace hF := ife c15 hF
              refine q_aload_n C 0 dX12_isCutBy_167 rfl rfl ?_
              refine qg_11_20 C pi_249 tw_1073 dX12_isCutBy_168 ?_
              refine q_bipush (v := 37) C dX12_isCutBy_171 (by decide) ?_
              refine q_aload_n C 0 dX12_isCutBy_173 rfl rfl ?_
              refine qg_11_28 C pi_249 tw_1081 dX12_isCutBy_174 ?_
              refine q_iload_n C 3 dX12_isCutBy_177 rfl rfl ?_
              refine q_iald C pa_264 (vp_of g7) dX12_isCutBy_178 ?_
              refine q_iadd C dX12_isCutBy_179 ?_
              refine q_iconst (v := 1) C dX12_isCutBy_180 (by decide) ?_
              obtain ⟨g16, hF⟩ := grd hF
              refine q_iast C pa_259 (vp_of g16) dX12_isCutBy_181 ?_
              refine q_iinc C 3 [(3, .int (o5.2.2.1 + 1)), (0, .ref (ad (249))), (1, .int o5.1), (2, .int o5.2.1)] dX12_isCutBy_182 rfl rfl (by decide) rfl ?_
              refine q_aload_n C 1 dX12_isCutBy_185 rfl rfl ?_
              refine qg_11_28 C pi_249 tw_1081 dX12_isCutBy_186 ?_
              refine q_iload_n C 0 dX12_isCutBy_189 rfl rfl ?_
              refine q_aload_n C 1 dX12_isCutBy_190 rfl rfl ?_
              refine qg_11_28 C pi_249 tw_1081 dX12_isCutBy_191 ?_
              refine q_iload_n C 0 dX12_isCutBy_194 rfl rfl ?_
              refine q_iconst (v := 1) C dX12_isCutBy_195 (by decide) ?_
              refine q_isub C dX12_isCutBy_196 ?_
              obtain ⟨g17, hF⟩ := grd hF
              refine q_iald C pa_264 (vp_of g17) dX12_isCutBy_197 ?_
              obtain ⟨g18, hF⟩ := grd hF
              refine q_iast C pa_264 (vp_of g18) dX12_isCutBy_198 ?_
              refine q_aload_n C 1 dX12_isCutBy_199 rfl rfl ?_
              refine qg_11_29 C pi_249 tw_1082 dX12_isCutBy_200 ?_
              refine q_iload_n C 0 dX12_isCutBy_203 rfl rfl ?_
              refine q_iconst (v := 0) C dX12_isCutBy_204 (by decide) ?_
              refine q_zast C pa_265 (vp_of g18) dX12_isCutBy_205 ?_
              refine q_goto (tgt := 16) C dX12_isCutBy_206 (by decide) ?_
              refine q_sub [1, 2, 3, 0] rfl ?_
              exact ih _ _ _ _ hF
            · replace hF := ift c15 hF
              refine q_iinc C 3 [(3, .int (o5.2.2.1 + (-1))), (0, .ref (ad (249))), (1, .int o5.1), (2, .int o5.2.1)] dX12_isCutBy_161 rfl rfl (by decide) rfl ?_
              refine q_goto (tgt := 16) C dX12_isCutBy_164 (by decide) ?_
              refine q_sub [1, 2, 3, 0] rfl ?_
              exact ih _ _ _ _ hF
        · replace hF := ife c4 hF
          refine q_aload_n C 0 dX12_isCutBy_63 rfl rfl ?_
          refine qg_11_20 C pi_249 tw_1073 dX12_isCutBy_64 ?_
          refine q_bipush (v := 37) C dX12_isCutBy_67 (by decide) ?_
          refine q_aload_n C 0 dX12_isCutBy_69 rfl rfl ?_
          refine qg_11_28 C pi_249 tw_1081 dX12_isCutBy_70 ?_
          refine q_iload_n C 3 dX12_isCutBy_73 rfl rfl ?_
          refine q_iald C pa_264 (vp_of g3) dX12_isCutBy_74 ?_
          refine q_iadd C dX12_isCutBy_75 ?_
          refine q_iconst (v := 0) C dX12_isCutBy_76 (by decide) ?_
          obtain ⟨g19, hF⟩ := grd hF
          refine q_iast C pa_259 (vp_of g19) dX12_isCutBy_77 ?_
          refine q_aload_n C 0 dX12_isCutBy_78 rfl rfl ?_
          refine qg_11_28 C pi_249 tw_1081 dX12_isCutBy_79 ?_
          refine q_iload_n C 3 dX12_isCutBy_82 rfl rfl ?_
          refine q_dup2 C dX12_isCutBy_83 rfl rfl ?_
          refine q_iald C pa_264 (vp_of g3) dX12_isCutBy_84 ?_
          refine q_iconst (v := 1) C dX12_isCutBy_85 (by decide) ?_
          refine q_iadd C dX12_isCutBy_86 ?_
          refine q_iast C pa_264 (vp_of g3) dX12_isCutBy_87 ?_
          obtain ⟨o20, h21, hF⟩ := bnd hF
          try dsimp only at hF
          refine q_sub [0, 1, 2, 3] rfl ?_
          refine l_X12_isCutBy_88 C ⟨hR.1, hR.2⟩ o20 ?_ n _ _ _ _ h21
          refine q_aload_n C 0 dX12_isCutBy_128 rfl rfl ?_
          refine qg_11_29 C pi_249 tw_1082 dX12_isCutBy_129 ?_
          refine q_iload_n C 3 dX12_isCutBy_132 rfl rfl ?_
          refine q_aload_n C 0 dX12_isCutBy_133 rfl rfl ?_
          refine qg_11_28 C pi_249 tw_1081 dX12_isCutBy_134 ?_
          refine q_iload_n C 3 dX12_isCutBy_137 rfl rfl ?_
          obtain ⟨g22, hF⟩ := grd hF
          refine q_iald C pa_264 (vp_of g22) dX12_isCutBy_138 ?_
          refine q_aload_n C 0 dX12_isCutBy_139 rfl rfl ?_
          obtain ⟨q23, h24, hF⟩ := bnd hF
          try dsimp only at hF
          refine q_callVi C [] (c_X12_cells l D ad ca kz C.2.2.2.2.2.2.1 _ _ _ h24) tw_1382 gm_X12_cells pi_249.1 (pe_11 pi_249.2) rfl ⟨rfl, rfl⟩ ⟨Nat.le_trans (Nat.le_of_ble_eq_true rfl) hR.1, Nat.le_trans (Nat.le_of_ble_eq_true rfl) hR.2⟩ rfl (Nat.le_of_ble_eq_true rfl) dX12_isCutBy_140 q00 ?_
          refine q_icmp_ge (tgt := 150) C dX12_isCutBy_143 (by decide) (fun c25 => ?_) (fun c25 => ?_)
          · replace hF := ift c25 hF
            refine q_iconst (v := 0) C dX12_isCutBy_150 (by decide) ?_
            refine q_zast C pa_265 (vp_of g22) dX12_isCutBy_151 ?_
            refine q_aload_n C 0 dX12_isCutBy_152 rfl rfl ?_
            refine qg_11_29 C pi_249 tw_1082 dX12_isCutBy_153 ?_
            refine q_iload_n C 3 dX12_isCutBy_156 rfl rfl ?_
            refine q_zald C pa_265 (vp_of g22) dX12_isCutBy_157 ?_
            refine q_if_ne (tgt := 167) C dX12_isCutBy_158 (by decide) (fun c26 => ?_) (fun c26 => ?_)
            · replace hF := ife c26 hF
              refine q_aload_n C 0 dX12_isCutBy_167 rfl rfl ?_
              refine qg_11_20 C pi_249 tw_1073 dX12_isCutBy_168 ?_
              refine q_bipush (v := 37) C dX12_isCutBy_171 (by decide) ?_
              refine q_aload_n C 0 dX12_isCutBy_173 rfl rfl ?_
              refine qg_11_28 C pi_249 tw_1081 dX12_isCutBy_174 ?_
              refine q_iload_n C 3 dX12_isCutBy_177 rfl rfl ?_
              refine q_iald C pa_264 (vp_of g22) dX12_isCutBy_178 ?_
              refine q_iadd C dX12_isCutBy_179 ?_
              refine q_iconst (v := 1) C dX12_isCutBy_180 (by decide) ?_
              obtain ⟨g27, hF⟩ := grd hF
              refine q_iast C pa_259 (vp_of g27) dX12_isCutBy_181 ?_
              refine q_iinc C 3 [(3, .int (o20.2.2.1 + 1)), (0, .ref (ad (249))), (1, .int o20.1), (2, .int o20.2.1)] dX12_isCutBy_182 rfl rfl (by decide) rfl ?_
              refine q_aload_n C 1 dX12_isCutBy_185 rfl rfl ?_
              refine qg_11_28 C pi_249 tw_1081 dX12_isCutBy_186 ?_
              refine q_iload_n C 0 dX12_isCutBy_189 rfl rfl ?_
              refine q_aload_n C 1 dX12_isCutBy_190 rfl rfl ?_
              refine qg_11_28 C pi_249 tw_1081 dX12_isCutBy_191 ?_
              refine q_iload_n C 0 dX12_isCutBy_194 rfl rfl ?_
              refine q_iconst (v := 1) C dX12_isCutBy_195 (by decide) ?_
              refine q_isub C dX12_isCutBy_196 ?_
              obtain ⟨g28, hF⟩ := grd hF
              refine q_iald C pa_264 (vp_of g28) dX12_isCutBy_197 ?_
              obtain ⟨g29, hF⟩ := grd hF
              refine q_iast C pa_264 (vp_of g29) dX12_isCutBy_198 ?_
              refine q_aload_n C 1 dX12_isCutBy_199 rfl rfl ?_
              refine qg_11_29 C pi_249 tw_1082 dX12_isCutBy_200 ?_
              refine q_iload_n C 0 dX12_isCutBy_203 rfl rfl ?_
              refine q_iconst (v := 0) C dX12_isCutBy_204 (by decide) ?_
              refine q_zast C pa_265 (vp_of g29) dX12_isCutBy_205 ?_
              refine q_goto (tgt := 16) C dX12_isCutBy_206 (by decide) ?_
              refine q_sub [1, 2, 3, 0] rfl ?_
              exact ih _ _ _ _ hF
            · replace hF := ift c26 hF
              refine q_iinc C 3 [(3, .int (o20.2.2.1 + (-1))), (0, .ref (ad (249))), (1, .int o20.1), (2, .int o20.2.1)] dX12_isCutBy_161 rfl rfl (by decide) rfl ?_
              refine q_goto (tgt := 16) C dX12_isCutBy_164 (by decide) ?_
              refine q_sub [1, 2, 3, 0] rfl ?_
              exact ih _ _ _ _ hF
          · replace hF := ife c25 hF
            refine q_iconst (v := 1) C dX12_isCutBy_146 (by decide) ?_
            refine q_goto (tgt := 151) C dX12_isCutBy_147 (by decide) ?_
            refine q_zast C pa_265 (vp_of g22) dX12_isCutBy_151 ?_
            refine q_aload_n C 0 dX12_isCutBy_152 rfl rfl ?_
            refine qg_11_29 C pi_249 tw_1082 dX12_isCutBy_153 ?_
            refine q_iload_n C 3 dX12_isCutBy_156 rfl rfl ?_
            refine q_zald C pa_265 (vp_of g22) dX12_isCutBy_157 ?_
            refine q_if_ne (tgt := 167) C dX12_isCutBy_158 (by decide) (fun c30 => ?_) (fun c30 => ?_)
            · replace hF := ife c30 hF
              refine q_aload_n C 0 dX12_isCutBy_167 rfl rfl ?_
              refine qg_11_20 C pi_249 tw_1073 dX12_isCutBy_168 ?_
              refine q_bipush (v := 37) C dX12_isCutBy_171 (by decide) ?_
              refine q_aload_n C 0 dX12_isCutBy_173 rfl rfl ?_
              refine qg_11_28 C pi_249 tw_1081 dX12_isCutBy_174 ?_
              refine q_iload_n C 3 dX12_isCutBy_177 rfl rfl ?_
              refine q_iald C pa_264 (vp_of g22) dX12_isCutBy_178 ?_
              refine q_iadd C dX12_isCutBy_179 ?_
              refine q_iconst (v := 1) C dX12_isCutBy_180 (by decide) ?_
              obtain ⟨g31, hF⟩ := grd hF
              refine q_iast C pa_259 (vp_of g31) dX12_isCutBy_181 ?_
              refine q_iinc C 3 [(3, .int (o20.2.2.1 + 1)), (0, .ref (ad (249))), (1, .int o20.1), (2, .int o20.2.1)] dX12_isCutBy_182 rfl rfl (by decide) rfl ?_
              refine q_aload_n C 1 dX12_isCutBy_185 rfl rfl ?_
              refine qg_11_28 C pi_249 tw_1081 dX12_isCutBy_186 ?_
              refine q_iload_n C 0 dX12_isCutBy_189 rfl rfl ?_
              refine q_aload_n C 1 dX12_isCutBy_190 rfl rfl ?_
              refine qg_11_28 C pi_249 tw_1081 dX12_isCutBy_191 ?_
              refine q_iload_n C 0 dX12_isCutBy_194 rfl rfl ?_
              refine q_iconst (v := 1) C dX12_isCutBy_195 (by decide) ?_
              refine q_isub C dX12_isCutBy_196 ?_
              obtain ⟨g32, hF⟩ := grd hF
              refine q_iald C pa_264 (vp_of g32) dX12_isCutBy_197 ?_
              obtain ⟨g33, hF⟩ := grd hF
              refine q_iast C pa_264 (vp_of g33) dX12_isCutBy_198 ?_
              refine q_aload_n C 1 dX12_isCutBy_199 rfl rfl ?_
              refine qg_11_29 C pi_249 tw_1082 dX12_isCutBy_200 ?_
              refine q_iload_n C 0 dX12_isCutBy_203 rfl rfl ?_
              refine q_iconst (v := 0) C dX12_isCutBy_204 (by decide) ?_
              refine q_zast C pa_265 (vp_of g33) dX12_isCutBy_205 ?_
              refine q_goto (tgt := 16) C dX12_isCutBy_206 (by decide) ?_
              refine q_sub [1, 2, 3, 0] rfl ?_
              exact ih _ _ _ _ hF
            · replace hF := ift c30 hF
              refine q_iinc C 3 [(3, .int (o20.2.2.1 + (-1))), (0, .ref (ad (249))), (1, .int o20.1), (2, .int o20.2.1)] dX12_isCutBy_161 rfl rfl (by decide) rfl ?_
              refine q_goto (tgt := 16) C dX12_isCutBy_164 (by decide) ?_
              refine q_sub [1, 2, 3, 0] rfl ?_
              exact ih _ _ _ _ hF
      · replace hF := ift c2 hF
        refine q_aload_n C 0 dX12_isCutBy_25 rfl rfl ?_
        refine q_aload_n C 0 dX12_isCutBy_26 rfl rfl ?_
        refine qg_11_20 C pi_249 tw_1073 dX12_isCutBy_27 ?_
        refine q_bipush (v := 11) C dX12_isCutBy_30 (by decide) ?_
        refine q_ialdk (jn := 11) C pa_259 (vp_of (by decide)) rfl dX12_isCutBy_32 ?_
        refine q_aload_n C 0 dX12_isCutBy_33 rfl rfl ?_
        refine q_iload_n C 1 dX12_isCutBy_34 rfl rfl ?_
        obtain ⟨q34, h35, hF⟩ := bnd hF
        try dsimp only at hF
        refine q_callVi C [.int x1] (c_X12_cellOf l D ad ca kz C.2.2.2.2.2.2.1 _ _ _ _ h35) tw_1391 gm_X12_cellOf pi_249.1 (pe_11 pi_249.2) rfl ⟨rfl, rfl⟩ ⟨Nat.le_trans (Nat.le_of_ble_eq_true rfl) hR.1, Nat.le_trans (Nat.le_of_ble_eq_true rfl) hR.2⟩ rfl (Nat.le_of_ble_eq_true rfl) dX12_isCutBy_35 q00 ?_
        obtain ⟨q36, h37, hF⟩ := bnd hF
        try dsimp only at hF
        refine q_callVi C [.int (σ.1 259 11), .int q34.1] (c_X12_wayBetween l D ad ca kz C.2.2.2.2.2.2.1 _ _ _ _ _ h37) tw_1488 gm_X12_wayBetween pi_249.1 (pe_11 pi_249.2) rfl ⟨rfl, rfl⟩ ⟨Nat.le_trans (Nat.le_of_ble_eq_true rfl) hR.1, Nat.le_trans (Nat.le_of_ble_eq_true rfl) hR.2⟩ rfl (Nat.le_of_ble_eq_true rfl) dX12_isCutBy_38 q00 ?_
        refine q_bipush (v := 99) C dX12_isCutBy_41 (by decide) ?_
        refine q_icmp_ne (tgt := 48) C dX12_isCutBy_43 (by decide) (fun c38 => ?_) (fun c38 => ?_)
        · replace hF := ife c38 hF
          refine q_iinc C 3 [(3, .int (x3 + (-1))), (0, .ref (ad (249))), (1, .int x1), (2, .int x2)] dX12_isCutBy_48 rfl rfl (by decide) rfl ?_
          refine q_goto (tgt := 16) C dX12_isCutBy_51 (by decide) ?_
          refine q_sub [1, 2, 3, 0] rfl ?_
          exact ih _ _ _ _ hF
        · replace hF := ift c38 hF
          cases hF
          refine q_sub [] rfl ?_
          exact hx0 rfl
set_option maxHeartbeats 4000000 in
set_option maxRecDepth 100000 in
theorem c_X12_isCutBy (l : Launch) (D : va_G) (ad : Nat → Nat) (ca : Nat → ClassId) (kz : Nat → Nat) (hJ : pInj ad) (n : Nat) (a1 : Int32) (a2 : Int32) (σ : PS) (out : Int32 × PS) (hF : F_X12_isCutBy n a1 a2 σ = some out) : Met l yX12_isCutBy (Cond.code yX12_isCutBy cX12_isCutBy 4 (Option.some Jvm.ClassFile.FieldType.boolean) :: gw_tbl) { frames := 4, cells := 0, slots := 0, locals := 91 } (va_Pc [.ref (ad (249)), .int a1, .int a2] (pU D ad ca kz σ)) (pQi D ad ca out) 0 0 (pAD ad) := by
  refine q_entry (own := "AskedCampModel") hJ (by decide) rfl (Nat.le_of_ble_eq_true rfl) (fun p e s m below meth c C hr hlk => ?_)
  refine q_lv [(0, .ref (ad (249))), (1, .int a1), (2, .int a2)] rfl ?_
  rw [F_X12_isCutBy] at hF
  refine q_iconst (v := 0) C dX12_isCutBy_0 (by decide) ?_
  refine q_istore_n C [(3, .int 0), (0, .ref (ad (249))), (1, .int a1), (2, .int a2)] dX12_isCutBy_1 rfl (by decide) rfl ?_
  refine q_aload_n C 1 dX12_isCutBy_2 rfl rfl ?_
  refine qg_11_28 C pi_249 tw_1081 dX12_isCutBy_3 ?_
  refine q_iconst (v := 0) C dX12_isCutBy_6 (by decide) ?_
  refine q_iconst (v := -1) C dX12_isCutBy_7 (by decide) ?_
  refine q_iastk (jn := 0) C pa_264 (vp_of (by decide)) rfl dX12_isCutBy_8 ?_
  refine q_aload_n C 1 dX12_isCutBy_9 rfl rfl ?_
  refine qg_11_29 C pi_249 tw_1082 dX12_isCutBy_10 ?_
  refine q_iconst (v := 0) C dX12_isCutBy_13 (by decide) ?_
  refine q_iconst (v := 0) C dX12_isCutBy_14 (by decide) ?_
  refine q_zastk (jn := 0) C pa_265 (vp_of (by decide)) rfl dX12_isCutBy_15 ?_
  obtain ⟨o39, h40, hF⟩ := bnd hF
  try dsimp only at hF
  refine q_sub [1, 2, 3, 0] rfl ?_
  refine l_X12_isCutBy_16 C ⟨Nat.le_of_ble_eq_true rfl, Nat.le_of_ble_eq_true rfl⟩ o39 (fun eo39_0 => ?_) (fun eo39_1 => ?_) n _ _ _ _ h40
  · -- exit 0
    replace hF := ift eo39_0 hF
    refine q_iconst (v := 1) C dX12_isCutBy_46 (by decide) ?_
    exact q_zret C hr hlk dX12_isCutBy_47 (by decide) hF
  · -- exit 1
    replace hF := ife (by rw [eo39_1]; decide) hF
    refine q_iconst (v := 0) C dX12_isCutBy_209 (by decide) ?_
    exact q_zret C hr hlk dX12_isCutBy_210 (by decide) hF
