-- X12_way
def F_X12_way (n : Nat) (a1 : Int32) (σ : PS) : Option (Int32 × PS) := (F_X12_isCell n a1 σ).bind (fun q1 => (if q1.1 = 0 then some ((-1 : Int32), q1.2) else (F_X12_wayBetween n (q1.2.1 259 11) a1 q1.2).bind (fun q4 => (if q4.1 = (99 : Int32) then some ((-2 : Int32), q4.2) else some (q4.1, q4.2)))))
theorem gm_X12_way : gM "AskedCampModel" yX12_way (Cond.code yX12_way cX12_way 3 (Option.some Jvm.ClassFile.FieldType.int)) 1 := ⟨by decide +kernel, tw_1535, tw_1536, tw_12, tw_1537⟩
set_option maxHeartbeats 4000000 in
set_option maxRecDepth 100000 in
theorem c_X12_way (l : Launch) (D : va_G) (ad : Nat → Nat) (ca : Nat → ClassId) (kz : Nat → Nat) (hJ : pInj ad) (n : Nat) (a1 : Int32) (σ : PS) (out : Int32 × PS) (hF : F_X12_way n a1 σ = some out) : Met l yX12_way (Cond.code yX12_way cX12_way 3 (Option.some Jvm.ClassFile.FieldType.int) :: gw_tbl) { frames := 4, cells := 0, slots := 0, locals := 91 } (va_Pc [.ref (ad (249)), .int a1] (pU D ad ca kz σ)) (pQi D ad ca out) 0 0 (pAD ad) := by
  refine q_entry (own := "AskedCampModel") hJ (by decide) rfl (Nat.le_of_ble_eq_true rfl) (fun p e s m below meth c C hr hlk => ?_)
  refine q_lv [(0, .ref (ad (249))), (1, .int a1)] rfl ?_
  rw [F_X12_way] at hF
  refine q_aload_n C 0 dX12_way_0 rfl rfl ?_
  refine q_iload_n C 1 dX12_way_1 rfl rfl ?_
  obtain ⟨q1, h2, hF⟩ := bnd hF
  try dsimp only at hF
  refine q_callVi C [.int a1] (c_X12_isCell l D ad ca kz C.2.2.2.2.2.2.1 _ _ _ _ h2) tw_1378 gm_X12_isCell pi_249.1 (pe_11 pi_249.2) rfl ⟨rfl, rfl⟩ ⟨Nat.le_of_ble_eq_true rfl, Nat.le_of_ble_eq_true rfl⟩ rfl (Nat.le_of_ble_eq_true rfl) dX12_way_2 q00 ?_
  refine q_if_ne (tgt := 10) C dX12_way_5 (by decide) (fun c3 => ?_) (fun c3 => ?_)
  · replace hF := ife c3 hF
    refine q_aload_n C 0 dX12_way_10 rfl rfl ?_
    refine q_aload_n C 0 dX12_way_11 rfl rfl ?_
    refine qg_11_20 C pi_249 tw_1073 dX12_way_12 ?_
    refine q_bipush (v := 11) C dX12_way_15 (by decide) ?_
    refine q_ialdk (jn := 11) C pa_259 (vp_of (by decide)) rfl dX12_way_17 ?_
    refine q_iload_n C 1 dX12_way_18 rfl rfl ?_
    obtain ⟨q4, h5, hF⟩ := bnd hF
    try dsimp only at hF
    refine q_callVi C [.int (q1.2.1 259 11), .int a1] (c_X12_wayBetween l D ad ca kz C.2.2.2.2.2.2.1 _ _ _ _ _ h5) tw_1488 gm_X12_wayBetween pi_249.1 (pe_11 pi_249.2) rfl ⟨rfl, rfl⟩ ⟨Nat.le_of_ble_eq_true rfl, Nat.le_of_ble_eq_true rfl⟩ rfl (Nat.le_of_ble_eq_true rfl) dX12_way_19 q00 ?_
    refine q_istore_n C [(2, .int q4.1), (0, .ref (ad (249))), (1, .int a1)] dX12_way_22 rfl (by decide) rfl ?_
    refine q_iload_n C 0 dX12_way_23 rfl rfl ?_
    refine q_bipush (v := 99) C dX12_way_24 (by decide) ?_
    refine q_icmp_ne (tgt := 34) C dX12_way_26 (by decide) (fun c6 => ?_) (fun c6 => ?_)
    · replace hF := ife c6 hF
      refine q_iload_n C 0 dX12_way_34 rfl rfl ?_
      exact q_iret C hr hlk dX12_way_35 hF
    · replace hF := ift c6 hF
      refine q_bipush (v := -2) C dX12_way_29 (by decide) ?_
      refine q_goto (tgt := 35) C dX12_way_31 (by decide) ?_
      exact q_iret C hr hlk dX12_way_35 hF
  · replace hF := ift c3 hF
    refine q_iconst (v := -1) C dX12_way_8 (by decide) ?_
    exact q_iret C hr hlk dX12_way_9 hF
-- X12_whistle
def F_X12_whistle (n : Nat) (a1 : Int32) (σ : PS) : Option (Int32 × PS) := (F_X12_isCell n a1 σ).bind (fun q1 => (if q1.1 = 0 then some ((-1 : Int32), q1.2) else (if a1 = (q1.2.1 259 11) then some ((-1 : Int32), q1.2) else (F_X12_wayBetween n (q1.2.1 259 11) a1 q1.2).bind (fun q5 => (if q5.1 = (99 : Int32) then some ((-1 : Int32), q5.2) else (F_X12_keepsAct n q5.2).bind (fun q8 => (F_X12_firstOfWay n a1 q8).bind (fun q10 => some (((psI q10.2 259 11 q10.1).1 259 11), psI q10.2 259 11 q10.1))))))))
theorem gm_X12_whistle : gM "AskedCampModel" yX12_whistle (Cond.code yX12_whistle cX12_whistle 2 (Option.some Jvm.ClassFile.FieldType.int)) 1 := ⟨by decide +kernel, tw_1485, tw_1486, tw_12, tw_1487⟩
set_option maxHeartbeats 4000000 in
set_option maxRecDepth 100000 in
theorem c_X12_whistle (l : Launch) (D : va_G) (ad : Nat → Nat) (ca : Nat → ClassId) (kz : Nat → Nat) (hJ : pInj ad) (n : Nat) (a1 : Int32) (σ : PS) (out : Int32 × PS) (hF : F_X12_whistle n a1 σ = some out) : Met l yX12_whistle (Cond.code yX12_whistle cX12_whistle 2 (Option.some Jvm.ClassFile.FieldType.int) :: gw_tbl) { frames := 5, cells := 0, slots := 0, locals := 114 } (va_Pc [.ref (ad (249)), .int a1] (pU D ad ca kz σ)) (pQi D ad ca out) 0 0 (pAD ad) := by
  refine q_entry (own := "AskedCampModel") hJ (by decide) rfl (Nat.le_of_ble_eq_true rfl) (fun p e s m below meth c C hr hlk => ?_)
  refine q_lv [(0, .ref (ad (249))), (1, .int a1)] rfl ?_
  rw [F_X12_whistle] at hF
  refine q_aload_n C 0 dX12_whistle_0 rfl rfl ?_
  refine q_iload_n C 1 dX12_whistle_1 rfl rfl ?_
  obtain ⟨q1, h2, hF⟩ := bnd hF
  try dsimp only at hF
  refine q_callVi C [.int a1] (c_X12_isCell l D ad ca kz C.2.2.2.2.2.2.1 _ _ _ _ h2) tw_1378 gm_X12_isCell pi_249.1 (pe_11 pi_249.2) rfl ⟨rfl, rfl⟩ ⟨Nat.le_of_ble_eq_true rfl, Nat.le_of_ble_eq_true rfl⟩ rfl (Nat.le_of_ble_eq_true rfl) dX12_whistle_2 q00 ?_
  refine q_if_eq (tgt := 36) C dX12_whistle_5 (by decide) (fun c3 => ?_) (fun c3 => ?_)
  · replace hF := ift c3 hF
    refine q_iconst (v := -1) C dX12_whistle_36 (by decide) ?_
    exact q_iret C hr hlk dX12_whistle_37 hF
  · replace hF := ife c3 hF
    refine q_iload_n C 1 dX12_whistle_8 rfl rfl ?_
    refine q_aload_n C 0 dX12_whistle_9 rfl rfl ?_
    refine qg_11_20 C pi_249 tw_1073 dX12_whistle_10 ?_
    refine q_bipush (v := 11) C dX12_whistle_13 (by decide) ?_
    refine q_ialdk (jn := 11) C pa_259 (vp_of (by decide)) rfl dX12_whistle_15 ?_
    refine q_icmp_eq (tgt := 36) C dX12_whistle_16 (by decide) (fun c4 => ?_) (fun c4 => ?_)
    · replace hF := ift c4 hF
      refine q_iconst (v := -1) C dX12_whistle_36 (by decide) ?_
      exact q_iret C hr hlk dX12_whistle_37 hF
    · replace hF := ife c4 hF
      refine q_aload_n C 0 dX12_whistle_19 rfl rfl ?_
      refine q_aload_n C 0 dX12_whistle_20 rfl rfl ?_
      refine qg_11_20 C pi_249 tw_1073 dX12_whistle_21 ?_
      refine q_bipush (v := 11) C dX12_whistle_24 (by decide) ?_
      refine q_ialdk (jn := 11) C pa_259 (vp_of (by decide)) rfl dX12_whistle_26 ?_
      refine q_iload_n C 1 dX12_whistle_27 rfl rfl ?_
      obtain ⟨q5, h6, hF⟩ := bnd hF
      try dsimp only at hF
      refine q_callVi C [.int (q1.2.1 259 11), .int a1] (c_X12_wayBetween l D ad ca kz C.2.2.2.2.2.2.1 _ _ _ _ _ h6) tw_1488 gm_X12_wayBetween pi_249.1 (pe_11 pi_249.2) rfl ⟨rfl, rfl⟩ ⟨Nat.le_of_ble_eq_true rfl, Nat.le_of_ble_eq_true rfl⟩ rfl (Nat.le_of_ble_eq_true rfl) dX12_whistle_28 q00 ?_
      refine q_bipush (v := 99) C dX12_whistle_31 (by decide) ?_
      refine q_icmp_ne (tgt := 38) C dX12_whistle_33 (by decide) (fun c7 => ?_) (fun c7 => ?_)
      · replace hF := ife c7 hF
        refine q_aload_n C 0 dX12_whistle_38 rfl rfl ?_
        obtain ⟨q8, h9, hF⟩ := bnd hF
        try dsimp only at hF
        refine q_callVv C [] (c_X12_keepsAct l D ad ca kz C.2.2.2.2.2.2.1 _ _ _ h9) tw_1407 gm_X12_keepsAct pi_249.1 (pe_11 pi_249.2) rfl ⟨rfl, rfl⟩ ⟨Nat.le_of_ble_eq_true rfl, Nat.le_of_ble_eq_true rfl⟩ rfl (Nat.le_of_ble_eq_true rfl) dX12_whistle_39 q00 ?_
        refine q_aload_n C 0 dX12_whistle_42 rfl rfl ?_
        refine qg_11_20 C pi_249 tw_1073 dX12_whistle_43 ?_
        refine q_bipush (v := 11) C dX12_whistle_46 (by decide) ?_
        refine q_aload_n C 0 dX12_whistle_48 rfl rfl ?_
        refine q_iload_n C 1 dX12_whistle_49 rfl rfl ?_
        obtain ⟨q10, h11, hF⟩ := bnd hF
        try dsimp only at hF
        refine q_callVi C [.int a1] (c_X12_firstOfWay l D ad ca kz C.2.2.2.2.2.2.1 _ _ _ _ h11) tw_1492 gm_X12_firstOfWay pi_249.1 (pe_11 pi_249.2) rfl ⟨rfl, rfl⟩ ⟨Nat.le_of_ble_eq_true rfl, Nat.le_of_ble_eq_true rfl⟩ rfl (Nat.le_of_ble_eq_true rfl) dX12_whistle_50 q00 ?_
        refine q_iastk (jn := 11) C pa_259 (vp_of (by decide)) rfl dX12_whistle_53 ?_
        refine q_aload_n C 0 dX12_whistle_54 rfl rfl ?_
        refine qg_11_20 C pi_249 tw_1073 dX12_whistle_55 ?_
        refine q_bipush (v := 11) C dX12_whistle_58 (by decide) ?_
        refine q_ialdk (jn := 11) C pa_259 (vp_of (by decide)) rfl dX12_whistle_60 ?_
        exact q_iret C hr hlk dX12_whistle_61 hF
      · replace hF := ift c7 hF
        refine q_iconst (v := -1) C dX12_whistle_36 (by decide) ?_
        exact q_iret C hr hlk dX12_whistle_37 hF
-- X12_winds
def L_X12_winds_93 (n : Nat) : Nat → Int32 → Int32 → Int32 → Int32 → Int32 → Int32 → Int32 → Int32 → Int32 → PS → Option (Int32 × Int32 × Int32 × Int32 × Int32 × Int32 × Int32 × Int32 × PS)
  | 0, _, _, _, _, _, _, _, _, _, _ => none
  | k + 1, x1, x2, x3, x4, x5, x6, x7, x8, x9, σ => (if x2 ≤ x9 then some (x1, x2, x3, x4, x5, x6, x7, x8, σ) else (F_X12_draw n (100 : Int32) σ).bind (fun q22 => (if x3 ≤ q22.1 then (F_X12_passes n q22.2).bind (fun q25 => L_X12_winds_93 n k x1 x2 x3 x4 x5 x6 x7 x8 (x9 + 1) q25.2) else (F_X12_blows n q22.2).bind (fun q27 => (F_X12_passes n q27).bind (fun q29 => L_X12_winds_93 n k x1 x2 x3 x4 x5 x6 x7 x8 (x9 + 1) q29.2)))))
def L_X12_winds_84 (n : Nat) : Nat → Int32 → Int32 → Int32 → Int32 → Int32 → Int32 → Int32 → Int32 → PS → Option (Int32 × Int32 × Int32 × PS)
  | 0, _, _, _, _, _, _, _, _, _ => none
  | k + 1, x1, x2, x3, x4, x5, x6, x7, x8, σ => (if x1 ≤ x8 then some (x4, x5, x6, σ) else (L_X12_winds_93 n n x1 x2 x3 x4 x5 x6 x7 x8 (0 : Int32) σ).bind (fun o21 => (F_X12_askedAll n o21.2.2.2.2.2.2.2.2).bind (fun q23 => (F_X12_bits n (q23.2.1 259 12) q23.2).bind (fun q25 => (F_X12_laysBack n q25.2).bind (fun q27 => L_X12_winds_84 n k o21.1 o21.2.1 o21.2.2.1 o21.2.2.2.1 (o21.2.2.2.2.1 + (q23.1 - o21.2.2.2.2.2.2.1)) (o21.2.2.2.2.2.1 + q25.1) o21.2.2.2.2.2.2.1 (o21.2.2.2.2.2.2.2.1 + 1) q27)))))
def F_X12_winds (n : Nat) (a1 : Int32) (a2 : Int32) (a3 : Int32) (a4 : Int32) (σ : PS) : Option (Int32 × PS) := (F_X12_isCamp n σ).bind (fun q1 => (if q1.1 = 0 then some ((-1 : Int32), q1.2) else (F_X12_in n a1.toInt64 (1 : Int64) (10 : Int64) q1.2).bind (fun q4 => (if q4.1 = 0 then some ((-1 : Int32), q4.2) else (F_X12_in n a2.toInt64 (1 : Int64) (60 : Int64) q4.2).bind (fun q7 => (if q7.1 = 0 then some ((-1 : Int32), q7.2) else (F_X12_in n a3.toInt64 (0 : Int64) (100 : Int64) q7.2).bind (fun q10 => (if q10.1 = 0 then some ((-1 : Int32), q10.2) else (F_X12_in n a4.toInt64 (0 : Int64) (1 : Int64) q10.2).bind (fun q13 => (if q13.1 = 0 then some ((-1 : Int32), q13.2) else (F_X12_askedAll n (psJ q13.2 249 38 ((q13.2.1 249 22).toInt64))).bind (fun q16 => (F_X12_keeps n q16.2).bind (fun q18 => (L_X12_winds_84 n n a1 a2 a3 a4 (0 : Int32) (0 : Int32) q16.1 (0 : Int32) q18).bind (fun o29 => (if o29.1 = 0 then some (o29.2.1, o29.2.2.2) else some (o29.2.2.1, o29.2.2.2)))))))))))))))
theorem gm_X12_winds : gM "AskedCampModel" yX12_winds (Cond.code yX12_winds cX12_winds 10 (Option.some Jvm.ClassFile.FieldType.int)) 4 := ⟨by decide +kernel, tw_1651, tw_1652, tw_12, tw_1653⟩
set_option maxHeartbeats 4000000 in
set_option maxRecDepth 100000 in
theorem l_X12_winds_93 {p : Program} {l : Launch} {e : Env} {R : Room} {s : State} {m : MethodId} {args : Array Value} {below : List Frame} {meth : Method} {c : Code} {D : va_G} {ad : Nat → Nat} {ca : Nat → ClassId} {kz : Nat → Nat} {Q : State → Prop} (C : pC p s m args c cX12_winds "AskedCampModel" 10 D ad ca kz) (hR : 7 ≤ R.frames ∧ 166 ≤ R.locals) {n : Nat} (o : Int32 × Int32 × Int32 × Int32 × Int32 × Int32 × Int32 × Int32 × PS) (hx0 : PW p l e R s m args below meth c 10 D ad ca 0 0 Q (o.2.2.2.2.2.2.2.2) 124 [(0, .ref (ad (249))), (1, .int o.1), (2, .int o.2.1), (3, .int o.2.2.1), (4, .int o.2.2.2.1), (5, .int o.2.2.2.2.1), (6, .int o.2.2.2.2.2.1), (7, .int o.2.2.2.2.2.2.1), (8, .int o.2.2.2.2.2.2.2.1)] []) : ∀ (k : Nat) (x1 : Int32) (x2 : Int32) (x3 : Int32) (x4 : Int32) (x5 : Int32) (x6 : Int32) (x7 : Int32) (x8 : Int32) (x9 : Int32) (σ : PS), L_X12_winds_93 n k x1 x2 x3 x4 x5 x6 x7 x8 x9 σ = some o → PW p l e R s m args below meth c 10 D ad ca 0 0 Q σ 93 [(0, .ref (ad (249))), (1, .int x1), (2, .int x2), (3, .int x3), (4, .int x4), (5, .int x5), (6, .int x6), (7, .int x7), (8, .int x8), (9, .int x9)] [] := by
  intro k
  induction k with
  | zero => intro x1 x2 x3 x4 x5 x6 x7 x8 x9 σ hF; exact nomatch (show (none : Option (Int32 × Int32 × Int32 × Int32 × Int32 × Int32 × Int32 × Int32 × PS)) = some o from hF)
  | succ k ih =>
    intro x1 x2 x3 x4 x5 x6 x7 x8 x9 σ hF
    rw [L_X12_winds_93] at hF
    refine q_iload C 9 dX12_winds_93 rfl ?_
    refine q_iload_n C 2 dX12_winds_95 rfl rfl ?_
    refine q_icmp_ge (tgt := 124) C dX12_winds_96 (by decide) (fun c21 => ?_) (fun c21 => ?_)
    · replace hF := ift c21 hF
      cases hF
      refine q_sub [0, 1, 2, 3, 4, 5, 6, 7, 8] rfl ?_
      exact hx0
    · replace hF := ife c21 hF
      refine q_aload_n C 0 dX12_winds_99 rfl rfl ?_
      refine q_bipush (v := 100) C dX12_winds_100 (by decide) ?_
      obtain ⟨q22, h23, hF⟩ := bnd hF
      try dsimp only at hF
      refine q_callVi C [.int 100] (c_X12_draw l D ad ca kz C.2.2.2.2.2.2.1 _ _ _ _ h23) tw_1655 gm_X12_draw pi_249.1 (pe_11 pi_249.2) rfl ⟨rfl, rfl⟩ ⟨Nat.le_trans (Nat.le_of_ble_eq_true rfl) hR.1, Nat.le_trans (Nat.le_of_ble_eq_true rfl) hR.2⟩ rfl (Nat.le_of_ble_eq_true rfl) dX12_winds_102 q00 ?_
      refine q_iload_n C 3 dX12_winds_105 rfl rfl ?_
      refine q_icmp_ge (tgt := 113) C dX12_winds_106 (by decide) (fun c24 => ?_) (fun c24 => ?_)
      · replace hF := ift c24 hF
        refine q_aload_n C 0 dX12_winds_113 rfl rfl ?_
        obtain ⟨q25, h26, hF⟩ := bnd hF
        try dsimp only at hF
        refine q_callVi C [] (c_X12_passes l D ad ca kz C.2.2.2.2.2.2.1 _ _ _ h26) tw_1411 gm_X12_passes pi_249.1 (pe_11 pi_249.2) rfl ⟨rfl, rfl⟩ ⟨Nat.le_trans (Nat.le_of_ble_eq_true rfl) hR.1, Nat.le_trans (Nat.le_of_ble_eq_true rfl) hR.2⟩ rfl (Nat.le_of_ble_eq_true rfl) dX12_winds_114 q00 ?_
        refine q_pop C dX12_winds_117 rfl ?_
        refine q_iinc C 9 [(9, .int (x9 + 1)), (0, .ref (ad (249))), (1, .int x1), (2, .int x2), (3, .int x3), (4, .int x4), (5, .int x5), (6, .int x6), (7, .int x7), (8, .int x8)] dX12_winds_118 rfl rfl (by decide) rfl ?_
        refine q_goto (tgt := 93) C dX12_winds_121 (by decide) ?_
        refine q_sub [1, 2, 3, 4, 5, 6, 7, 8, 9, 0] rfl ?_
        exact ih _ _ _ _ _ _ _ _ _ _ hF
      · replace hF := ife c24 hF
        refine q_aload_n C 0 dX12_winds_109 rfl rfl ?_
        obtain ⟨q27, h28, hF⟩ := bnd hF
        try dsimp only at hF
        refine q_callVv C [] (c_X12_blows l D ad ca kz C.2.2.2.2.2.2.1 _ _ _ h28) tw_1663 gm_X12_blows pi_249.1 (pe_11 pi_249.2) rfl ⟨rfl, rfl⟩ ⟨Nat.le_trans (Nat.le_of_ble_eq_true rfl) hR.1, Nat.le_trans (Nat.le_of_ble_eq_true rfl) hR.2⟩ rfl (Nat.le_of_ble_eq_true rfl) dX12_winds_110 q00 ?_
        refine q_aload_n C 0 dX12_winds_113 rfl rfl ?_
        obtain ⟨q29, h30, hF⟩ := bnd hF
        try dsimp only at hF
        refine q_callVi C [] (c_X12_passes l D ad ca kz C.2.2.2.2.2.2.1 _ _ _ h30) tw_1411 gm_X12_passes pi_249.1 (pe_11 pi_249.2) rfl ⟨rfl, rfl⟩ ⟨Nat.le_trans (Nat.le_of_ble_eq_true rfl) hR.1, Nat.le_trans (Nat.le_of_ble_eq_true rfl) hR.2⟩ rfl (Nat.le_of_ble_eq_true rfl) dX12_winds_114 q00 ?_
        refine q_pop C dX12_winds_117 rfl ?_
        refine q_iinc C 9 [(9, .int (x9 + 1)), (0, .ref (ad (249))), (1, .int x1), (2, .int x2), (3, .int x3), (4, .int x4), (5, .int x5), (6, .int x6), (7, .int x7), (8, .int x8)] dX12_winds_118 rfl rfl (by decide) rfl ?_
        refine q_goto (tgt := 93) C dX12_winds_121 (by decide) ?_
        refine q_sub [1, 2, 3, 4, 5, 6, 7, 8, 9, 0] rfl ?_
        exact ih _ _ _ _ _ _ _ _ _ _ hF
set_option maxHeartbeats 4000000 in
set_option maxRecDepth 100000 in
theorem l_X12_winds_84 {p : Program} {l : Launch} {e : Env} {R : Room} {s : State} {m : MethodId} {args : Array Value} {below : List Frame} {meth : Method} {c : Code} {D : va_G} {ad : Nat → Nat} {ca : Nat → ClassId} {kz : Nat → Nat} {Q : State → Prop} (C : pC p s m args c cX12_winds "AskedCampModel" 10 D ad ca kz) (hR : 7 ≤ R.frames ∧ 166 ≤ R.locals) {n : Nat} (o : Int32 × Int32 × Int32 × PS) (hx0 : PW p l e R s m args below meth c 10 D ad ca 0 0 Q (o.2.2.2) 161 [(4, .int o.1), (5, .int o.2.1), (6, .int o.2.2.1)] []) : ∀ (k : Nat) (x1 : Int32) (x2 : Int32) (x3 : Int32) (x4 : Int32) (x5 : Int32) (x6 : Int32) (x7 : Int32) (x8 : Int32) (σ : PS), L_X12_winds_84 n k x1 x2 x3 x4 x5 x6 x7 x8 σ = some o → PW p l e R s m args below meth c 10 D ad ca 0 0 Q σ 84 [(0, .ref (ad (249))), (1, .int x1), (2, .int x2), (3, .int x3), (4, .int x4), (5, .int x5), (6, .int x6), (7, .int x7), (8, .int x8)] [] := by
  intro k
  induction k with
  | zero => intro x1 x2 x3 x4 x5 x6 x7 x8 σ hF; exact nomatch (show (none : Option (Int32 × Int32 × Int32 × PS)) = some o from hF)
  | succ k ih =>
    intro x1 x2 x3 x4 x5 x6 x7 x8 σ hF
    rw [L_X12_winds_84] at hF
    refine q_iload C 8 dX12_winds_84 rfl ?_
    refine q_iload_n C 1 dX12_winds_86 rfl rfl ?_
    refine q_icmp_ge (tgt := 161) C dX12_winds_87 (by decide) (fun c20 => ?_) (fun c20 => ?_)
    · replace hF := ift c20 hF
      cases hF
      refine q_sub [4, 5, 6] rfl ?_
      exact hx0
    · replace hF := ife c20 hF
      refine q_iconst (v := 0) C dX12_winds_90 (by decide) ?_
      refine q_istore C [(9, .int 0), (0, .ref (ad (249))), (1, .int x1), (2, .int x2), (3, .int x3), (4, .int x4), (5, .int x5), (6, .int x6), (7, .int x7), (8, .int x8)] dX12_winds_91 (by decide) rfl ?_
      obtain ⟨o21, h22, hF⟩ := bnd hF
      try dsimp only at hF
      refine q_sub [1, 2, 3, 4, 5, 6, 7, 8, 9, 0] rfl ?_
      refine l_X12_winds_93 C ⟨hR.1, hR.2⟩ o21 ?_ n _ _ _ _ _ _ _ _ _ _ h22
      refine q_iload C 5 dX12_winds_124 rfl ?_
      refine q_aload_n C 0 dX12_winds_126 rfl rfl ?_
      obtain ⟨q23, h24, hF⟩ := bnd hF
      try dsimp only at hF
      refine q_callVi C [] (c_X12_askedAll l D ad ca kz C.2.2.2.2.2.2.1 _ _ _ h24) tw_1454 gm_X12_askedAll pi_249.1 (pe_11 pi_249.2) rfl ⟨rfl, rfl⟩ ⟨Nat.le_trans (Nat.le_of_ble_eq_true rfl) hR.1, Nat.le_trans (Nat.le_of_ble_eq_true rfl) hR.2⟩ rfl (Nat.le_of_ble_eq_true rfl) dX12_winds_127 q00 ?_
      refine q_iload C 7 dX12_winds_130 rfl ?_
      refine q_isub C dX12_winds_132 ?_
      refine q_iadd C dX12_winds_133 ?_
      refine q_istore C [(5, .int (o21.2.2.2.2.1 + (q23.1 - o21.2.2.2.2.2.2.1))), (0, .ref (ad (249))), (1, .int o21.1), (2, .int o21.2.1), (3, .int o21.2.2.1), (4, .int o21.2.2.2.1), (6, .int o21.2.2.2.2.2.1), (7, .int o21.2.2.2.2.2.2.1), (8, .int o21.2.2.2.2.2.2.2.1)] dX12_winds_134 (by decide) rfl ?_
      refine q_iload C 6 dX12_winds_136 rfl ?_
      refine q_aload_n C 1 dX12_winds_138 rfl rfl ?_
      refine qg_11_20 C pi_249 tw_1073 dX12_winds_139 ?_
      refine q_bipush (v := 12) C dX12_winds_142 (by decide) ?_
      refine q_ialdk (jn := 12) C pa_259 (vp_of (by decide)) rfl dX12_winds_144 ?_
      obtain ⟨q25, h26, hF⟩ := bnd hF
      try dsimp only at hF
      refine q_callSi C [.int (q23.2.1 259 12)] (c_X12_bits l D ad ca kz C.2.2.2.2.2.2.1 _ _ _ _ h26) tw_1451 gm_X12_bits ⟨rfl, rfl⟩ ⟨Nat.le_trans (Nat.le_of_ble_eq_true rfl) hR.1, Nat.le_trans (Nat.le_of_ble_eq_true rfl) hR.2⟩ rfl (Nat.le_of_ble_eq_true rfl) dX12_winds_145 q00 ?_
      refine q_iadd C dX12_winds_148 ?_
      refine q_istore C [(6, .int (o21.2.2.2.2.2.1 + q25.1)), (5, .int (o21.2.2.2.2.1 + (q23.1 - o21.2.2.2.2.2.2.1))), (0, .ref (ad (249))), (1, .int o21.1), (2, .int o21.2.1), (3, .int o21.2.2.1), (4, .int o21.2.2.2.1), (7, .int o21.2.2.2.2.2.2.1), (8, .int o21.2.2.2.2.2.2.2.1)] dX12_winds_149 (by decide) rfl ?_
      refine q_aload_n C 2 dX12_winds_151 rfl rfl ?_
      obtain ⟨q27, h28, hF⟩ := bnd hF
      try dsimp only at hF
      refine q_callVv C [] (c_X12_laysBack l D ad ca kz C.2.2.2.2.2.2.1 _ _ _ h28) tw_1526 gm_X12_laysBack pi_249.1 (pe_11 pi_249.2) rfl ⟨rfl, rfl⟩ ⟨Nat.le_trans (Nat.le_of_ble_eq_true rfl) hR.1, Nat.le_trans (Nat.le_of_ble_eq_true rfl) hR.2⟩ rfl (Nat.le_of_ble_eq_true rfl) dX12_winds_152 q00 ?_
      refine q_iinc C 8 [(8, .int (o21.2.2.2.2.2.2.2.1 + 1)), (6, .int (o21.2.2.2.2.2.1 + q25.1)), (5, .int (o21.2.2.2.2.1 + (q23.1 - o21.2.2.2.2.2.2.1))), (0, .ref (ad (249))), (1, .int o21.1), (2, .int o21.2.1), (3, .int o21.2.2.1), (4, .int o21.2.2.2.1), (7, .int o21.2.2.2.2.2.2.1)] dX12_winds_155 rfl rfl (by decide) rfl ?_
      refine q_goto (tgt := 84) C dX12_winds_158 (by decide) ?_
      refine q_sub [3, 4, 5, 6, 7, 2, 1, 8, 0] rfl ?_
      exact ih _ _ _ _ _ _ _ _ _ hF
set_option maxHeartbeats 4000000 in
set_option maxRecDepth 100000 in
theorem c_X12_winds (l : Launch) (D : va_G) (ad : Nat → Nat) (ca : Nat → ClassId) (kz : Nat → Nat) (hJ : pInj ad) (n : Nat) (a1 : Int32) (a2 : Int32) (a3 : Int32) (a4 : Int32) (σ : PS) (out : Int32 × PS) (hF : F_X12_winds n a1 a2 a3 a4 σ = some out) : Met l yX12_winds (Cond.code yX12_winds cX12_winds 10 (Option.some Jvm.ClassFile.FieldType.int) :: gw_tbl) { frames := 7, cells := 0, slots := 0, locals := 166 } (va_Pc [.ref (ad (249)), .int a1, .int a2, .int a3, .int a4] (pU D ad ca kz σ)) (pQi D ad ca out) 0 0 (pAD ad) := by
  refine q_entry (own := "AskedCampModel") hJ (by decide) rfl (Nat.le_of_ble_eq_true rfl) (fun p e s m below meth c C hr hlk => ?_)
  refine q_lv [(0, .ref (ad (249))), (1, .int a1), (2, .int a2), (3, .int a3), (4, .int a4)] rfl ?_
  rw [F_X12_winds] at hF
  refine q_aload_n C 0 dX12_winds_0 rfl rfl ?_
  obtain ⟨q1, h2, hF⟩ := bnd hF
  try dsimp only at hF
  refine q_callVi C [] (c_X12_isCamp l D ad ca kz C.2.2.2.2.2.2.1 _ _ _ h2) tw_1403 gm_X12_isCamp pi_249.1 (pe_11 pi_249.2) rfl ⟨rfl, rfl⟩ ⟨Nat.le_of_ble_eq_true rfl, Nat.le_of_ble_eq_true rfl⟩ rfl (Nat.le_of_ble_eq_true rfl) dX12_winds_1 q00 ?_
  refine q_if_eq (tgt := 54) C dX12_winds_4 (by decide) (fun c3 => ?_) (fun c3 => ?_)
  · replace hF := ift c3 hF
    refine q_iconst (v := -1) C dX12_winds_54 (by decide) ?_
    exact q_iret C hr hlk dX12_winds_55 hF
  · replace hF := ife c3 hF
    refine q_iload_n C 1 dX12_winds_7 rfl rfl ?_
    refine q_i2l C dX12_winds_8 ?_
    refine q_lconst (v := 1) C dX12_winds_9 (by decide) ?_
    refine q_ldc2 C dX12_winds_10 tw_1654 ?_
    obtain ⟨q4, h5, hF⟩ := bnd hF
    try dsimp only at hF
    refine q_callSi C [.long a1.toInt64, .long ((1 : Int64)), .long ((10 : Int64))] (c_X12_in l D ad ca kz C.2.2.2.2.2.2.1 _ _ _ _ _ _ h5) tw_1255 gm_X12_in ⟨rfl, rfl⟩ ⟨Nat.le_of_ble_eq_true rfl, Nat.le_of_ble_eq_true rfl⟩ rfl (Nat.le_of_ble_eq_true rfl) dX12_winds_13 q00 ?_
    refine q_if_eq (tgt := 54) C dX12_winds_16 (by decide) (fun c6 => ?_) (fun c6 => ?_)
    · replace hF := ift c6 hF
      refine q_iconst (v := -1) C dX12_winds_54 (by decide) ?_
      exact q_iret C hr hlk dX12_winds_55 hF
    · replace hF := ife c6 hF
      refine q_iload_n C 2 dX12_winds_19 rfl rfl ?_
      refine q_i2l C dX12_winds_20 ?_
      refine q_lconst (v := 1) C dX12_winds_21 (by decide) ?_
      refine q_ldc2 C dX12_winds_22 tw_1622 ?_
      obtain ⟨q7, h8, hF⟩ := bnd hF
      try dsimp only at hF
      refine q_callSi C [.long a2.toInt64, .long ((1 : Int64)), .long ((60 : Int64))] (c_X12_in l D ad ca kz C.2.2.2.2.2.2.1 _ _ _ _ _ _ h8) tw_1255 gm_X12_in ⟨rfl, rfl⟩ ⟨Nat.le_of_ble_eq_true rfl, Nat.le_of_ble_eq_true rfl⟩ rfl (Nat.le_of_ble_eq_true rfl) dX12_winds_25 q00 ?_
      refine q_if_eq (tgt := 54) C dX12_winds_28 (by decide) (fun c9 => ?_) (fun c9 => ?_)
      · replace hF := ift c9 hF
        refine q_iconst (v := -1) C dX12_winds_54 (by decide) ?_
        exact q_iret C hr hlk dX12_winds_55 hF
      · replace hF := ife c9 hF
        refine q_iload_n C 3 dX12_winds_31 rfl rfl ?_
        refine q_i2l C dX12_winds_32 ?_
        refine q_lconst (v := 0) C dX12_winds_33 (by decide) ?_
        refine q_ldc2 C dX12_winds_34 tw_1513 ?_
        obtain ⟨q10, h11, hF⟩ := bnd hF
        try dsimp only at hF
        refine q_callSi C [.long a3.toInt64, .long ((0 : Int64)), .long ((100 : Int64))] (c_X12_in l D ad ca kz C.2.2.2.2.2.2.1 _ _ _ _ _ _ h11) tw_1255 gm_X12_in ⟨rfl, rfl⟩ ⟨Nat.le_of_ble_eq_true rfl, Nat.le_of_ble_eq_true rfl⟩ rfl (Nat.le_of_ble_eq_true rfl) dX12_winds_37 q00 ?_
        refine q_if_eq (tgt := 54) C dX12_winds_40 (by decide) (fun c12 => ?_) (fun c12 => ?_)
        · replace hF := ift c12 hF
          refine q_iconst (v := -1) C dX12_winds_54 (by decide) ?_
          exact q_iret C hr hlk dX12_winds_55 hF
        · replace hF := ife c12 hF
          refine q_iload C 4 dX12_winds_43 rfl ?_
          refine q_i2l C dX12_winds_45 ?_
          refine q_lconst (v := 0) C dX12_winds_46 (by decide) ?_
          refine q_lconst (v := 1) C dX12_winds_47 (by decide) ?_
          obtain ⟨q13, h14, hF⟩ := bnd hF
          try dsimp only at hF
          refine q_callSi C [.long a4.toInt64, .long ((0 : Int64)), .long ((1 : Int64))] (c_X12_in l D ad ca kz C.2.2.2.2.2.2.1 _ _ _ _ _ _ h14) tw_1255 gm_X12_in ⟨rfl, rfl⟩ ⟨Nat.le_of_ble_eq_true rfl, Nat.le_of_ble_eq_true rfl⟩ rfl (Nat.le_of_ble_eq_true rfl) dX12_winds_48 q00 ?_
          refine q_if_ne (tgt := 56) C dX12_winds_51 (by decide) (fun c15 => ?_) (fun c15 => ?_)
          · replace hF := ife c15 hF
            refine q_aload_n C 0 dX12_winds_56 rfl rfl ?_
            refine q_aload_n C 0 dX12_winds_57 rfl rfl ?_
            refine qg_11_22 C pi_249 tw_1075 dX12_winds_58 ?_
            refine q_i2l C dX12_winds_61 ?_
            refine qs_11_38 C pi_249 tw_1091 dX12_winds_62 ?_
            refine q_iconst (v := 0) C dX12_winds_65 (by decide) ?_
            refine q_istore C [(5, .int 0), (0, .ref (ad (249))), (1, .int a1), (2, .int a2), (3, .int a3), (4, .int a4)] dX12_winds_66 (by decide) rfl ?_
            refine q_iconst (v := 0) C dX12_winds_68 (by decide) ?_
            refine q_istore C [(6, .int 0), (5, .int 0), (0, .ref (ad (249))), (1, .int a1), (2, .int a2), (3, .int a3), (4, .int a4)] dX12_winds_69 (by decide) rfl ?_
            refine q_aload_n C 2 dX12_winds_71 rfl rfl ?_
            obtain ⟨q16, h17, hF⟩ := bnd hF
            try dsimp only at hF
            refine q_callVi C [] (c_X12_askedAll l D ad ca kz C.2.2.2.2.2.2.1 _ _ _ h17) tw_1454 gm_X12_askedAll pi_249.1 (pe_11 pi_249.2) rfl ⟨rfl, rfl⟩ ⟨Nat.le_of_ble_eq_true rfl, Nat.le_of_ble_eq_true rfl⟩ rfl (Nat.le_of_ble_eq_true rfl) dX12_winds_72 q00 ?_
            refine q_istore C [(7, .int q16.1), (6, .int 0), (5, .int 0), (0, .ref (ad (249))), (1, .int a1), (2, .int a2), (3, .int a3), (4, .int a4)] dX12_winds_75 (by decide) rfl ?_
            refine q_aload_n C 3 dX12_winds_77 rfl rfl ?_
            obtain ⟨q18, h19, hF⟩ := bnd hF
            try dsimp only at hF
            refine q_callVv C [] (c_X12_keeps l D ad ca kz C.2.2.2.2.2.2.1 _ _ _ h19) tw_1514 gm_X12_keeps pi_249.1 (pe_11 pi_249.2) rfl ⟨rfl, rfl⟩ ⟨Nat.le_of_ble_eq_true rfl, Nat.le_of_ble_eq_true rfl⟩ rfl (Nat.le_of_ble_eq_true rfl) dX12_winds_78 q00 ?_
            refine q_iconst (v := 0) C dX12_winds_81 (by decide) ?_
            refine q_istore C [(8, .int 0), (7, .int q16.1), (6, .int 0), (5, .int 0), (0, .ref (ad (249))), (1, .int a1), (2, .int a2), (3, .int a3), (4, .int a4)] dX12_winds_82 (by decide) rfl ?_
            obtain ⟨o29, h30, hF⟩ := bnd hF
            try dsimp only at hF
            refine q_sub [4, 5, 6, 7, 8, 3, 2, 1, 0] rfl ?_
            refine l_X12_winds_84 C ⟨Nat.le_of_ble_eq_true rfl, Nat.le_of_ble_eq_true rfl⟩ o29 ?_ n _ _ _ _ _ _ _ _ _ h30
            refine q_iload C 0 dX12_winds_161 rfl ?_
            refine q_if_ne (tgt := 171) C dX12_winds_163 (by decide) (fun c31 => ?_) (fun c31 => ?_)
            · replace hF := ife c31 hF
              refine q_iload C 2 dX12_winds_171 rfl ?_
              exact q_iret C hr hlk dX12_winds_173 hF
            · replace hF := ift c31 hF
              refine q_iload C 1 dX12_winds_166 rfl ?_
              refine q_goto (tgt := 173) C dX12_winds_168 (by decide) ?_
              exact q_iret C hr hlk dX12_winds_173 hF
          · replace hF := ift c15 hF
            refine q_iconst (v := -1) C dX12_winds_54 (by decide) ?_
            exact q_iret C hr hlk dX12_winds_55 hF
