-- X12_cutsOf
def L_X12_cutsOf_9 (n : Nat) : Nat → Int32 → Int32 → Int32 → PS → Option (Int32 × PS)
  | 0, _, _, _, _ => none
  | k + 1, x1, x2, x3, σ => (if (3 : Int32) < x3 then some (x2, σ) else (if 0 ≤ x2 then some (x2, σ) else (F_X12_isCutBy n x1 x3 σ).bind (fun q5 => (if q5.1 = 0 then (F_X12_laysBack n q5.2).bind (fun q8 => L_X12_cutsOf_9 n k x1 x2 (x3 + 1) q8) else (F_X12_laysBack n q5.2).bind (fun q10 => L_X12_cutsOf_9 n k x1 x3 (x3 + 1) q10)))))
def F_X12_cutsOf (n : Nat) (a1 : Int32) (σ : PS) : Option (Int32 × PS) := (F_X12_keeps n σ).bind (fun q1 => (L_X12_cutsOf_9 n n a1 (-2 : Int32) (0 : Int32) q1).bind (fun o12 => some (o12.1, o12.2)))
theorem gm_X12_cutsOf : gM "AskedCampModel" yX12_cutsOf (Cond.code yX12_cutsOf cX12_cutsOf 4 (Option.some Jvm.ClassFile.FieldType.int)) 1 := ⟨by decide +kernel, tw_1557, tw_p88, tw_12, tw_1558⟩
set_option maxHeartbeats 4000000 in
set_option maxRecDepth 100000 in
theorem l_X12_cutsOf_9 {p : Program} {l : Launch} {e : Env} {R : Room} {s : State} {m : MethodId} {args : Array Value} {below : List Frame} {meth : Method} {c : Code} {D : va_G} {ad : Nat → Nat} {ca : Nat → ClassId} {kz : Nat → Nat} {Q : State → Prop} (C : pC p s m args c cX12_cutsOf "AskedCampModel" 4 D ad ca kz) (hR : 5 ≤ R.frames ∧ 114 ≤ R.locals) {n : Nat} (o : Int32 × PS) (hx0 : PW p l e R s m args below meth c 4 D ad ca 0 0 Q (o.2) 39 [(2, .int o.1)] []) : ∀ (k : Nat) (x1 : Int32) (x2 : Int32) (x3 : Int32) (σ : PS), L_X12_cutsOf_9 n k x1 x2 x3 σ = some o → PW p l e R s m args below meth c 4 D ad ca 0 0 Q σ 9 [(0, .ref (ad (249))), (1, .int x1), (2, .int x2), (3, .int x3)] [] := by
  intro k
  induction k with
  | zero => intro x1 x2 x3 σ hF; exact nomatch (show (none : Option (Int32 × PS)) = some o from hF)
  | succ k ih =>
    intro x1 x2 x3 σ hF
    rw [L_X12_cutsOf_9] at hF
    refine q_iload_n C 3 dX12_cutsOf_9 rfl rfl ?_
    refine q_iconst (v := 3) C dX12_cutsOf_10 (by decide) ?_
    refine q_icmp_gt (tgt := 39) C dX12_cutsOf_11 (by decide) (fun c3 => ?_) (fun c3 => ?_)
    · replace hF := ift c3 hF
      cases hF
      refine q_sub [2] rfl ?_
      exact hx0
    · replace hF := ife c3 hF
      refine q_iload_n C 2 dX12_cutsOf_14 rfl rfl ?_
      refine q_if_ge (tgt := 39) C dX12_cutsOf_15 (by decide) (fun c4 => ?_) (fun c4 => ?_)
      · replace hF := ift c4 hF
        cases hF
        refine q_sub [2] rfl ?_
        exact hx0
      · replace hF := ife c4 hF
        refine q_aload_n C 0 dX12_cutsOf_18 rfl rfl ?_
        refine q_iload_n C 1 dX12_cutsOf_19 rfl rfl ?_
        refine q_iload_n C 3 dX12_cutsOf_20 rfl rfl ?_
        obtain ⟨q5, h6, hF⟩ := bnd hF
        try dsimp only at hF
        refine q_callVi C [.int x1, .int x3] (c_X12_isCutBy l D ad ca kz C.2.2.2.2.2.2.1 _ _ _ _ _ h6) tw_1559 gm_X12_isCutBy pi_249.1 (pe_11 pi_249.2) rfl ⟨rfl, rfl⟩ ⟨Nat.le_trans (Nat.le_of_ble_eq_true rfl) hR.1, Nat.le_trans (Nat.le_of_ble_eq_true rfl) hR.2⟩ rfl (Nat.le_of_ble_eq_true rfl) dX12_cutsOf_21 q00 ?_
        refine q_if_eq (tgt := 29) C dX12_cutsOf_24 (by decide) (fun c7 => ?_) (fun c7 => ?_)
        · replace hF := ift c7 hF
          refine q_aload_n C 0 dX12_cutsOf_29 rfl rfl ?_
          obtain ⟨q8, h9, hF⟩ := bnd hF
          try dsimp only at hF
          refine q_callVv C [] (c_X12_laysBack l D ad ca kz C.2.2.2.2.2.2.1 _ _ _ h9) tw_1526 gm_X12_laysBack pi_249.1 (pe_11 pi_249.2) rfl ⟨rfl, rfl⟩ ⟨Nat.le_trans (Nat.le_of_ble_eq_true rfl) hR.1, Nat.le_trans (Nat.le_of_ble_eq_true rfl) hR.2⟩ rfl (Nat.le_of_ble_eq_true rfl) dX12_cutsOf_30 q00 ?_
          refine q_iinc C 3 [(3, .int (x3 + 1)), (0, .ref (ad (249))), (1, .int x1), (2, .int x2)] dX12_cutsOf_33 rfl rfl (by decide) rfl ?_
          refine q_goto (tgt := 9) C dX12_cutsOf_36 (by decide) ?_
          refine q_sub [1, 2, 3, 0] rfl ?_
          exact ih _ _ _ _ hF
        · replace hF := ife c7 hF
          refine q_iload_n C 3 dX12_cutsOf_27 rfl rfl ?_
          refine q_istore_n C [(2, .int x3), (0, .ref (ad (249))), (1, .int x1), (3, .int x3)] dX12_cutsOf_28 rfl (by decide) rfl ?_
          refine q_aload_n C 1 dX12_cutsOf_29 rfl rfl ?_
          obtain ⟨q10, h11, hF⟩ := bnd hF
          try dsimp only at hF
          refine q_callVv C [] (c_X12_laysBack l D ad ca kz C.2.2.2.2.2.2.1 _ _ _ h11) tw_1526 gm_X12_laysBack pi_249.1 (pe_11 pi_249.2) rfl ⟨rfl, rfl⟩ ⟨Nat.le_trans (Nat.le_of_ble_eq_true rfl) hR.1, Nat.le_trans (Nat.le_of_ble_eq_true rfl) hR.2⟩ rfl (Nat.le_of_ble_eq_true rfl) dX12_cutsOf_30 q00 ?_
          refine q_iinc C 3 [(3, .int (x3 + 1)), (2, .int x3), (0, .ref (ad (249))), (1, .int x1)] dX12_cutsOf_33 rfl rfl (by decide) rfl ?_
          refine q_goto (tgt := 9) C dX12_cutsOf_36 (by decide) ?_
          refine q_sub [2, 3, 1, 0] rfl ?_
          exact ih _ _ _ _ hF
set_option maxHeartbeats 4000000 in
set_option maxRecDepth 100000 in
theorem c_X12_cutsOf (l : Launch) (D : va_G) (ad : Nat → Nat) (ca : Nat → ClassId) (kz : Nat → Nat) (hJ : pInj ad) (n : Nat) (a1 : Int32) (σ : PS) (out : Int32 × PS) (hF : F_X12_cutsOf n a1 σ = some out) : Met l yX12_cutsOf (Cond.code yX12_cutsOf cX12_cutsOf 4 (Option.some Jvm.ClassFile.FieldType.int) :: gw_tbl) { frames := 5, cells := 0, slots := 0, locals := 114 } (va_Pc [.ref (ad (249)), .int a1] (pU D ad ca kz σ)) (pQi D ad ca out) 0 0 (pAD ad) := by
  refine q_entry (own := "AskedCampModel") hJ (by decide) rfl (Nat.le_of_ble_eq_true rfl) (fun p e s m below meth c C hr hlk => ?_)
  refine q_lv [(0, .ref (ad (249))), (1, .int a1)] rfl ?_
  rw [F_X12_cutsOf] at hF
  refine q_bipush (v := -2) C dX12_cutsOf_0 (by decide) ?_
  refine q_istore_n C [(2, .int (-2)), (0, .ref (ad (249))), (1, .int a1)] dX12_cutsOf_2 rfl (by decide) rfl ?_
  refine q_aload_n C 1 dX12_cutsOf_3 rfl rfl ?_
  obtain ⟨q1, h2, hF⟩ := bnd hF
  try dsimp only at hF
  refine q_callVv C [] (c_X12_keeps l D ad ca kz C.2.2.2.2.2.2.1 _ _ _ h2) tw_1514 gm_X12_keeps pi_249.1 (pe_11 pi_249.2) rfl ⟨rfl, rfl⟩ ⟨Nat.le_of_ble_eq_true rfl, Nat.le_of_ble_eq_true rfl⟩ rfl (Nat.le_of_ble_eq_true rfl) dX12_cutsOf_4 q00 ?_
  refine q_iconst (v := 0) C dX12_cutsOf_7 (by decide) ?_
  refine q_istore_n C [(3, .int 0), (2, .int (-2)), (0, .ref (ad (249))), (1, .int a1)] dX12_cutsOf_8 rfl (by decide) rfl ?_
  obtain ⟨o12, h13, hF⟩ := bnd hF
  try dsimp only at hF
  refine q_sub [2, 3, 1, 0] rfl ?_
  refine l_X12_cutsOf_9 C ⟨Nat.le_of_ble_eq_true rfl, Nat.le_of_ble_eq_true rfl⟩ o12 ?_ n _ _ _ _ h13
  refine q_iload_n C 0 dX12_cutsOf_39 rfl rfl ?_
  exact q_iret C hr hlk dX12_cutsOf_40 hF
-- X12_cut
def F_X12_cut (n : Nat) (a1 : Int32) (a2 : Int32) (σ : PS) : Option (Int32 × PS) := (F_X12_isTent n a1 σ).bind (fun q1 => (if q1.1 = 0 then some ((-1 : Int32), q1.2) else (F_X12_in n a2.toInt64 (0 : Int64) (3 : Int64) q1.2).bind (fun q4 => (if q4.1 = 0 then some ((-1 : Int32), q4.2) else (F_X12_cutsOf n a1 q4.2).bind (fun q7 => (if a2 = 0 then some (q7.1, q7.2) else (if 0 ≤ q7.1 then (if q7.1 < a2 then some ((-2 : Int32), q7.2) else (if 0 ≤ (a2 - (1 : Int32)) ∧ (a2 - (1 : Int32)).toNatClampNeg < 4 then some ((q7.2.1 264 ((a2 - (1 : Int32)).toNatClampNeg)), q7.2) else none)) else some (q7.1, q7.2))))))))
theorem gm_X12_cut : gM "AskedCampModel" yX12_cut (Cond.code yX12_cut cX12_cut 4 (Option.some Jvm.ClassFile.FieldType.int)) 2 := ⟨by decide +kernel, tw_1552, tw_1553, tw_12, tw_1554⟩
set_option maxHeartbeats 4000000 in
set_option maxRecDepth 100000 in
theorem c_X12_cut (l : Launch) (D : va_G) (ad : Nat → Nat) (ca : Nat → ClassId) (kz : Nat → Nat) (hJ : pInj ad) (n : Nat) (a1 : Int32) (a2 : Int32) (σ : PS) (out : Int32 × PS) (hF : F_X12_cut n a1 a2 σ = some out) : Met l yX12_cut (Cond.code yX12_cut cX12_cut 4 (Option.some Jvm.ClassFile.FieldType.int) :: gw_tbl) { frames := 6, cells := 0, slots := 0, locals := 137 } (va_Pc [.ref (ad (249)), .int a1, .int a2] (pU D ad ca kz σ)) (pQi D ad ca out) 0 0 (pAD ad) := by
  refine q_entry (own := "AskedCampModel") hJ (by decide) rfl (Nat.le_of_ble_eq_true rfl) (fun p e s m below meth c C hr hlk => ?_)
  refine q_lv [(0, .ref (ad (249))), (1, .int a1), (2, .int a2)] rfl ?_
  rw [F_X12_cut] at hF
  refine q_aload_n C 0 dX12_cut_0 rfl rfl ?_
  refine q_iload_n C 1 dX12_cut_1 rfl rfl ?_
  obtain ⟨q1, h2, hF⟩ := bnd hF
  try dsimp only at hF
  refine q_callVi C [.int a1] (c_X12_isTent l D ad ca kz C.2.2.2.2.2.2.1 _ _ _ _ h2) tw_1369 gm_X12_isTent pi_249.1 (pe_11 pi_249.2) rfl ⟨rfl, rfl⟩ ⟨Nat.le_of_ble_eq_true rfl, Nat.le_of_ble_eq_true rfl⟩ rfl (Nat.le_of_ble_eq_true rfl) dX12_cut_2 q00 ?_
  refine q_if_eq (tgt := 20) C dX12_cut_5 (by decide) (fun c3 => ?_) (fun c3 => ?_)
  · replace hF := ift c3 hF
    refine q_iconst (v := -1) C dX12_cut_20 (by decide) ?_
    exact q_iret C hr hlk dX12_cut_21 hF
  · replace hF := ife c3 hF
    refine q_iload_n C 2 dX12_cut_8 rfl rfl ?_
    refine q_i2l C dX12_cut_9 ?_
    refine q_lconst (v := 0) C dX12_cut_10 (by decide) ?_
    refine q_ldc2 C dX12_cut_11 tw_1373 ?_
    obtain ⟨q4, h5, hF⟩ := bnd hF
    try dsimp only at hF
    refine q_callSi C [.long a2.toInt64, .long ((0 : Int64)), .long ((3 : Int64))] (c_X12_in l D ad ca kz C.2.2.2.2.2.2.1 _ _ _ _ _ _ h5) tw_1255 gm_X12_in ⟨rfl, rfl⟩ ⟨Nat.le_of_ble_eq_true rfl, Nat.le_of_ble_eq_true rfl⟩ rfl (Nat.le_of_ble_eq_true rfl) dX12_cut_14 q00 ?_
    refine q_if_ne (tgt := 22) C dX12_cut_17 (by decide) (fun c6 => ?_) (fun c6 => ?_)
    · replace hF := ife c6 hF
      refine q_aload_n C 0 dX12_cut_22 rfl rfl ?_
      refine q_iload_n C 1 dX12_cut_23 rfl rfl ?_
      obtain ⟨q7, h8, hF⟩ := bnd hF
      try dsimp only at hF
      refine q_callVi C [.int a1] (c_X12_cutsOf l D ad ca kz C.2.2.2.2.2.2.1 _ _ _ _ h8) tw_1555 gm_X12_cutsOf pi_249.1 (pe_11 pi_249.2) rfl ⟨rfl, rfl⟩ ⟨Nat.le_of_ble_eq_true rfl, Nat.le_of_ble_eq_true rfl⟩ rfl (Nat.le_of_ble_eq_true rfl) dX12_cut_24 q00 ?_
      refine q_istore_n C [(3, .int q7.1), (0, .ref (ad (249))), (1, .int a1), (2, .int a2)] dX12_cut_27 rfl (by decide) rfl ?_
      refine q_iload_n C 3 dX12_cut_28 rfl rfl ?_
      refine q_if_eq (tgt := 36) C dX12_cut_29 (by decide) (fun c9 => ?_) (fun c9 => ?_)
      · replace hF := ift c9 hF
        refine q_iload_n C 0 dX12_cut_36 rfl rfl ?_
        refine q_goto (tgt := 58) C dX12_cut_37 (by decide) ?_
        exact q_iret C hr hlk dX12_cut_58 hF
      · replace hF := ife c9 hF
        refine q_iload_n C 0 dX12_cut_32 rfl rfl ?_
        refine q_if_ge (tgt := 40) C dX12_cut_33 (by decide) (fun c10 => ?_) (fun c10 => ?_)
        · replace hF := ift c10 hF
          refine q_iload_n C 3 dX12_cut_40 rfl rfl ?_
          refine q_iload_n C 0 dX12_cut_41 rfl rfl ?_
          refine q_icmp_gt (tgt := 56) C dX12_cut_42 (by decide) (fun c11 => ?_) (fun c11 => ?_)
          · replace hF := ift c11 hF
            refine q_bipush (v := -2) C dX12_cut_56 (by decide) ?_
            exact q_iret C hr hlk dX12_cut_58 hF
          · replace hF := ife c11 hF
            refine q_aload_n C 1 dX12_cut_45 rfl rfl ?_
            refine qg_11_28 C pi_249 tw_1081 dX12_cut_46 ?_
            refine q_iload_n C 3 dX12_cut_49 rfl rfl ?_
            refine q_iconst (v := 1) C dX12_cut_50 (by decide) ?_
            refine q_isub C dX12_cut_51 ?_
            obtain ⟨g12, hF⟩ := grd hF
            refine q_iald C pa_264 (vp_of g12) dX12_cut_52 ?_
            refine q_goto (tgt := 58) C dX12_cut_53 (by decide) ?_
            exact q_iret C hr hlk dX12_cut_58 hF
        · replace hF := ife c10 hF
          refine q_iload_n C 0 dX12_cut_36 rfl rfl ?_
          refine q_goto (tgt := 58) C dX12_cut_37 (by decide) ?_
          exact q_iret C hr hlk dX12_cut_58 hF
    · replace hF := ift c6 hF
      refine q_iconst (v := -1) C dX12_cut_20 (by decide) ?_
      exact q_iret C hr hlk dX12_cut_21 hF
-- X12_end
def F_X12_end (n : Nat) (a1 : Int32) (σ : PS) : Option (Int32 × PS) := (if a1 < 0 then some ((-1 : Int32), σ) else (if a1 ≤ (σ.1 249 1) then some (a1, psI σ 249 1 a1) else some ((-1 : Int32), σ)))
theorem gm_X12_end : gM "AskedCampModel" yX12_end (Cond.code yX12_end cX12_end 2 (Option.some Jvm.ClassFile.FieldType.int)) 1 := ⟨by decide +kernel, tw_1192, tw_1193, tw_12, tw_1194⟩
set_option maxHeartbeats 4000000 in
set_option maxRecDepth 100000 in
theorem c_X12_end (l : Launch) (D : va_G) (ad : Nat → Nat) (ca : Nat → ClassId) (kz : Nat → Nat) (hJ : pInj ad) (n : Nat) (a1 : Int32) (σ : PS) (out : Int32 × PS) (hF : F_X12_end n a1 σ = some out) : Met l yX12_end (Cond.code yX12_end cX12_end 2 (Option.some Jvm.ClassFile.FieldType.int) :: gw_tbl) { frames := 0, cells := 0, slots := 0, locals := 0 } (va_Pc [.ref (ad (249)), .int a1] (pU D ad ca kz σ)) (pQi D ad ca out) 0 0 (pAD ad) := by
  refine q_entry (own := "AskedCampModel") hJ (by decide) rfl (Nat.le_of_ble_eq_true rfl) (fun p e s m below meth c C hr hlk => ?_)
  refine q_lv [(0, .ref (ad (249))), (1, .int a1)] rfl ?_
  rw [F_X12_end] at hF
  refine q_iload_n C 1 dX12_end_0 rfl rfl ?_
  refine q_if_lt (tgt := 12) C dX12_end_1 (by decide) (fun c1 => ?_) (fun c1 => ?_)
  · replace hF := ift c1 hF
    refine q_iconst (v := -1) C dX12_end_12 (by decide) ?_
    exact q_iret C hr hlk dX12_end_13 hF
  · replace hF := ife c1 hF
    refine q_iload_n C 1 dX12_end_4 rfl rfl ?_
    refine q_aload_n C 0 dX12_end_5 rfl rfl ?_
    refine qg_11_1 C pi_249 tw_1054 dX12_end_6 ?_
    refine q_icmp_le (tgt := 14) C dX12_end_9 (by decide) (fun c2 => ?_) (fun c2 => ?_)
    · replace hF := ift c2 hF
      refine q_aload_n C 0 dX12_end_14 rfl rfl ?_
      refine q_iload_n C 1 dX12_end_15 rfl rfl ?_
      refine qs_11_1 C pi_249 tw_1054 dX12_end_16 ?_
      refine q_iload_n C 1 dX12_end_19 rfl rfl ?_
      exact q_iret C hr hlk dX12_end_20 hF
    · replace hF := ife c2 hF
      refine q_iconst (v := -1) C dX12_end_12 (by decide) ?_
      exact q_iret C hr hlk dX12_end_13 hF
-- X12_four
def L_X12_four_3 (n : Nat) : Nat → Int32 → Int32 → PS → Option (PS)
  | 0, _, _, _ => none
  | k + 1, x1, x2, σ => (if x2 < 0 then some σ else (if 0 ≤ (σ.1 249 1) ∧ (σ.1 249 1).toNatClampNeg < 400 then L_X12_four_3 n k x1 (x2 + (-8)) (psI (psI σ 250 ((σ.1 249 1).toNatClampNeg) (vp_nar .byte ((x1 >>> (x2 &&& 31)).toInt8.toInt32))) 249 1 (((psI σ 250 ((σ.1 249 1).toNatClampNeg) (vp_nar .byte ((x1 >>> (x2 &&& 31)).toInt8.toInt32))).1 249 1) + (1 : Int32))) else none))
def F_X12_four (n : Nat) (a1 : Int32) (σ : PS) : Option (PS) := (L_X12_four_3 n n a1 (24 : Int32) σ).bind (fun o3 => some o3)
theorem gm_X12_four : gM "AskedCampModel" yX12_four (Cond.code yX12_four cX12_four 3 (Option.none : Option Jvm.ClassFile.FieldType)) 1 := ⟨by decide +kernel, tw_1189, tw_p25, tw_12, tw_1190⟩
set_option maxHeartbeats 4000000 in
set_option maxRecDepth 100000 in
theorem l_X12_four_3 {p : Program} {l : Launch} {e : Env} {R : Room} {s : State} {m : MethodId} {args : Array Value} {below : List Frame} {meth : Method} {c : Code} {D : va_G} {ad : Nat → Nat} {ca : Nat → ClassId} {kz : Nat → Nat} {Q : State → Prop} (C : pC p s m args c cX12_four "AskedCampModel" 3 D ad ca kz) (hR : 0 ≤ R.frames ∧ 0 ≤ R.locals) {n : Nat} (o : PS) (hx0 : PW p l e R s m args below meth c 3 D ad ca 0 0 Q (o) 36 [] []) : ∀ (k : Nat) (x1 : Int32) (x2 : Int32) (σ : PS), L_X12_four_3 n k x1 x2 σ = some o → PW p l e R s m args below meth c 3 D ad ca 0 0 Q σ 3 [(0, .ref (ad (249))), (1, .int x1), (2, .int x2)] [] := by
  intro k
  induction k with
  | zero => intro x1 x2 σ hF; exact nomatch (show (none : Option (PS)) = some o from hF)
  | succ k ih =>
    intro x1 x2 σ hF
    rw [L_X12_four_3] at hF
    refine q_iload_n C 2 dX12_four_3 rfl rfl ?_
    refine q_if_lt (tgt := 36) C dX12_four_4 (by decide) (fun c1 => ?_) (fun c1 => ?_)
    · replace hF := ift c1 hF
      cases hF
      refine q_sub [] rfl ?_
      exact hx0
    · replace hF := ife c1 hF
      refine q_aload_n C 0 dX12_four_7 rfl rfl ?_
      refine qg_11_0 C pi_249 tw_1053 dX12_four_8 ?_
      refine q_aload_n C 0 dX12_four_11 rfl rfl ?_
      refine qg_11_1 C pi_249 tw_1054 dX12_four_12 ?_
      refine q_iload_n C 1 dX12_four_15 rfl rfl ?_
      refine q_iload_n C 2 dX12_four_16 rfl rfl ?_
      refine q_ishr C dX12_four_17 ?_
      refine q_i2b C dX12_four_18 ?_
      obtain ⟨g2, hF⟩ := grd hF
      refine q_bast C pa_250 (vp_of g2) dX12_four_19 ?_
      refine q_aload_n C 0 dX12_four_20 rfl rfl ?_
      refine q_dup C dX12_four_21 rfl ?_
      refine qg_11_1 C pi_249 tw_1054 dX12_four_22 ?_
      refine q_iconst (v := 1) C dX12_four_25 (by decide) ?_
      refine q_iadd C dX12_four_26 ?_
      refine qs_11_1 C pi_249 tw_1054 dX12_four_27 ?_
      refine q_iinc C 2 [(2, .int (x2 + (-8))), (0, .ref (ad (249))), (1, .int x1)] dX12_four_30 rfl rfl (by decide) rfl ?_
      refine q_goto (tgt := 3) C dX12_four_33 (by decide) ?_
      refine q_sub [1, 2, 0] rfl ?_
      exact ih _ _ _ hF
set_option maxHeartbeats 4000000 in
set_option maxRecDepth 100000 in
theorem c_X12_four (l : Launch) (D : va_G) (ad : Nat → Nat) (ca : Nat → ClassId) (kz : Nat → Nat) (hJ : pInj ad) (n : Nat) (a1 : Int32) (σ : PS) (out : PS) (hF : F_X12_four n a1 σ = some out) : Met l yX12_four (Cond.code yX12_four cX12_four 3 (Option.none : Option Jvm.ClassFile.FieldType) :: gw_tbl) { frames := 0, cells := 0, slots := 0, locals := 0 } (va_Pc [.ref (ad (249)), .int a1] (pU D ad ca kz σ)) (pQv D ad ca out) 0 0 (pAD ad) := by
  refine q_entry (own := "AskedCampModel") hJ (by decide) rfl (Nat.le_of_ble_eq_true rfl) (fun p e s m below meth c C hr hlk => ?_)
  refine q_lv [(0, .ref (ad (249))), (1, .int a1)] rfl ?_
  rw [F_X12_four] at hF
  refine q_bipush (v := 24) C dX12_four_0 (by decide) ?_
  refine q_istore_n C [(2, .int 24), (0, .ref (ad (249))), (1, .int a1)] dX12_four_2 rfl (by decide) rfl ?_
  obtain ⟨o3, h4, hF⟩ := bnd hF
  try dsimp only at hF
  refine q_sub [1, 2, 0] rfl ?_
  refine l_X12_four_3 C ⟨Nat.le_of_ble_eq_true rfl, Nat.le_of_ble_eq_true rfl⟩ o3 ?_ n _ _ _ h4
  exact q_vret C hr hlk dX12_four_36 hF
-- X12_feed
def F_X12_feed (n : Nat) (a1 : Int32) (a2 : Int32) (a3 : Int32) (a4 : Int32) (a5 : Int32) (σ : PS) : Option (Int32 × PS) := (if ((σ.1 249 1) + (20 : Int32)) ≤ (400 : Int32) then (F_X12_four n a1 σ).bind (fun q2 => (F_X12_four n a2 q2).bind (fun q4 => (F_X12_four n a3 q4).bind (fun q6 => (F_X12_four n a4 q6).bind (fun q8 => (F_X12_four n a5 q8).bind (fun q10 => some ((q10.1 249 1), q10)))))) else some ((-1 : Int32), σ))
theorem gm_X12_feed : gM "AskedCampModel" yX12_feed (Cond.code yX12_feed cX12_feed 6 (Option.some Jvm.ClassFile.FieldType.int)) 5 := ⟨by decide +kernel, tw_1184, tw_1185, tw_12, tw_1186⟩
set_option maxHeartbeats 4000000 in
set_option maxRecDepth 100000 in
theorem c_X12_feed (l : Launch) (D : va_G) (ad : Nat → Nat) (ca : Nat → ClassId) (kz : Nat → Nat) (hJ : pInj ad) (n : Nat) (a1 : Int32) (a2 : Int32) (a3 : Int32) (a4 : Int32) (a5 : Int32) (σ : PS) (out : Int32 × PS) (hF : F_X12_feed n a1 a2 a3 a4 a5 σ = some out) : Met l yX12_feed (Cond.code yX12_feed cX12_feed 6 (Option.some Jvm.ClassFile.FieldType.int) :: gw_tbl) { frames := 1, cells := 0, slots := 0, locals := 22 } (va_Pc [.ref (ad (249)), .int a1, .int a2, .int a3, .int a4, .int a5] (pU D ad ca kz σ)) (pQi D ad ca out) 0 0 (pAD ad) := by
  refine q_entry (own := "AskedCampModel") hJ (by decide) rfl (Nat.le_of_ble_eq_true rfl) (fun p e s m below meth c C hr hlk => ?_)
  refine q_lv [(0, .ref (ad (249))), (1, .int a1), (2, .int a2), (3, .int a3), (4, .int a4), (5, .int a5)] rfl ?_
  rw [F_X12_feed] at hF
  refine q_aload_n C 0 dX12_feed_0 rfl rfl ?_
  refine qg_11_1 C pi_249 tw_1054 dX12_feed_1 ?_
  refine q_bipush (v := 20) C dX12_feed_4 (by decide) ?_
  refine q_iadd C dX12_feed_6 ?_
  refine q_sipush (v := 400) C dX12_feed_7 (by decide) ?_
  refine q_icmp_le (tgt := 15) C dX12_feed_10 (by decide) (fun c1 => ?_) (fun c1 => ?_)
  · replace hF := ift c1 hF
    refine q_aload_n C 0 dX12_feed_15 rfl rfl ?_
    refine q_iload_n C 1 dX12_feed_16 rfl rfl ?_
    obtain ⟨q2, h3, hF⟩ := bnd hF
    try dsimp only at hF
    refine q_callVv C [.int a1] (c_X12_four l D ad ca kz C.2.2.2.2.2.2.1 _ _ _ _ h3) tw_1187 gm_X12_four pi_249.1 (pe_11 pi_249.2) rfl ⟨rfl, rfl⟩ ⟨Nat.le_of_ble_eq_true rfl, Nat.le_of_ble_eq_true rfl⟩ rfl (Nat.le_of_ble_eq_true rfl) dX12_feed_17 q00 ?_
    refine q_aload_n C 0 dX12_feed_20 rfl rfl ?_
    refine q_iload_n C 2 dX12_feed_21 rfl rfl ?_
    obtain ⟨q4, h5, hF⟩ := bnd hF
    try dsimp only at hF
    refine q_callVv C [.int a2] (c_X12_four l D ad ca kz C.2.2.2.2.2.2.1 _ _ _ _ h5) tw_1187 gm_X12_four pi_249.1 (pe_11 pi_249.2) rfl ⟨rfl, rfl⟩ ⟨Nat.le_of_ble_eq_true rfl, Nat.le_of_ble_eq_true rfl⟩ rfl (Nat.le_of_ble_eq_true rfl) dX12_feed_22 q00 ?_
    refine q_aload_n C 0 dX12_feed_25 rfl rfl ?_
    refine q_iload_n C 3 dX12_feed_26 rfl rfl ?_
    obtain ⟨q6, h7, hF⟩ := bnd hF
    try dsimp only at hF
    refine q_callVv C [.int a3] (c_X12_four l D ad ca kz C.2.2.2.2.2.2.1 _ _ _ _ h7) tw_1187 gm_X12_four pi_249.1 (pe_11 pi_249.2) rfl ⟨rfl, rfl⟩ ⟨Nat.le_of_ble_eq_true rfl, Nat.le_of_ble_eq_true rfl⟩ rfl (Nat.le_of_ble_eq_true rfl) dX12_feed_27 q00 ?_
    refine q_aload_n C 0 dX12_feed_30 rfl rfl ?_
    refine q_iload C 4 dX12_feed_31 rfl ?_
    obtain ⟨q8, h9, hF⟩ := bnd hF
    try dsimp only at hF
    refine q_callVv C [.int a4] (c_X12_four l D ad ca kz C.2.2.2.2.2.2.1 _ _ _ _ h9) tw_1187 gm_X12_four pi_249.1 (pe_11 pi_249.2) rfl ⟨rfl, rfl⟩ ⟨Nat.le_of_ble_eq_true rfl, Nat.le_of_ble_eq_true rfl⟩ rfl (Nat.le_of_ble_eq_true rfl) dX12_feed_33 q00 ?_
    refine q_aload_n C 0 dX12_feed_36 rfl rfl ?_
    refine q_iload C 5 dX12_feed_37 rfl ?_
    obtain ⟨q10, h11, hF⟩ := bnd hF
    try dsimp only at hF
    refine q_callVv C [.int a5] (c_X12_four l D ad ca kz C.2.2.2.2.2.2.1 _ _ _ _ h11) tw_1187 gm_X12_four pi_249.1 (pe_11 pi_249.2) rfl ⟨rfl, rfl⟩ ⟨Nat.le_of_ble_eq_true rfl, Nat.le_of_ble_eq_true rfl⟩ rfl (Nat.le_of_ble_eq_true rfl) dX12_feed_39 q00 ?_
    refine q_aload_n C 0 dX12_feed_42 rfl rfl ?_
    refine qg_11_1 C pi_249 tw_1054 dX12_feed_43 ?_
    exact q_iret C hr hlk dX12_feed_46 hF
  · replace hF := ife c1 hF
    refine q_iconst (v := -1) C dX12_feed_13 (by decide) ?_
    exact q_iret C hr hlk dX12_feed_14 hF
-- X12_fillsFits
def L_X12_fillsFits_32 (n : Nat) : Nat → Int32 → Int32 → Int32 → PS → Option (Int32 × Int32 × PS)
  | 0, _, _, _, _ => none
  | k + 1, x1, x2, x3, σ => (if (60 : Int32) < x3 then some (x1, x2, σ) else (F_X12_spot n x2 x3 σ).bind (fun q7 => (if 0 ≤ q7.1 ∧ q7.1.toNatClampNeg < 427 then (F_X12_passes n (psI q7.2 272 q7.1.toNatClampNeg (q7.2.1 259 11))).bind (fun q10 => L_X12_fillsFits_32 n k x1 x2 (x3 + 1) q10.2) else none)))
def L_X12_fillsFits_11 (n : Nat) : Nat → Int32 → Int32 → PS → Option (Int32 × PS)
  | 0, _, _, _ => none
  | k + 1, x1, x2, σ => (if (σ.1 249 2) < x2 then some (x1, σ) else (F_X12_begins n (psI σ 249 21 (x2 - (1 : Int32)))).bind (fun q4 => (L_X12_fillsFits_32 n n x1 x2 (0 : Int32) q4).bind (fun o6 => (F_X12_areNotesSo n o6.2.1 o6.2.2).bind (fun q8 => (if 0 ≤ o6.2.1 ∧ o6.2.1.toNatClampNeg < 7 then L_X12_fillsFits_11 n k o6.1 (o6.2.1 + 1) (psI q8.2 271 o6.2.1.toNatClampNeg (vp_nar .boolean q8.1)) else none)))))
def F_X12_fillsFits (n : Nat) (σ : PS) : Option (PS) := (F_X12_keeps n σ).bind (fun q1 => (L_X12_fillsFits_11 n n (σ.1 249 21) (0 : Int32) q1).bind (fun o11 => (F_X12_laysBack n (psI o11.2 249 21 o11.1)).bind (fun q13 => some q13)))
theorem gm_X12_fillsFits : gM "AskedCampModel" yX12_fillsFits (Cond.code yX12_fillsFits cX12_fillsFits 4 (Option.none : Option Jvm.ClassFile.FieldType)) 0 := ⟨by decide +kernel, tw_1629, tw_p98, tw_12, tw_1630⟩
set_option maxHeartbeats 4000000 in
set_option maxRecDepth 100000 in
theorem l_X12_fillsFits_32 {p : Program} {l : Launch} {e : Env} {R : Room} {s : State} {m : MethodId} {args : Array Value} {below : List Frame} {meth : Method} {c : Code} {D : va_G} {ad : Nat → Nat} {ca : Nat → ClassId} {kz : Nat → Nat} {Q : State → Prop} (C : pC p s m args c cX12_fillsFits "AskedCampModel" 4 D ad ca kz) (hR : 7 ≤ R.frames ∧ 166 ≤ R.locals) {n : Nat} (o : Int32 × Int32 × PS) (hx0 : PW p l e R s m args below meth c 4 D ad ca 0 0 Q (o.2.2) 66 [(0, .ref (ad (249))), (1, .int o.1), (2, .int o.2.1)] []) : ∀ (k : Nat) (x1 : Int32) (x2 : Int32) (x3 : Int32) (σ : PS), L_X12_fillsFits_32 n k x1 x2 x3 σ = some o → PW p l e R s m args below meth c 4 D ad ca 0 0 Q σ 32 [(0, .ref (ad (249))), (1, .int x1), (2, .int x2), (3, .int x3)] [] := by
  intro k
  induction k with
  | zero => intro x1 x2 x3 σ hF; exact nomatch (show (none : Option (Int32 × Int32 × PS)) = some o from hF)
  | succ k ih =>
    intro x1 x2 x3 σ hF
    rw [L_X12_fillsFits_32] at hF
    refine q_iload_n C 3 dX12_fillsFits_32 rfl rfl ?_
    refine q_bipush (v := 60) C dX12_fillsFits_33 (by decide) ?_
    refine q_icmp_gt (tgt := 66) C dX12_fillsFits_35 (by decide) (fun c6 => ?_) (fun c6 => ?_)
    · replace hF := ift c6 hF
      cases hF
      refine q_sub [0, 1, 2] rfl ?_
      exact hx0
    · replace hF := ife c6 hF
      refine q_aload_n C 0 dX12_fillsFits_38 rfl rfl ?_
      refine qg_11_37 C pi_249 tw_1090 dX12_fillsFits_39 ?_
      refine q_iload_n C 2 dX12_fillsFits_42 rfl rfl ?_
      refine q_iload_n C 3 dX12_fillsFits_43 rfl rfl ?_
      obtain ⟨q7, h8, hF⟩ := bnd hF
      try dsimp only at hF
      refine q_callSi C [.int x2, .int x3] (c_X12_spot l D ad ca kz C.2.2.2.2.2.2.1 _ _ _ _ _ h8) tw_1631 gm_X12_spot ⟨rfl, rfl⟩ ⟨Nat.le_trans (Nat.le_of_ble_eq_true rfl) hR.1, Nat.le_trans (Nat.le_of_ble_eq_true rfl) hR.2⟩ rfl (Nat.le_of_ble_eq_true rfl) dX12_fillsFits_44 q00 ?_
      refine q_aload_n C 0 dX12_fillsFits_47 rfl rfl ?_
      refine qg_11_20 C pi_249 tw_1073 dX12_fillsFits_48 ?_
      refine q_bipush (v := 11) C dX12_fillsFits_51 (by decide) ?_
      refine q_ialdk (jn := 11) C pa_259 (vp_of (by decide)) rfl dX12_fillsFits_53 ?_
      obtain ⟨g9, hF⟩ := grd hF
      refine q_iast C pa_272 (vp_of g9) dX12_fillsFits_54 ?_
      refine q_aload_n C 0 dX12_fillsFits_55 rfl rfl ?_
      obtain ⟨q10, h11, hF⟩ := bnd hF
      try dsimp only at hF
      refine q_callVi C [] (c_X12_passes l D ad ca kz C.2.2.2.2.2.2.1 _ _ _ h11) tw_1411 gm_X12_passes pi_249.1 (pe_11 pi_249.2) rfl ⟨rfl, rfl⟩ ⟨Nat.le_trans (Nat.le_of_ble_eq_true rfl) hR.1, Nat.le_trans (Nat.le_of_ble_eq_true rfl) hR.2⟩ rfl (Nat.le_of_ble_eq_true rfl) dX12_fillsFits_56 q00 ?_
      refine q_pop C dX12_fillsFits_59 rfl ?_
      refine q_iinc C 3 [(3, .int (x3 + 1)), (0, .ref (ad (249))), (1, .int x1), (2, .int x2)] dX12_fillsFits_60 rfl rfl (by decide) rfl ?_
      refine q_goto (tgt := 32) C dX12_fillsFits_63 (by decide) ?_
      refine q_sub [1, 2, 3, 0] rfl ?_
      exact ih _ _ _ _ hF
set_option maxHeartbeats 4000000 in
set_option maxRecDepth 100000 in
theorem l_X12_fillsFits_11 {p : Program} {l : Launch} {e : Env} {R : Room} {s : State} {m : MethodId} {args : Array Value} {below : List Frame} {meth : Method} {c : Code} {D : va_G} {ad : Nat → Nat} {ca : Nat → ClassId} {kz : Nat → Nat} {Q : State → Prop} (C : pC p s m args c cX12_fillsFits "AskedCampModel" 4 D ad ca kz) (hR : 7 ≤ R.frames ∧ 166 ≤ R.locals) {n : Nat} (o : Int32 × PS) (hx0 : PW p l e R s m args below meth c 4 D ad ca 0 0 Q (o.2) 83 [(0, .ref (ad (249))), (1, .int o.1)] []) : ∀ (k : Nat) (x1 : Int32) (x2 : Int32) (σ : PS), L_X12_fillsFits_11 n k x1 x2 σ = some o → PW p l e R s m args below meth c 4 D ad ca 0 0 Q σ 11 [(0, .ref (ad (249))), (1, .int x1), (2, .int x2)] [] := by
  intro k
  induction k with
  | zero => intro x1 x2 σ hF; exact nomatch (show (none : Option (Int32 × PS)) = some o from hF)
  | succ k ih =>
    intro x1 x2 σ hF
    rw [L_X12_fillsFits_11] at hF
    refine q_iload_n C 2 dX12_fillsFits_11 rfl rfl ?_
    refine q_aload_n C 0 dX12_fillsFits_12 rfl rfl ?_
    refine qg_11_2 C pi_249 tw_1055 dX12_fillsFits_13 ?_
    refine q_icmp_gt (tgt := 83) C dX12_fillsFits_16 (by decide) (fun c3 => ?_) (fun c3 => ?_)
    · replace hF := ift c3 hF
      cases hF
      refine q_sub [0, 1] rfl ?_
      exact hx0
    · replace hF := ife c3 hF
      refine q_aload_n C 0 dX12_fillsFits_19 rfl rfl ?_
      refine q_iload_n C 2 dX12_fillsFits_20 rfl rfl ?_
      refine q_iconst (v := 1) C dX12_fillsFits_21 (by decide) ?_
      refine q_isub C dX12_fillsFits_22 ?_
      refine qs_11_21 C pi_249 tw_1074 dX12_fillsFits_23 ?_
      refine q_aload_n C 0 dX12_fillsFits_26 rfl rfl ?_
      obtain ⟨q4, h5, hF⟩ := bnd hF
      try dsimp only at hF
      refine q_callVv C [] (c_X12_begins l D ad ca kz C.2.2.2.2.2.2.1 _ _ _ h5) tw_1353 gm_X12_begins pi_249.1 (pe_11 pi_249.2) rfl ⟨rfl, rfl⟩ ⟨Nat.le_trans (Nat.le_of_ble_eq_true rfl) hR.1, Nat.le_trans (Nat.le_of_ble_eq_true rfl) hR.2⟩ rfl (Nat.le_of_ble_eq_true rfl) dX12_fillsFits_27 q00 ?_
      refine q_iconst (v := 0) C dX12_fillsFits_30 (by decide) ?_
      refine q_istore_n C [(3, .int 0), (0, .ref (ad (249))), (1, .int x1), (2, .int x2)] dX12_fillsFits_31 rfl (by decide) rfl ?_
      obtain ⟨o6, h7, hF⟩ := bnd hF
      try dsimp only at hF
      refine q_sub [1, 2, 3, 0] rfl ?_
      refine l_X12_fillsFits_32 C ⟨hR.1, hR.2⟩ o6 ?_ n _ _ _ _ h7
      refine q_aload_n C 0 dX12_fillsFits_66 rfl rfl ?_
      refine qg_11_36 C pi_249 tw_1089 dX12_fillsFits_67 ?_
      refine q_iload_n C 2 dX12_fillsFits_70 rfl rfl ?_
      refine q_aload_n C 0 dX12_fillsFits_71 rfl rfl ?_
      refine q_iload_n C 2 dX12_fillsFits_72 rfl rfl ?_
      obtain ⟨q8, h9, hF⟩ := bnd hF
      try dsimp only at hF
      refine q_callVi C [.int o6.2.1] (c_X12_areNotesSo l D ad ca kz C.2.2.2.2.2.2.1 _ _ _ _ h9) tw_1634 gm_X12_areNotesSo pi_249.1 (pe_11 pi_249.2) rfl ⟨rfl, rfl⟩ ⟨Nat.le_trans (Nat.le_of_ble_eq_true rfl) hR.1, Nat.le_trans (Nat.le_of_ble_eq_true rfl) hR.2⟩ rfl (Nat.le_of_ble_eq_true rfl) dX12_fillsFits_73 q00 ?_
      obtain ⟨g10, hF⟩ := grd hF
      refine q_zast C pa_271 (vp_of g10) dX12_fillsFits_76 ?_
      refine q_iinc C 2 [(2, .int (o6.2.1 + 1)), (0, .ref (ad (249))), (1, .int o6.1)] dX12_fillsFits_77 rfl rfl (by decide) rfl ?_
      refine q_goto (tgt := 11) C dX12_fillsFits_80 (by decide) ?_
      refine q_sub [1, 2, 0] rfl ?_
      exact ih _ _ _ hF
set_option maxHeartbeats 4000000 in
set_option maxRecDepth 100000 in
theorem c_X12_fillsFits (l : Launch) (D : va_G) (ad : Nat → Nat) (ca : Nat → ClassId) (kz : Nat → Nat) (hJ : pInj ad) (n : Nat) (σ : PS) (out : PS) (hF : F_X12_fillsFits n σ = some out) : Met l yX12_fillsFits (Cond.code yX12_fillsFits cX12_fillsFits 4 (Option.none : Option Jvm.ClassFile.FieldType) :: gw_tbl) { frames := 7, cells := 0, slots := 0, locals := 166 } (va_Pc [.ref (ad (249))] (pU D ad ca kz σ)) (pQv D ad ca out) 0 0 (pAD ad) := by
  refine q_entry (own := "AskedCampModel") hJ (by decide) rfl (Nat.le_of_ble_eq_true rfl) (fun p e s m below meth c C hr hlk => ?_)
  refine q_lv [(0, .ref (ad (249)))] rfl ?_
  rw [F_X12_fillsFits] at hF
  refine q_aload_n C 0 dX12_fillsFits_0 rfl rfl ?_
  refine qg_11_21 C pi_249 tw_1074 dX12_fillsFits_1 ?_
  refine q_istore_n C [(1, .int (σ.1 249 21)), (0, .ref (ad (249)))] dX12_fillsFits_4 rfl (by decide) rfl ?_
  refine q_aload_n C 1 dX12_fillsFits_5 rfl rfl ?_
  obtain ⟨q1, h2, hF⟩ := bnd hF
  try dsimp only at hF
  refine q_callVv C [] (c_X12_keeps l D ad ca kz C.2.2.2.2.2.2.1 _ _ _ h2) tw_1514 gm_X12_keeps pi_249.1 (pe_11 pi_249.2) rfl ⟨rfl, rfl⟩ ⟨Nat.le_of_ble_eq_true rfl, Nat.le_of_ble_eq_true rfl⟩ rfl (Nat.le_of_ble_eq_true rfl) dX12_fillsFits_6 q00 ?_
  refine q_iconst (v := 0) C dX12_fillsFits_9 (by decide) ?_
  refine q_istore_n C [(2, .int 0), (1, .int (σ.1 249 21)), (0, .ref (ad (249)))] dX12_fillsFits_10 rfl (by decide) rfl ?_
  obtain ⟨o11, h12, hF⟩ := bnd hF
  try dsimp only at hF
  refine q_sub [2, 1, 0] rfl ?_
  refine l_X12_fillsFits_11 C ⟨Nat.le_of_ble_eq_true rfl, Nat.le_of_ble_eq_true rfl⟩ o11 ?_ n _ _ _ h12
  refine q_aload_n C 0 dX12_fillsFits_83 rfl rfl ?_
  refine q_iload_n C 1 dX12_fillsFits_84 rfl rfl ?_
  refine qs_11_21 C pi_249 tw_1074 dX12_fillsFits_85 ?_
  refine q_aload_n C 0 dX12_fillsFits_88 rfl rfl ?_
  obtain ⟨q13, h14, hF⟩ := bnd hF
  try dsimp only at hF
  refine q_callVv C [] (c_X12_laysBack l D ad ca kz C.2.2.2.2.2.2.1 _ _ _ h14) tw_1526 gm_X12_laysBack pi_249.1 (pe_11 pi_249.2) rfl ⟨rfl, rfl⟩ ⟨Nat.le_of_ble_eq_true rfl, Nat.le_of_ble_eq_true rfl⟩ rfl (Nat.le_of_ble_eq_true rfl) dX12_fillsFits_89 q00 ?_
  exact q_vret C hr hlk dX12_fillsFits_92 hF
-- X12_first
def L_X12_first_19 (n : Nat) : Nat → Int32 → Int32 → Int32 → PS → Option (Int32 × PS)
  | 0, _, _, _, _ => none
  | k + 1, x1, x2, x3, σ => (if (200 : Int32) ≤ x3 then some (x2, σ) else (if 0 ≤ x2 then some (x2, σ) else (F_X12_passes n σ).bind (fun q8 => (F_X12_isOf n q8.1 x1 q8.2).bind (fun q10 => (if q10.1 = 0 then L_X12_first_19 n k x1 x2 (x3 + 1) q10.2 else L_X12_first_19 n k x1 ((q10.2.1 259 10) - (1 : Int32)) (x3 + 1) q10.2)))))
def F_X12_first (n : Nat) (a1 : Int32) (σ : PS) : Option (Int32 × PS) := (F_X12_isTent n a1 σ).bind (fun q1 => (if q1.1 = 0 then some ((-1 : Int32), q1.2) else (F_X12_keeps n q1.2).bind (fun q4 => (L_X12_first_19 n n a1 (-2 : Int32) (0 : Int32) q4).bind (fun o13 => (F_X12_laysBack n o13.2).bind (fun q15 => some (o13.1, q15))))))
theorem gm_X12_first : gM "AskedCampModel" yX12_first (Cond.code yX12_first cX12_first 4 (Option.some Jvm.ClassFile.FieldType.int)) 1 := ⟨by decide +kernel, tw_1531, tw_1532, tw_12, tw_1533⟩
set_option maxHeartbeats 4000000 in
set_option maxRecDepth 100000 in
theorem l_X12_first_19 {p : Program} {l : Launch} {e : Env} {R : Room} {s : State} {m : MethodId} {args : Array Value} {below : List Frame} {meth : Method} {c : Code} {D : va_G} {ad : Nat → Nat} {ca : Nat → ClassId} {kz : Nat → Nat} {Q : State → Prop} (C : pC p s m args c cX12_first "AskedCampModel" 4 D ad ca kz) (hR : 7 ≤ R.frames ∧ 166 ≤ R.locals) {n : Nat} (o : Int32 × PS) (hx0 : PW p l e R s m args below meth c 4 D ad ca 0 0 Q (o.2) 57 [(0, .ref (ad (249))), (2, .int o.1)] []) : ∀ (k : Nat) (x1 : Int32) (x2 : Int32) (x3 : Int32) (σ : PS), L_X12_first_19 n k x1 x2 x3 σ = some o → PW p l e R s m args below meth c 4 D ad ca 0 0 Q σ 19 [(0, .ref (ad (249))), (1, .int x1), (2, .int x2), (3, .int x3)] [] := by
  intro k
  induction k with
  | zero => intro x1 x2 x3 σ hF; exact nomatch (show (none : Option (Int32 × PS)) = some o from hF)
  | succ k ih =>
    intro x1 x2 x3 σ hF
    rw [L_X12_first_19] at hF
    refine q_iload_n C 3 dX12_first_19 rfl rfl ?_
    refine q_sipush (v := 200) C dX12_first_20 (by decide) ?_
    refine q_icmp_ge (tgt := 57) C dX12_first_23 (by decide) (fun c6 => ?_) (fun c6 => ?_)
    · replace hF := ift c6 hF
      cases hF
      refine q_sub [0, 2] rfl ?_
      exact hx0
    · replace hF := ife c6 hF
      refine q_iload_n C 2 dX12_first_26 rfl rfl ?_
      refine q_if_ge (tgt := 57) C dX12_first_27 (by decide) (fun c7 => ?_) (fun c7 => ?_)
      · replace hF := ift c7 hF
        cases hF
        refine q_sub [0, 2] rfl ?_
        exact hx0
      · replace hF := ife c7 hF
        refine q_aload_n C 0 dX12_first_30 rfl rfl ?_
        obtain ⟨q8, h9, hF⟩ := bnd hF
        try dsimp only at hF
        refine q_callVi C [] (c_X12_passes l D ad ca kz C.2.2.2.2.2.2.1 _ _ _ h9) tw_1411 gm_X12_passes pi_249.1 (pe_11 pi_249.2) rfl ⟨rfl, rfl⟩ ⟨Nat.le_trans (Nat.le_of_ble_eq_true rfl) hR.1, Nat.le_trans (Nat.le_of_ble_eq_true rfl) hR.2⟩ rfl (Nat.le_of_ble_eq_true rfl) dX12_first_31 q00 ?_
        refine q_iload_n C 1 dX12_first_34 rfl rfl ?_
        obtain ⟨q10, h11, hF⟩ := bnd hF
        try dsimp only at hF
        refine q_callSi C [.int q8.1, .int x1] (c_X12_isOf l D ad ca kz C.2.2.2.2.2.2.1 _ _ _ _ _ h11) tw_1477 gm_X12_isOf ⟨rfl, rfl⟩ ⟨Nat.le_trans (Nat.le_of_ble_eq_true rfl) hR.1, Nat.le_trans (Nat.le_of_ble_eq_true rfl) hR.2⟩ rfl (Nat.le_of_ble_eq_true rfl) dX12_first_35 q00 ?_
        refine q_if_eq (tgt := 51) C dX12_first_38 (by decide) (fun c12 => ?_) (fun c12 => ?_)
        · replace hF := ift c12 hF
          refine q_iinc C 3 [(3, .int (x3 + 1)), (0, .ref (ad (249))), (1, .int x1), (2, .int x2)] dX12_first_51 rfl rfl (by decide) rfl ?_
          refine q_goto (tgt := 19) C dX12_first_54 (by decide) ?_
          refine q_sub [1, 2, 3, 0] rfl ?_
          exact ih _ _ _ _ hF
        · replace hF := ife c12 hF
          refine q_aload_n C 0 dX12_first_41 rfl rfl ?_
          refine qg_11_20 C pi_249 tw_1073 dX12_first_42 ?_
          refine q_bipush (v := 10) C dX12_first_45 (by decide) ?_
          refine q_ialdk (jn := 10) C pa_259 (vp_of (by decide)) rfl dX12_first_47 ?_
          refine q_iconst (v := 1) C dX12_first_48 (by decide) ?_
          refine q_isub C dX12_first_49 ?_
          refine q_istore_n C [(2, .int ((q10.2.1 259 10) - (1 : Int32))), (0, .ref (ad (249))), (1, .int x1), (3, .int x3)] dX12_first_50 rfl (by decide) rfl ?_
          refine q_iinc C 3 [(3, .int (x3 + 1)), (2, .int ((q10.2.1 259 10) - (1 : Int32))), (0, .ref (ad (249))), (1, .int x1)] dX12_first_51 rfl rfl (by decide) rfl ?_
          refine q_goto (tgt := 19) C dX12_first_54 (by decide) ?_
          refine q_sub [2, 3, 1, 0] rfl ?_
          exact ih _ _ _ _ hF
set_option maxHeartbeats 4000000 in
set_option maxRecDepth 100000 in
theorem c_X12_first (l : Launch) (D : va_G) (ad : Nat → Nat) (ca : Nat → ClassId) (kz : Nat → Nat) (hJ : pInj ad) (n : Nat) (a1 : Int32) (σ : PS) (out : Int32 × PS) (hF : F_X12_first n a1 σ = some out) : Met l yX12_first (Cond.code yX12_first cX12_first 4 (Option.some Jvm.ClassFile.FieldType.int) :: gw_tbl) { frames := 7, cells := 0, slots := 0, locals := 166 } (va_Pc [.ref (ad (249)), .int a1] (pU D ad ca kz σ)) (pQi D ad ca out) 0 0 (pAD ad) := by
  refine q_entry (own := "AskedCampModel") hJ (by decide) rfl (Nat.le_of_ble_eq_true rfl) (fun p e s m below meth c C hr hlk => ?_)
  refine q_lv [(0, .ref (ad (249))), (1, .int a1)] rfl ?_
  rw [F_X12_first] at hF
  refine q_aload_n C 0 dX12_first_0 rfl rfl ?_
  refine q_iload_n C 1 dX12_first_1 rfl rfl ?_
  obtain ⟨q1, h2, hF⟩ := bnd hF
  try dsimp only at hF
  refine q_callVi C [.int a1] (c_X12_isTent l D ad ca kz C.2.2.2.2.2.2.1 _ _ _ _ h2) tw_1369 gm_X12_isTent pi_249.1 (pe_11 pi_249.2) rfl ⟨rfl, rfl⟩ ⟨Nat.le_of_ble_eq_true rfl, Nat.le_of_ble_eq_true rfl⟩ rfl (Nat.le_of_ble_eq_true rfl) dX12_first_2 q00 ?_
  refine q_if_ne (tgt := 10) C dX12_first_5 (by decide) (fun c3 => ?_) (fun c3 => ?_)
  · replace hF := ife c3 hF
    refine q_bipush (v := -2) C dX12_first_10 (by decide) ?_
    refine q_istore_n C [(2, .int (-2)), (0, .ref (ad (249))), (1, .int a1)] dX12_first_12 rfl (by decide) rfl ?_
    refine q_aload_n C 1 dX12_first_13 rfl rfl ?_
    obtain ⟨q4, h5, hF⟩ := bnd hF
    try dsimp only at hF
    refine q_callVv C [] (c_X12_keeps l D ad ca kz C.2.2.2.2.2.2.1 _ _ _ h5) tw_1514 gm_X12_keeps pi_249.1 (pe_11 pi_249.2) rfl ⟨rfl, rfl⟩ ⟨Nat.le_of_ble_eq_true rfl, Nat.le_of_ble_eq_true rfl⟩ rfl (Nat.le_of_ble_eq_true rfl) dX12_first_14 q00 ?_
    refine q_iconst (v := 0) C dX12_first_17 (by decide) ?_
    refine q_istore_n C [(3, .int 0), (2, .int (-2)), (0, .ref (ad (249))), (1, .int a1)] dX12_first_18 rfl (by decide) rfl ?_
    obtain ⟨o13, h14, hF⟩ := bnd hF
    try dsimp only at hF
    refine q_sub [2, 3, 1, 0] rfl ?_
    refine l_X12_first_19 C ⟨Nat.le_of_ble_eq_true rfl, Nat.le_of_ble_eq_true rfl⟩ o13 ?_ n _ _ _ _ h14
    refine q_aload_n C 0 dX12_first_57 rfl rfl ?_
    obtain ⟨q15, h16, hF⟩ := bnd hF
    try dsimp only at hF
    refine q_callVv C [] (c_X12_laysBack l D ad ca kz C.2.2.2.2.2.2.1 _ _ _ h16) tw_1526 gm_X12_laysBack pi_249.1 (pe_11 pi_249.2) rfl ⟨rfl, rfl⟩ ⟨Nat.le_of_ble_eq_true rfl, Nat.le_of_ble_eq_true rfl⟩ rfl (Nat.le_of_ble_eq_true rfl) dX12_first_58 q00 ?_
    refine q_iload_n C 1 dX12_first_61 rfl rfl ?_
    exact q_iret C hr hlk dX12_first_62 hF
  · replace hF := ift c3 hF
    refine q_iconst (v := -1) C dX12_first_8 (by decide) ?_
    exact q_iret C hr hlk dX12_first_9 hF
-- X12_firstOfWay
def L_X12_firstOfWay_15 (n : Nat) : Nat → Int32 → Int32 → Int32 → PS → Option (Int32 × PS)
  | 0, _, _, _, _ => none
  | k + 1, x1, x2, x3, σ => (F_X12_areBeside n (σ.1 259 11) x3 σ).bind (fun q3 => (if q3.1 = 0 then L_X12_firstOfWay_15 n k x1 x2 (x3 + 1) q3.2 else (F_X12_isBush n x3 q3.2).bind (fun q6 => (if q6.1 = 0 then (F_X12_wayBetween n x3 x1 q6.2).bind (fun q9 => (if q9.1 = (x2 - (1 : Int32)) then some (x3, q9.2) else L_X12_firstOfWay_15 n k x1 x2 (x3 + 1) q9.2)) else L_X12_firstOfWay_15 n k x1 x2 (x3 + 1) q6.2))))
def F_X12_firstOfWay (n : Nat) (a1 : Int32) (σ : PS) : Option (Int32 × PS) := (F_X12_wayBetween n (σ.1 259 11) a1 σ).bind (fun q1 => (L_X12_firstOfWay_15 n n a1 q1.1 (0 : Int32) q1.2).bind (fun o12 => some (o12.1, o12.2)))
theorem gm_X12_firstOfWay : gM "AskedCampModel" yX12_firstOfWay (Cond.code yX12_firstOfWay cX12_firstOfWay 4 (Option.some Jvm.ClassFile.FieldType.int)) 1 := ⟨by decide +kernel, tw_1494, tw_p83, tw_12, tw_1495⟩
set_option maxHeartbeats 4000000 in
set_option maxRecDepth 100000 in
theorem l_X12_firstOfWay_15 {p : Program} {l : Launch} {e : Env} {R : Room} {s : State} {m : MethodId} {args : Array Value} {below : List Frame} {meth : Method} {c : Code} {D : va_G} {ad : Nat → Nat} {ca : Nat → ClassId} {kz : Nat → Nat} {Q : State → Prop} (C : pC p s m args c cX12_firstOfWay "AskedCampModel" 4 D ad ca kz) (hR : 4 ≤ R.frames ∧ 91 ≤ R.locals) {n : Nat} (o : Int32 × PS) (hx0 : PW p l e R s m args below meth c 4 D ad ca 0 0 Q (o.2) 56 [(3, .int o.1)] []) : ∀ (k : Nat) (x1 : Int32) (x2 : Int32) (x3 : Int32) (σ : PS), L_X12_firstOfWay_15 n k x1 x2 x3 σ = some o → PW p l e R s m args below meth c 4 D ad ca 0 0 Q σ 15 [(0, .ref (ad (249))), (1, .int x1), (2, .int x2), (3, .int x3)] [] := by
  intro k
  induction k with
  | zero => intro x1 x2 x3 σ hF; exact nomatch (show (none : Option (Int32 × PS)) = some o from hF)
  | succ k ih =>
    intro x1 x2 x3 σ hF
    rw [L_X12_firstOfWay_15] at hF
    refine q_aload_n C 0 dX12_firstOfWay_15 rfl rfl ?_
    refine q_aload_n C 0 dX12_firstOfWay_16 rfl rfl ?_
    refine qg_11_20 C pi_249 tw_1073 dX12_firstOfWay_17 ?_
    refine q_bipush (v := 11) C dX12_firstOfWay_20 (by decide) ?_
    refine q_ialdk (jn := 11) C pa_259 (vp_of (by decide)) rfl dX12_firstOfWay_22 ?_
    refine q_iload_n C 3 dX12_firstOfWay_23 rfl rfl ?_
    obtain ⟨q3, h4, hF⟩ := bnd hF
    try dsimp only at hF
    refine q_callVi C [.int (σ.1 259 11), .int x3] (c_X12_areBeside l D ad ca kz C.2.2.2.2.2.2.1 _ _ _ _ _ h4) tw_1439 gm_X12_areBeside pi_249.1 (pe_11 pi_249.2) rfl ⟨rfl, rfl⟩ ⟨Nat.le_trans (Nat.le_of_ble_eq_true rfl) hR.1, Nat.le_trans (Nat.le_of_ble_eq_true rfl) hR.2⟩ rfl (Nat.le_of_ble_eq_true rfl) dX12_firstOfWay_24 q00 ?_
    refine q_if_eq (tgt := 50) C dX12_firstOfWay_27 (by decide) (fun c5 => ?_) (fun c5 => ?_)
    · replace hF := ift c5 hF
      refine q_iinc C 3 [(3, .int (x3 + 1)), (0, .ref (ad (249))), (1, .int x1), (2, .int x2)] dX12_firstOfWay_50 rfl rfl (by decide) rfl ?_
      refine q_goto (tgt := 15) C dX12_firstOfWay_53 (by decide) ?_
      refine q_sub [1, 2, 3, 0] rfl ?_
      exact ih _ _ _ _ hF
    · replace hF := ife c5 hF
      refine q_aload_n C 0 dX12_firstOfWay_30 rfl rfl ?_
      refine q_iload_n C 3 dX12_firstOfWay_31 rfl rfl ?_
      obtain ⟨q6, h7, hF⟩ := bnd hF
      try dsimp only at hF
      refine q_callVi C [.int x3] (c_X12_isBush l D ad ca kz C.2.2.2.2.2.2.1 _ _ _ _ h7) tw_1431 gm_X12_isBush pi_249.1 (pe_11 pi_249.2) rfl ⟨rfl, rfl⟩ ⟨Nat.le_trans (Nat.le_of_ble_eq_true rfl) hR.1, Nat.le_trans (Nat.le_of_ble_eq_true rfl) hR.2⟩ rfl (Nat.le_of_ble_eq_true rfl) dX12_firstOfWay_32 q00 ?_
      refine q_if_ne (tgt := 50) C dX12_firstOfWay_35 (by decide) (fun c8 => ?_) (fun c8 => ?_)
      · replace hF := ife c8 hF
        refine q_iinc C 3 [(3, .int (x3 + 1)), (0, .ref (ad (249))), (1, .int x1), (2, .int x2)] dX12_firstOfWay_50 rfl rfl (by decide) rfl ?_
        refine q_goto (tgt := 15) C dX12_firstOfWay_53 (by decide) ?_
        refine q_sub [1, 2, 3, 0] rfl ?_
        exact ih _ _ _ _ hF
      · replace hF := ift c8 hF
        refine q_aload_n C 0 dX12_firstOfWay_38 rfl rfl ?_
        refine q_iload_n C 3 dX12_firstOfWay_39 rfl rfl ?_
        refine q_iload_n C 1 dX12_firstOfWay_40 rfl rfl ?_
        obtain ⟨q9, h10, hF⟩ := bnd hF
        try dsimp only at hF
        refine q_callVi C [.int x3, .int x1] (c_X12_wayBetween l D ad ca kz C.2.2.2.2.2.2.1 _ _ _ _ _ h10) tw_1488 gm_X12_wayBetween pi_249.1 (pe_11 pi_249.2) rfl ⟨rfl, rfl⟩ ⟨Nat.le_trans (Nat.le_of_ble_eq_true rfl) hR.1, Nat.le_trans (Nat.le_of_ble_eq_true rfl) hR.2⟩ rfl (Nat.le_of_ble_eq_true rfl) dX12_firstOfWay_41 q00 ?_
        refine q_iload_n C 2 dX12_firstOfWay_44 rfl rfl ?_
        refine q_iconst (v := 1) C dX12_firstOfWay_45 (by decide) ?_
        refine q_isub C dX12_firstOfWay_46 ?_
        refine q_icmp_eq (tgt := 56) C dX12_firstOfWay_47 (by decide) (fun c11 => ?_) (fun c11 => ?_)
        · replace hF := ift c11 hF
          cases hF
          refine q_sub [3] rfl ?_
          exact hx0
        · replace hF := ife c11 hF
          refine q_iinc C 3 [(3, .int (x3 + 1)), (0, .ref (ad (249))), (1, .int x1), (2, .int x2)] dX12_firstOfWay_50 rfl rfl (by decide) rfl ?_
          refine q_goto (tgt := 15) C dX12_firstOfWay_53 (by decide) ?_
          refine q_sub [1, 2, 3, 0] rfl ?_
          exact ih _ _ _ _ hF
set_option maxHeartbeats 4000000 in
set_option maxRecDepth 100000 in
theorem c_X12_firstOfWay (l : Launch) (D : va_G) (ad : Nat → Nat) (ca : Nat → ClassId) (kz : Nat → Nat) (hJ : pInj ad) (n : Nat) (a1 : Int32) (σ : PS) (out : Int32 × PS) (hF : F_X12_firstOfWay n a1 σ = some out) : Met l yX12_firstOfWay (Cond.code yX12_firstOfWay cX12_firstOfWay 4 (Option.some Jvm.ClassFile.FieldType.int) :: gw_tbl) { frames := 4, cells := 0, slots := 0, locals := 91 } (va_Pc [.ref (ad (249)), .int a1] (pU D ad ca kz σ)) (pQi D ad ca out) 0 0 (pAD ad) := by
  refine q_entry (own := "AskedCampModel") hJ (by decide) rfl (Nat.le_of_ble_eq_true rfl) (fun p e s m below meth c C hr hlk => ?_)
  refine q_lv [(0, .ref (ad (249))), (1, .int a1)] rfl ?_
  rw [F_X12_firstOfWay] at hF
  refine q_aload_n C 0 dX12_firstOfWay_0 rfl rfl ?_
  refine q_aload_n C 0 dX12_firstOfWay_1 rfl rfl ?_
  refine qg_11_20 C pi_249 tw_1073 dX12_firstOfWay_2 ?_
  refine q_bipush (v := 11) C dX12_firstOfWay_5 (by decide) ?_
  refine q_ialdk (jn := 11) C pa_259 (vp_of (by decide)) rfl dX12_firstOfWay_7 ?_
  refine q_iload_n C 1 dX12_firstOfWay_8 rfl rfl ?_
  obtain ⟨q1, h2, hF⟩ := bnd hF
  try dsimp only at hF
  refine q_callVi C [.int (σ.1 259 11), .int a1] (c_X12_wayBetween l D ad ca kz C.2.2.2.2.2.2.1 _ _ _ _ _ h2) tw_1488 gm_X12_wayBetween pi_249.1 (pe_11 pi_249.2) rfl ⟨rfl, rfl⟩ ⟨Nat.le_of_ble_eq_true rfl, Nat.le_of_ble_eq_true rfl⟩ rfl (Nat.le_of_ble_eq_true rfl) dX12_firstOfWay_9 q00 ?_
  refine q_istore_n C [(2, .int q1.1), (0, .ref (ad (249))), (1, .int a1)] dX12_firstOfWay_12 rfl (by decide) rfl ?_
  refine q_iconst (v := 0) C dX12_firstOfWay_13 (by decide) ?_
  refine q_istore_n C [(3, .int 0), (2, .int q1.1), (0, .ref (ad (249))), (1, .int a1)] dX12_firstOfWay_14 rfl (by decide) rfl ?_
  obtain ⟨o12, h13, hF⟩ := bnd hF
  try dsimp only at hF
  refine q_sub [2, 3, 1, 0] rfl ?_
  refine l_X12_firstOfWay_15 C ⟨Nat.le_of_ble_eq_true rfl, Nat.le_of_ble_eq_true rfl⟩ o12 ?_ n _ _ _ _ h13
  refine q_iload_n C 0 dX12_firstOfWay_56 rfl rfl ?_
  exact q_iret C hr hlk dX12_firstOfWay_57 hF
-- X12_isRule
def F_X12_isRule (n : Nat) (a1 : Int32) (σ : PS) : Option (Int32 × PS) := (if a1 < 0 then some ((0 : Int32), σ) else (if (σ.1 249 2) ≤ a1 then some ((0 : Int32), σ) else some ((1 : Int32), σ)))
theorem gm_X12_isRule : gM "AskedCampModel" yX12_isRule (Cond.code yX12_isRule cX12_isRule 2 (Option.some Jvm.ClassFile.FieldType.boolean)) 1 := ⟨by decide +kernel, tw_1363, tw_p58, tw_12, tw_1364⟩
set_option maxHeartbeats 4000000 in
set_option maxRecDepth 100000 in
theorem c_X12_isRule (l : Launch) (D : va_G) (ad : Nat → Nat) (ca : Nat → ClassId) (kz : Nat → Nat) (hJ : pInj ad) (n : Nat) (a1 : Int32) (σ : PS) (out : Int32 × PS) (hF : F_X12_isRule n a1 σ = some out) : Met l yX12_isRule (Cond.code yX12_isRule cX12_isRule 2 (Option.some Jvm.ClassFile.FieldType.boolean) :: gw_tbl) { frames := 0, cells := 0, slots := 0, locals := 0 } (va_Pc [.ref (ad (249)), .int a1] (pU D ad ca kz σ)) (pQi D ad ca out) 0 0 (pAD ad) := by
  refine q_entry (own := "AskedCampModel") hJ (by decide) rfl (Nat.le_of_ble_eq_true rfl) (fun p e s m below meth c C hr hlk => ?_)
  refine q_lv [(0, .ref (ad (249))), (1, .int a1)] rfl ?_
  rw [F_X12_isRule] at hF
  refine q_iload_n C 1 dX12_isRule_0 rfl rfl ?_
  refine q_if_lt (tgt := 16) C dX12_isRule_1 (by decide) (fun c1 => ?_) (fun c1 => ?_)
  · replace hF := ift c1 hF
    refine q_iconst (v := 0) C dX12_isRule_16 (by decide) ?_
    exact q_zret C hr hlk dX12_isRule_17 (by decide) hF
  · replace hF := ife c1 hF
    refine q_iload_n C 1 dX12_isRule_4 rfl rfl ?_
    refine q_aload_n C 0 dX12_isRule_5 rfl rfl ?_
    refine qg_11_2 C pi_249 tw_1055 dX12_isRule_6 ?_
    refine q_icmp_ge (tgt := 16) C dX12_isRule_9 (by decide) (fun c2 => ?_) (fun c2 => ?_)
    · replace hF := ift c2 hF
      refine q_iconst (v := 0) C dX12_isRule_16 (by decide) ?_
      exact q_zret C hr hlk dX12_isRule_17 (by decide) hF
    · replace hF := ife c2 hF
      refine q_iconst (v := 1) C dX12_isRule_12 (by decide) ?_
      refine q_goto (tgt := 17) C dX12_isRule_13 (by decide) ?_
      exact q_zret C hr hlk dX12_isRule_17 (by decide) hF
-- X12_force
def F_X12_force (n : Nat) (a1 : Int32) (σ : PS) : Option (Int32 × PS) := (if a1 = (-1 : Int32) then some ((σ.1 249 21), psI σ 249 21 a1) else (F_X12_isRule n a1 σ).bind (fun q2 => (if q2.1 = 0 then some ((-2 : Int32), q2.2) else some ((q2.2.1 249 21), psI q2.2 249 21 a1))))
theorem gm_X12_force : gM "AskedCampModel" yX12_force (Cond.code yX12_force cX12_force 3 (Option.some Jvm.ClassFile.FieldType.int)) 1 := ⟨by decide +kernel, tw_1358, tw_1359, tw_12, tw_1360⟩
set_option maxHeartbeats 4000000 in
set_option maxRecDepth 100000 in
theorem c_X12_force (l : Launch) (D : va_G) (ad : Nat → Nat) (ca : Nat → ClassId) (kz : Nat → Nat) (hJ : pInj ad) (n : Nat) (a1 : Int32) (σ : PS) (out : Int32 × PS) (hF : F_X12_force n a1 σ = some out) : Met l yX12_force (Cond.code yX12_force cX12_force 3 (Option.some Jvm.ClassFile.FieldType.int) :: gw_tbl) { frames := 1, cells := 0, slots := 0, locals := 21 } (va_Pc [.ref (ad (249)), .int a1] (pU D ad ca kz σ)) (pQi D ad ca out) 0 0 (pAD ad) := by
  refine q_entry (own := "AskedCampModel") hJ (by decide) rfl (Nat.le_of_ble_eq_true rfl) (fun p e s m below meth c C hr hlk => ?_)
  refine q_lv [(0, .ref (ad (249))), (1, .int a1)] rfl ?_
  rw [F_X12_force] at hF
  refine q_iload_n C 1 dX12_force_0 rfl rfl ?_
  refine q_iconst (v := -1) C dX12_force_1 (by decide) ?_
  refine q_icmp_eq (tgt := 16) C dX12_force_2 (by decide) (fun c1 => ?_) (fun c1 => ?_)
  · replace hF := ift c1 hF
    refine q_aload_n C 0 dX12_force_16 rfl rfl ?_
    refine qg_11_21 C pi_249 tw_1074 dX12_force_17 ?_
    refine q_istore_n C [(2, .int (σ.1 249 21)), (0, .ref (ad (249))), (1, .int a1)] dX12_force_20 rfl (by decide) rfl ?_
    refine q_aload_n C 1 dX12_force_21 rfl rfl ?_
    refine q_iload_n C 2 dX12_force_22 rfl rfl ?_
    refine qs_11_21 C pi_249 tw_1074 dX12_force_23 ?_
    refine q_iload_n C 0 dX12_force_26 rfl rfl ?_
    exact q_iret C hr hlk dX12_force_27 hF
  · replace hF := ife c1 hF
    refine q_aload_n C 0 dX12_force_5 rfl rfl ?_
    refine q_iload_n C 1 dX12_force_6 rfl rfl ?_
    obtain ⟨q2, h3, hF⟩ := bnd hF
    try dsimp only at hF
    refine q_callVi C [.int a1] (c_X12_isRule l D ad ca kz C.2.2.2.2.2.2.1 _ _ _ _ h3) tw_1361 gm_X12_isRule pi_249.1 (pe_11 pi_249.2) rfl ⟨rfl, rfl⟩ ⟨Nat.le_of_ble_eq_true rfl, Nat.le_of_ble_eq_true rfl⟩ rfl (Nat.le_of_ble_eq_true rfl) dX12_force_7 q00 ?_
    refine q_if_ne (tgt := 16) C dX12_force_10 (by decide) (fun c4 => ?_) (fun c4 => ?_)
    · replace hF := ife c4 hF
      refine q_aload_n C 0 dX12_force_16 rfl rfl ?_
      refine qg_11_21 C pi_249 tw_1074 dX12_force_17 ?_
      refine q_istore_n C [(2, .int (q2.2.1 249 21)), (0, .ref (ad (249))), (1, .int a1)] dX12_force_20 rfl (by decide) rfl ?_
      refine q_aload_n C 1 dX12_force_21 rfl rfl ?_
      refine q_iload_n C 2 dX12_force_22 rfl rfl ?_
      refine qs_11_21 C pi_249 tw_1074 dX12_force_23 ?_
      refine q_iload_n C 0 dX12_force_26 rfl rfl ?_
      exact q_iret C hr hlk dX12_force_27 hF
    · replace hF := ift c4 hF
      refine q_bipush (v := -2) C dX12_force_13 (by decide) ?_
      exact q_iret C hr hlk dX12_force_15 hF
-- X12_isWorth
def F_X12_isWorth (n : Nat) (a1 : Int32) (a2 : Int32) (σ : PS) : Option (PS) := (if 0 ≤ a1 ∧ a1.toNatClampNeg < 5 then (if (σ.1 269 a1.toNatClampNeg) < 0 then (if (1 : Int32) = 0 then some σ else (if a1 = 0 then some (psI (psI σ 269 a1.toNatClampNeg a2) 249 34 ((psI σ 269 a1.toNatClampNeg a2).1 268 0)) else some (psI σ 269 a1.toNatClampNeg a2))) else (if (a1 - a1 / (2 : Int32) * (2 : Int32)) = 0 then (if (σ.1 269 a1.toNatClampNeg) ≤ a2 then (if (0 : Int32) = 0 then some σ else (if a1 = 0 then some (psI (psI σ 269 a1.toNatClampNeg a2) 249 34 ((psI σ 269 a1.toNatClampNeg a2).1 268 0)) else some (psI σ 269 a1.toNatClampNeg a2))) else (if (1 : Int32) = 0 then some σ else (if a1 = 0 then some (psI (psI σ 269 a1.toNatClampNeg a2) 249 34 ((psI σ 269 a1.toNatClampNeg a2).1 268 0)) else some (psI σ 269 a1.toNatClampNeg a2)))) else (if a2 ≤ (σ.1 269 a1.toNatClampNeg) then (if (0 : Int32) = 0 then some σ else (if a1 = 0 then some (psI (psI σ 269 a1.toNatClampNeg a2) 249 34 ((psI σ 269 a1.toNatClampNeg a2).1 268 0)) else some (psI σ 269 a1.toNatClampNeg a2))) else (if (1 : Int32) = 0 then some σ else (if a1 = 0 then some (psI (psI σ 269 a1.toNatClampNeg a2) 249 34 ((psI σ 269 a1.toNatClampNeg a2).1 268 0)) else some (psI σ 269 a1.toNatClampNeg a2)))))) else none)
theorem gm_X12_isWorth : gM "AskedCampModel" yX12_isWorth (Cond.code yX12_isWorth cX12_isWorth 4 (Option.none : Option Jvm.ClassFile.FieldType)) 2 := ⟨by decide +kernel, tw_1604, tw_p95, tw_12, tw_1605⟩
set_option maxHeartbeats 4000000 in
set_option maxRecDepth 100000 in
theorem c_X12_isWorth (l : Launch) (D : va_G) (ad : Nat → Nat) (ca : Nat → ClassId) (kz : Nat → Nat) (hJ : pInj ad) (n : Nat) (a1 : Int32) (a2 : Int32) (σ : PS) (out : PS) (hF : F_X12_isWorth n a1 a2 σ = some out) : Met l yX12_isWorth (Cond.code yX12_isWorth cX12_isWorth 4 (Option.none : Option Jvm.ClassFile.FieldType) :: gw_tbl) { frames := 0, cells := 0, slots := 0, locals := 0 } (va_Pc [.ref (ad (249)), .int a1, .int a2] (pU D ad ca kz σ)) (pQv D ad ca out) 0 0 (pAD ad) := by
  refine q_entry (own := "AskedCampModel") hJ (by decide) rfl (Nat.le_of_ble_eq_true rfl) (fun p e s m below meth c C hr hlk => ?_)
  refine q_lv [(0, .ref (ad (249))), (1, .int a1), (2, .int a2)] rfl ?_
  rw [F_X12_isWorth] at hF
  refine q_aload_n C 0 dX12_isWorth_0 rfl rfl ?_
  refine qg_11_33 C pi_249 tw_1086 dX12_isWorth_1 ?_
  refine q_iload_n C 1 dX12_isWorth_4 rfl rfl ?_
  obtain ⟨g1, hF⟩ := grd hF
  refine q_iald C pa_269 (vp_of g1) dX12_isWorth_5 ?_
  refine q_if_lt (tgt := 38) C dX12_isWorth_6 (by decide) (fun c2 => ?_) (fun c2 => ?_)
  · replace hF := ift c2 hF
    refine q_iconst (v := 1) C dX12_isWorth_38 (by decide) ?_
    refine q_goto (tgt := 43) C dX12_isWorth_39 (by decide) ?_
    refine q_istore_n C [(3, .int 1), (0, .ref (ad (249))), (1, .int a1), (2, .int a2)] dX12_isWorth_43 rfl (by decide) rfl ?_
    refine q_iload_n C 0 dX12_isWorth_44 rfl rfl ?_
    refine q_if_ne (tgt := 49) C dX12_isWorth_45 (by decide) (fun c3 => ?_) (fun c3 => ?_)
    · replace hF := ife c3 hF
      refine q_aload_n C 1 dX12_isWorth_49 rfl rfl ?_
      refine qg_11_33 C pi_249 tw_1086 dX12_isWorth_50 ?_
      refine q_iload_n C 2 dX12_isWorth_53 rfl rfl ?_
      refine q_iload_n C 3 dX12_isWorth_54 rfl rfl ?_
      refine q_iast C pa_269 (vp_of g1) dX12_isWorth_55 ?_
      refine q_iload_n C 2 dX12_isWorth_56 rfl rfl ?_
      refine q_if_ne (tgt := 70) C dX12_isWorth_57 (by decide) (fun c4 => ?_) (fun c4 => ?_)
      · replace hF := ife c4 hF
        exact q_vret C hr hlk dX12_isWorth_70 hF
      · replace hF := ift c4 hF
        refine q_aload_n C 1 dX12_isWorth_60 rfl rfl ?_
        refine q_aload_n C 1 dX12_isWorth_61 rfl rfl ?_
        refine qg_11_32 C pi_249 tw_1085 dX12_isWorth_62 ?_
        refine q_iconst (v := 0) C dX12_isWorth_65 (by decide) ?_
        refine q_ialdk (jn := 0) C pa_268 (vp_of (by decide)) rfl dX12_isWorth_66 ?_
        refine qs_11_34 C pi_249 tw_1087 dX12_isWorth_67 ?_
        exact q_vret C hr hlk dX12_isWorth_70 hF
    · replace hF := ift c3 hF
      exact q_vret C hr hlk dX12_isWorth_48 hF
  · replace hF := ife c2 hF
    refine q_iload_n C 1 dX12_isWorth_9 rfl rfl ?_
    refine q_iconst (v := 2) C dX12_isWorth_10 (by decide) ?_
    refine q_irem C dX12_isWorth_11 (by decide) ?_
    refine q_if_ne (tgt := 28) C dX12_isWorth_12 (by decide) (fun c5 => ?_) (fun c5 => ?_)
    · replace hF := ife c5 hF
      refine q_iload_n C 2 dX12_isWorth_28 rfl rfl ?_
      refine q_aload_n C 0 dX12_isWorth_29 rfl rfl ?_
      refine qg_11_33 C pi_249 tw_1086 dX12_isWorth_30 ?_
      refine q_iload_n C 1 dX12_isWorth_33 rfl rfl ?_
      refine q_iald C pa_269 (vp_of g1) dX12_isWorth_34 ?_
      refine q_icmp_le (tgt := 42) C dX12_isWorth_35 (by decide) (fun c6 => ?_) (fun c6 => ?_)
      · replace hF := ift c6 hF
        refine q_iconst (v := 0) C dX12_isWorth_42 (by decide) ?_
        refine q_istore_n C [(3, .int 0), (0, .ref (ad (249))), (1, .int a1), (2, .int a2)] dX12_isWorth_43 rfl (by decide) rfl ?_
        refine q_iload_n C 0 dX12_isWorth_44 rfl rfl ?_
        refine q_if_ne (tgt := 49) C dX12_isWorth_45 (by decide) (fun c7 => ?_) (fun c7 => ?_)
        · replace hF := ife c7 hF
          refine q_aload_n C 1 dX12_isWorth_49 rfl rfl ?_
          refine qg_11_33 C pi_249 tw_1086 dX12_isWorth_50 ?_
          refine q_iload_n C 2 dX12_isWorth_53 rfl rfl ?_
          refine q_iload_n C 3 dX12_isWorth_54 rfl rfl ?_
          refine q_iast C pa_269 (vp_of g1) dX12_isWorth_55 ?_
          refine q_iload_n C 2 dX12_isWorth_56 rfl rfl ?_
          refine q_if_ne (tgt := 70) C dX12_isWorth_57 (by decide) (fun c8 => ?_) (fun c8 => ?_)
          · replace hF := ife c8 hF
            exact q_vret C hr hlk dX12_isWorth_70 hF
          · replace hF := ift c8 hF
            refine q_aload_n C 1 dX12_isWorth_60 rfl rfl ?_
            refine q_aload_n C 1 dX12_isWorth_61 rfl rfl ?_
            refine qg_11_32 C pi_249 tw_1085 dX12_isWorth_62 ?_
            refine q_iconst (v := 0) C dX12_isWorth_65 (by decide) ?_
            refine q_ialdk (jn := 0) C pa_268 (vp_of (by decide)) rfl dX12_isWorth_66 ?_
            refine qs_11_34 C pi_249 tw_1087 dX12_isWorth_67 ?_
            exact q_vret C hr hlk dX12_isWorth_70 hF
        · replace hF := ift c7 hF
          exact q_vret C hr hlk dX12_isWorth_48 hF
      · replace hF := ife c6 hF
        refine q_iconst (v := 1) C dX12_isWorth_38 (by decide) ?_
        refine q_goto (tgt := 43) C dX12_isWorth_39 (by decide) ?_
        refine q_istore_n C [(3, .int 1), (0, .ref (ad (249))), (1, .int a1), (2, .int a2)] dX12_isWorth_43 rfl (by decide) rfl ?_
        refine q_iload_n C 0 dX12_isWorth_44 rfl rfl ?_
        refine q_if_ne (tgt := 49) C dX12_isWorth_45 (by decide) (fun c9 => ?_) (fun c9 => ?_)
        · replace hF := ife c9 hF
          refine q_aload_n C 1 dX12_isWorth_49 rfl rfl ?_
          refine qg_11_33 C pi_249 tw_1086 dX12_isWorth_50 ?_
          refine q_iload_n C 2 dX12_isWorth_53 rfl rfl ?_
          refine q_iload_n C 3 dX12_isWorth_54 rfl rfl ?_
          refine q_iast C pa_269 (vp_of g1) dX12_isWorth_55 ?_
          refine q_iload_n C 2 dX12_isWorth_56 rfl rfl ?_
          refine q_if_ne (tgt := 70) C dX12_isWorth_57 (by decide) (fun c10 => ?_) (fun c10 => ?_)
          · replace hF := ife c10 hF
            exact q_vret C hr hlk dX12_isWorth_70 hF
          · replace hF := ift c10 hF
            refine q_aload_n C 1 dX12_isWorth_60 rfl rfl ?_
            refine q_aload_n C 1 dX12_isWorth_61 rfl rfl ?_
            refine qg_11_32 C pi_249 tw_1085 dX12_isWorth_62 ?_
            refine q_iconst (v := 0) C dX12_isWorth_65 (by decide) ?_
            refine q_ialdk (jn := 0) C pa_268 (vp_of (by decide)) rfl dX12_isWorth_66 ?_
            refine qs_11_34 C pi_249 tw_1087 dX12_isWorth_67 ?_
            exact q_vret C hr hlk dX12_isWorth_70 hF
        · replace hF := ift c9 hF
          exact q_vret C hr hlk dX12_isWorth_48 hF
    · replace hF := ift c5 hF
      refine q_iload_n C 2 dX12_isWorth_15 rfl rfl ?_
      refine q_aload_n C 0 dX12_isWorth_16 rfl rfl ?_
      refine qg_11_33 C pi_249 tw_1086 dX12_isWorth_17 ?_
      refine q_iload_n C 1 dX12_isWorth_20 rfl rfl ?_
      refine q_iald C pa_269 (vp_of g1) dX12_isWorth_21 ?_
      refine q_icmp_ge (tgt := 42) C dX12_isWorth_22 (by decide) (fun c11 => ?_) (fun c11 => ?_)
      · replace hF := ift c11 hF
        refine q_iconst (v := 0) C dX12_isWorth_42 (by decide) ?_
        refine q_istore_n C [(3, .int 0), (0, .ref (ad (249))), (1, .int a1), (2, .int a2)] dX12_isWorth_43 rfl (by decide) rfl ?_
        refine q_iload_n C 0 dX12_isWorth_44 rfl rfl ?_
        refine q_if_ne (tgt := 49) C dX12_isWorth_45 (by decide) (fun c12 => ?_) (fun c12 => ?_)
        · replace hF := ife c12 hF
          refine q_aload_n C 1 dX12_isWorth_49 rfl rfl ?_
          refine qg_11_33 C pi_249 tw_1086 dX12_isWorth_50 ?_
          refine q_iload_n C 2 dX12_isWorth_53 rfl rfl ?_
          refine q_iload_n C 3 dX12_isWorth_54 rfl rfl ?_
          refine q_iast C pa_269 (vp_of g1) dX12_isWorth_55 ?_
          refine q_iload_n C 2 dX12_isWorth_56 rfl rfl ?_
          refine q_if_ne (tgt := 70) C dX12_isWorth_57 (by decide) (fun c13 => ?_) (fun c13 => ?_)
          · replace hF := ife c13 hF
            exact q_vret C hr hlk dX12_isWorth_70 hF
          · replace hF := ift c13 hF
            refine q_aload_n C 1 dX12_isWorth_60 rfl rfl ?_
            refine q_aload_n C 1 dX12_isWorth_61 rfl rfl ?_
            refine qg_11_32 C pi_249 tw_1085 dX12_isWorth_62 ?_
            refine q_iconst (v := 0) C dX12_isWorth_65 (by decide) ?_
            refine q_ialdk (jn := 0) C pa_268 (vp_of (by decide)) rfl dX12_isWorth_66 ?_
            refine qs_11_34 C pi_249 tw_1087 dX12_isWorth_67 ?_
            exact q_vret C hr hlk dX12_isWorth_70 hF
        · replace hF := ift c12 hF
          exact q_vret C hr hlk dX12_isWorth_48 hF
      · replace hF := ife c11 hF
        refine q_goto (tgt := 38) C dX12_isWorth_25 (by decide) ?_
        refine q_iconst (v := 1) C dX12_isWorth_38 (by decide) ?_
        refine q_goto (tgt := 43) C dX12_isWorth_39 (by decide) ?_
        refine q_istore_n C [(3, .int 1), (0, .ref (ad (249))), (1, .int a1), (2, .int a2)] dX12_isWorth_43 rfl (by decide) rfl ?_
        refine q_iload_n C 0 dX12_isWorth_44 rfl rfl ?_
        refine q_if_ne (tgt := 49) C dX12_isWorth_45 (by decide) (fun c14 => ?_) (fun c14 => ?_)
        · replace hF := ife c14 hF
          refine q_aload_n C 1 dX12_isWorth_49 rfl rfl ?_
          refine qg_11_33 C pi_249 tw_1086 dX12_isWorth_50 ?_
          refine q_iload_n C 2 dX12_isWorth_53 rfl rfl ?_
          refine q_iload_n C 3 dX12_isWorth_54 rfl rfl ?_
          refine q_iast C pa_269 (vp_of g1) dX12_isWorth_55 ?_
          refine q_iload_n C 2 dX12_isWorth_56 rfl rfl ?_
          refine q_if_ne (tgt := 70) C dX12_isWorth_57 (by decide) (fun c15 => ?_) (fun c15 => ?_)
          · replace hF := ife c15 hF
            exact q_vret C hr hlk dX12_isWorth_70 hF
          · replace hF := ift c15 hF
            refine q_aload_n C 1 dX12_isWorth_60 rfl rfl ?_
            refine q_aload_n C 1 dX12_isWorth_61 rfl rfl ?_
            refine qg_11_32 C pi_249 tw_1085 dX12_isWorth_62 ?_
            refine q_iconst (v := 0) C dX12_isWorth_65 (by decide) ?_
            refine q_ialdk (jn := 0) C pa_268 (vp_of (by decide)) rfl dX12_isWorth_66 ?_
            refine qs_11_34 C pi_249 tw_1087 dX12_isWorth_67 ?_
            exact q_vret C hr hlk dX12_isWorth_70 hF
        · replace hF := ift c14 hF
          exact q_vret C hr hlk dX12_isWorth_48 hF
-- X12_plays
def L_X12_plays_33 (n : Nat) : Nat → Int32 → Int32 → PS → Option (Int32 × Int32 × PS)
  | 0, _, _, _ => none
  | k + 1, x2, x3, σ => (if 0 ≤ x3 ∧ x3.toNatClampNeg < 5 then (F_X12_cells n σ).bind (fun q8 => (if q8.1 ≤ (σ.1 268 x3.toNatClampNeg) then some (x2, x3, q8.2) else (F_X12_canGo n x3 q8.2).bind (fun q11 => (if q11.1 = 0 then L_X12_plays_33 n k x2 x3 (psI q11.2 268 x3.toNatClampNeg ((q11.2.1 268 x3.toNatClampNeg) + (1 : Int32))) else some (x2, x3, q11.2))))) else none)
def L_X12_plays_19 (n : Nat) : Nat → Int32 → Int32 → PS → Option (PS)
  | 0, _, _, _ => none
  | k + 1, x2, x3, σ => (if x3 < 0 then some σ else (if 0 ≤ x3 ∧ x3.toNatClampNeg < 5 then (L_X12_plays_33 n n x2 x3 (psI σ 268 x3.toNatClampNeg ((σ.1 268 x3.toNatClampNeg) + (1 : Int32)))).bind (fun o7 => (if 0 ≤ o7.2.1 ∧ o7.2.1.toNatClampNeg < 5 then (F_X12_cells n o7.2.2).bind (fun q10 => (if (o7.2.2.1 268 o7.2.1.toNatClampNeg) < q10.1 then (if (o7.2.1 - o7.2.1 / (2 : Int32) * (2 : Int32)) = 0 then (if (o7.2.1 - o7.2.1 / (2 : Int32) * (2 : Int32)) = (1 : Int32) then (if (o7.2.1 + (1 : Int32)) = o7.1 then (F_X12_apart n (q10.2.1 268 o7.2.1.toNatClampNeg) (q10.2.1 268 o7.2.1.toNatClampNeg) q10.2).bind (fun q40 => (F_X12_isWorth n o7.2.1 q40.1 q40.2).bind (fun q42 => L_X12_plays_19 n k o7.1 o7.2.1 q42)) else (F_X12_beginsTurn n (o7.2.1 + 1) (q10.2.1 268 o7.2.1.toNatClampNeg) (q10.2.1 268 o7.2.1.toNatClampNeg) q10.2).bind (fun q38 => L_X12_plays_19 n k o7.1 (o7.2.1 + 1) q38)) else (if (o7.2.1 + (1 : Int32)) = o7.1 then (F_X12_apart n (q10.2.1 268 o7.2.1.toNatClampNeg) (q10.2.1 267 o7.2.1.toNatClampNeg) q10.2).bind (fun q33 => (F_X12_isWorth n o7.2.1 q33.1 q33.2).bind (fun q35 => L_X12_plays_19 n k o7.1 o7.2.1 q35)) else (F_X12_beginsTurn n (o7.2.1 + 1) (q10.2.1 268 o7.2.1.toNatClampNeg) (q10.2.1 267 o7.2.1.toNatClampNeg) q10.2).bind (fun q31 => L_X12_plays_19 n k o7.1 (o7.2.1 + 1) q31))) else (if (o7.2.1 - o7.2.1 / (2 : Int32) * (2 : Int32)) = (1 : Int32) then (if (o7.2.1 + (1 : Int32)) = o7.1 then (F_X12_apart n (q10.2.1 266 o7.2.1.toNatClampNeg) (q10.2.1 268 o7.2.1.toNatClampNeg) q10.2).bind (fun q25 => (F_X12_isWorth n o7.2.1 q25.1 q25.2).bind (fun q27 => L_X12_plays_19 n k o7.1 o7.2.1 q27)) else (F_X12_beginsTurn n (o7.2.1 + 1) (q10.2.1 266 o7.2.1.toNatClampNeg) (q10.2.1 268 o7.2.1.toNatClampNeg) q10.2).bind (fun q23 => L_X12_plays_19 n k o7.1 (o7.2.1 + 1) q23)) else (if (o7.2.1 + (1 : Int32)) = o7.1 then (F_X12_apart n (q10.2.1 266 o7.2.1.toNatClampNeg) (q10.2.1 267 o7.2.1.toNatClampNeg) q10.2).bind (fun q18 => (F_X12_isWorth n o7.2.1 q18.1 q18.2).bind (fun q20 => L_X12_plays_19 n k o7.1 o7.2.1 q20)) else (F_X12_beginsTurn n (o7.2.1 + 1) (q10.2.1 266 o7.2.1.toNatClampNeg) (q10.2.1 267 o7.2.1.toNatClampNeg) q10.2).bind (fun q16 => L_X12_plays_19 n k o7.1 (o7.2.1 + 1) q16)))) else (if (o7.2.1 + (-1)) < 0 then L_X12_plays_19 n k o7.1 (o7.2.1 + (-1)) q10.2 else (if 0 ≤ ((o7.2.1 + (-1)) + (1 : Int32)) ∧ ((o7.2.1 + (-1)) + (1 : Int32)).toNatClampNeg < 5 then (F_X12_isWorth n (o7.2.1 + (-1)) (q10.2.1 269 (((o7.2.1 + (-1)) + (1 : Int32)).toNatClampNeg)) q10.2).bind (fun q46 => L_X12_plays_19 n k o7.1 (o7.2.1 + (-1)) q46) else none)))) else none)) else none))
def F_X12_plays (n : Nat) (a1 : Int32) (a2 : Int32) (σ : PS) : Option (PS) := (F_X12_cellOf n a1 σ).bind (fun q1 => (F_X12_beginsTurn n (0 : Int32) (σ.1 259 11) q1.1 q1.2).bind (fun q3 => (L_X12_plays_19 n n a2 (0 : Int32) q3).bind (fun o48 => some o48)))
theorem gm_X12_plays : gM "AskedCampModel" yX12_plays (Cond.code yX12_plays cX12_plays 6 (Option.none : Option Jvm.ClassFile.FieldType)) 2 := ⟨by decide +kernel, tw_1592, tw_p92, tw_12, tw_1593⟩
set_option maxHeartbeats 4000000 in
set_option maxRecDepth 100000 in
theorem l_X12_plays_33 {p : Program} {l : Launch} {e : Env} {R : Room} {s : State} {m : MethodId} {args : Array Value} {below : List Frame} {meth : Method} {c : Code} {D : va_G} {ad : Nat → Nat} {ca : Nat → ClassId} {kz : Nat → Nat} {Q : State → Prop} (C : pC p s m args c cX12_plays "AskedCampModel" 6 D ad ca kz) (hR : 4 ≤ R.frames ∧ 89 ≤ R.locals) {n : Nat} (o : Int32 × Int32 × PS) (hx0 : PW p l e R s m args below meth c 6 D ad ca 0 0 Q (o.2.2) 67 [(0, .ref (ad (249))), (2, .int o.1), (3, .int o.2.1)] []) : ∀ (k : Nat) (x2 : Int32) (x3 : Int32) (σ : PS), L_X12_plays_33 n k x2 x3 σ = some o → PW p l e R s m args below meth c 6 D ad ca 0 0 Q σ 33 [(0, .ref (ad (249))), (2, .int x2), (3, .int x3)] [] := by
  intro k
  induction k with
  | zero => intro x2 x3 σ hF; exact nomatch (show (none : Option (Int32 × Int32 × PS)) = some o from hF)
  | succ k ih =>
    intro x2 x3 σ hF
    rw [L_X12_plays_33] at hF
    refine q_aload_n C 0 dX12_plays_33 rfl rfl ?_
    refine qg_11_32 C pi_249 tw_1085 dX12_plays_34 ?_
    refine q_iload_n C 2 dX12_plays_37 rfl rfl ?_
    obtain ⟨g7, hF⟩ := grd hF
    refine q_iald C pa_268 (vp_of g7) dX12_plays_38 ?_
    refine q_aload_n C 0 dX12_plays_39 rfl rfl ?_
    obtain ⟨q8, h9, hF⟩ := bnd hF
    try dsimp only at hF
    refine q_callVi C [] (c_X12_cells l D ad ca kz C.2.2.2.2.2.2.1 _ _ _ h9) tw_1382 gm_X12_cells pi_249.1 (pe_11 pi_249.2) rfl ⟨rfl, rfl⟩ ⟨Nat.le_trans (Nat.le_of_ble_eq_true rfl) hR.1, Nat.le_trans (Nat.le_of_ble_eq_true rfl) hR.2⟩ rfl (Nat.le_of_ble_eq_true rfl) dX12_plays_40 q00 ?_
    refine q_icmp_ge (tgt := 67) C dX12_plays_43 (by decide) (fun c10 => ?_) (fun c10 => ?_)
    · replace hF := ift c10 hF
      cases hF
      refine q_sub [0, 1, 2] rfl ?_
      exact hx0
    · replace hF := ife c10 hF
      refine q_aload_n C 0 dX12_plays_46 rfl rfl ?_
      refine q_iload_n C 2 dX12_plays_47 rfl rfl ?_
      obtain ⟨q11, h12, hF⟩ := bnd hF
      try dsimp only at hF
      refine q_callVi C [.int x3] (c_X12_canGo l D ad ca kz C.2.2.2.2.2.2.1 _ _ _ _ h12) tw_1598 gm_X12_canGo pi_249.1 (pe_11 pi_249.2) rfl ⟨rfl, rfl⟩ ⟨Nat.le_trans (Nat.le_of_ble_eq_true rfl) hR.1, Nat.le_trans (Nat.le_of_ble_eq_true rfl) hR.2⟩ rfl (Nat.le_of_ble_eq_true rfl) dX12_plays_48 q00 ?_
      refine q_if_ne (tgt := 67) C dX12_plays_51 (by decide) (fun c13 => ?_) (fun c13 => ?_)
      · replace hF := ife c13 hF
        cases hF
        refine q_sub [0, 1, 2] rfl ?_
        exact hx0
      · replace hF := ift c13 hF
        refine q_aload_n C 0 dX12_plays_54 rfl rfl ?_
        refine qg_11_32 C pi_249 tw_1085 dX12_plays_55 ?_
        refine q_iload_n C 2 dX12_plays_58 rfl rfl ?_
        refine q_dup2 C dX12_plays_59 rfl rfl ?_
        refine q_iald C pa_268 (vp_of g7) dX12_plays_60 ?_
        refine q_iconst (v := 1) C dX12_plays_61 (by decide) ?_
        refine q_iadd C dX12_plays_62 ?_
        refine q_iast C pa_268 (vp_of g7) dX12_plays_63 ?_
        refine q_goto (tgt := 33) C dX12_plays_64 (by decide) ?_
        refine q_sub [0, 1, 2] rfl ?_
        exact ih _ _ _ hF
set_option maxHeartbeats 4000000 in
set_option maxRecDepth 100000 in
theorem l_X12_plays_19 {p : Program} {l : Launch} {e : Env} {R : Room} {s : State} {m : MethodId} {args : Array Value} {below : List Frame} {meth : Method} {c : Code} {D : va_G} {ad : Nat → Nat} {ca : Nat → ClassId} {kz : Nat → Nat} {Q : State → Prop} (C : pC p s m args c cX12_plays "AskedCampModel" 6 D ad ca kz) (hR : 4 ≤ R.frames ∧ 89 ≤ R.locals) {n : Nat} (o : PS) (hx0 : PW p l e R s m args below meth c 6 D ad ca 0 0 Q (o) 188 [] []) : ∀ (k : Nat) (x2 : Int32) (x3 : Int32) (σ : PS), L_X12_plays_19 n k x2 x3 σ = some o → PW p l e R s m args below meth c 6 D ad ca 0 0 Q σ 19 [(0, .ref (ad (249))), (2, .int x2), (3, .int x3)] [] := by
  intro k
  induction k with
  | zero => intro x2 x3 σ hF; exact nomatch (show (none : Option (PS)) = some o from hF)
  | succ k ih =>
    intro x2 x3 σ hF
    rw [L_X12_plays_19] at hF
    refine q_iload_n C 2 dX12_plays_19 rfl rfl ?_
    refine q_if_lt (tgt := 188) C dX12_plays_20 (by decide) (fun c5 => ?_) (fun c5 => ?_)
    · replace hF := ift c5 hF
      cases hF
      refine q_sub [] rfl ?_
      exact hx0
    · replace hF := ife c5 hF
      refine q_aload_n C 0 dX12_plays_23 rfl rfl ?_
      refine qg_11_32 C pi_249 tw_1085 dX12_plays_24 ?_
      refine q_iload_n C 2 dX12_plays_27 rfl rfl ?_
      refine q_dup2 C dX12_plays_28 rfl rfl ?_
      obtain ⟨g6, hF⟩ := grd hF
      refine q_iald C pa_268 (vp_of g6) dX12_plays_29 ?_
      refine q_iconst (v := 1) C dX12_plays_30 (by decide) ?_
      refine q_iadd C dX12_plays_31 ?_
      refine q_iast C pa_268 (vp_of g6) dX12_plays_32 ?_
      obtain ⟨o7, h8, hF⟩ := bnd hF
      try dsimp only at hF
      refine q_sub [0, 1, 2] rfl ?_
      refine l_X12_plays_33 C ⟨hR.1, hR.2⟩ o7 ?_ n _ _ _ h8
      refine q_aload_n C 0 dX12_plays_67 rfl rfl ?_
      refine qg_11_32 C pi_249 tw_1085 dX12_plays_68 ?_
      refine q_iload_n C 2 dX12_plays_71 rfl rfl ?_
      obtain ⟨g9, hF⟩ := grd hF
      refine q_iald C pa_268 (vp_of g9) dX12_plays_72 ?_
      refine q_aload_n C 0 dX12_plays_73 rfl rfl ?_
      obtain ⟨q10, h11, hF⟩ := bnd hF
      try dsimp only at hF
      refine q_callVi C [] (c_X12_cells l D ad ca kz C.2.2.2.2.2.2.1 _ _ _ h11) tw_1382 gm_X12_cells pi_249.1 (pe_11 pi_249.2) rfl ⟨rfl, rfl⟩ ⟨Nat.le_trans (Nat.le_of_ble_eq_true rfl) hR.1, Nat.le_trans (Nat.le_of_ble_eq_true rfl) hR.2⟩ rfl (Nat.le_of_ble_eq_true rfl) dX12_plays_74 q00 ?_
      refine q_icmp_lt (tgt := 103) C dX12_plays_77 (by decide) (fun c12 => ?_) (fun c12 => ?_)
      · replace hF := ift c12 hF
        refine q_iload_n C 2 dX12_plays_103 rfl rfl ?_
        refine q_iconst (v := 2) C dX12_plays_104 (by decide) ?_
        refine q_irem C dX12_plays_105 (by decide) ?_
        refine q_if_ne (tgt := 118) C dX12_plays_106 (by decide) (fun c13 => ?_) (fun c13 => ?_)
        · replace hF := ife c13 hF
          refine q_aload_n C 0 dX12_plays_118 rfl rfl ?_
          refine qg_11_30 C pi_249 tw_1083 dX12_plays_119 ?_
          refine q_iload_n C 2 dX12_plays_122 rfl rfl ?_
          refine q_iald C pa_266 (vp_of g9) dX12_plays_123 ?_
          refine q_istore C [(4, .int (q10.2.1 266 o7.2.1.toNatClampNeg)), (0, .ref (ad (249))), (2, .int o7.1), (3, .int o7.2.1)] dX12_plays_124 (by decide) rfl ?_
          refine q_iload_n C 3 dX12_plays_126 rfl rfl ?_
          refine q_iconst (v := 2) C dX12_plays_127 (by decide) ?_
          refine q_irem C dX12_plays_128 (by decide) ?_
          refine q_iconst (v := 1) C dX12_plays_129 (by decide) ?_
          refine q_icmp_ne (tgt := 142) C dX12_plays_130 (by decide) (fun c14 => ?_) (fun c14 => ?_)
          · replace hF := ife c14 hF
            refine q_aload_n C 1 dX12_plays_142 rfl rfl ?_
            refine qg_11_31 C pi_249 tw_1084 dX12_plays_143 ?_
            refine q_iload_n C 3 dX12_plays_146 rfl rfl ?_
            refine q_iald C pa_267 (vp_of g9) dX12_plays_147 ?_
            refine q_istore C [(5, .int (q10.2.1 267 o7.2.1.toNatClampNeg)), (4, .int (q10.2.1 266 o7.2.1.toNatClampNeg)), (0, .ref (ad (249))), (2, .int o7.1), (3, .int o7.2.1)] dX12_plays_148 (by decide) rfl ?_
            refine q_iload_n C 4 dX12_plays_150 rfl rfl ?_
            refine q_iconst (v := 1) C dX12_plays_151 (by decide) ?_
            refine q_iadd C dX12_plays_152 ?_
            refine q_iload_n C 3 dX12_plays_153 rfl rfl ?_
            refine q_icmp_ne (tgt := 173) C dX12_plays_154 (by decide) (fun c15 => ?_) (fun c15 => ?_)
            · replace hF := ife c15 hF
              refine q_iinc C 4 [(3, .int (o7.2.1 + 1)), (5, .int (q10.2.1 267 o7.2.1.toNatClampNeg)), (4, .int (q10.2.1 266 o7.2.1.toNatClampNeg)), (0, .ref (ad (249))), (2, .int o7.1)] dX12_plays_173 rfl rfl (by decide) rfl ?_
              refine q_aload_n C 3 dX12_plays_176 rfl rfl ?_
              refine q_iload_n C 0 dX12_plays_177 rfl rfl ?_
              refine q_iload C 2 dX12_plays_178 rfl ?_
              refine q_iload C 1 dX12_plays_180 rfl ?_
              obtain ⟨q16, h17, hF⟩ := bnd hF
              try dsimp only at hF
              refine q_callVv C [.int (o7.2.1 + 1), .int (q10.2.1 266 o7.2.1.toNatClampNeg), .int (q10.2.1 267 o7.2.1.toNatClampNeg)] (c_X12_beginsTurn l D ad ca kz C.2.2.2.2.2.2.1 _ _ _ _ _ _ h17) tw_1594 gm_X12_beginsTurn pi_249.1 (pe_11 pi_249.2) rfl ⟨rfl, rfl⟩ ⟨Nat.le_trans (Nat.le_of_ble_eq_true rfl) hR.1, Nat.le_trans (Nat.le_of_ble_eq_true rfl) hR.2⟩ rfl (Nat.le_of_ble_eq_true rfl) dX12_plays_182 q00 ?_
              refine q_goto (tgt := 19) C dX12_plays_185 (by decide) ?_
              refine q_sub [3, 4, 0] rfl ?_
              exact ih _ _ _ hF
            · replace hF := ift c15 hF
              refine q_aload_n C 2 dX12_plays_157 rfl rfl ?_
              refine q_iload_n C 4 dX12_plays_158 rfl rfl ?_
              refine q_aload_n C 2 dX12_plays_159 rfl rfl ?_
              refine q_iload C 1 dX12_plays_160 rfl ?_
              refine q_iload C 0 dX12_plays_162 rfl ?_
              obtain ⟨q18, h19, hF⟩ := bnd hF
              try dsimp only at hF
              refine q_callVi C [.int (q10.2.1 266 o7.2.1.toNatClampNeg), .int (q10.2.1 267 o7.2.1.toNatClampNeg)] (c_X12_apart l D ad ca kz C.2.2.2.2.2.2.1 _ _ _ _ _ h19) tw_1606 gm_X12_apart pi_249.1 (pe_11 pi_249.2) rfl ⟨rfl, rfl⟩ ⟨Nat.le_trans (Nat.le_of_ble_eq_true rfl) hR.1, Nat.le_trans (Nat.le_of_ble_eq_true rfl) hR.2⟩ rfl (Nat.le_of_ble_eq_true rfl) dX12_plays_164 q00 ?_
              obtain ⟨q20, h21, hF⟩ := bnd hF
              try dsimp only at hF
              refine q_callVv C [.int o7.2.1, .int q18.1] (c_X12_isWorth l D ad ca kz C.2.2.2.2.2.2.1 _ _ _ _ _ h21) tw_1602 gm_X12_isWorth pi_249.1 (pe_11 pi_249.2) rfl ⟨rfl, rfl⟩ ⟨Nat.le_trans (Nat.le_of_ble_eq_true rfl) hR.1, Nat.le_trans (Nat.le_of_ble_eq_true rfl) hR.2⟩ rfl (Nat.le_of_ble_eq_true rfl) dX12_plays_167 q00 ?_
              refine q_goto (tgt := 185) C dX12_plays_170 (by decide) ?_
              refine q_goto (tgt := 19) C dX12_plays_185 (by decide) ?_
              refine q_sub [2, 3, 4] rfl ?_
              exact ih _ _ _ hF
          · replace hF := ift c14 hF
            refine q_aload_n C 1 dX12_plays_133 rfl rfl ?_
            refine qg_11_32 C pi_249 tw_1085 dX12_plays_134 ?_
            refine q_iload_n C 3 dX12_plays_137 rfl rfl ?_
            refine q_iald C pa_268 (vp_of g9) dX12_plays_138 ?_
            refine q_goto (tgt := 148) C dX12_plays_139 (by decide) ?_
            refine q_istore C [(5, .int (q10.2.1 268 o7.2.1.toNatClampNeg)), (4, .int (q10.2.1 266 o7.2.1.toNatClampNeg)), (0, .ref (ad (249))), (2, .int o7.1), (3, .int o7.2.1)] dX12_plays_148 (by decide) rfl ?_
            refine q_iload_n C 4 dX12_plays_150 rfl rfl ?_
            refine q_iconst (v := 1) C dX12_plays_151 (by decide) ?_
            refine q_iadd C dX12_plays_152 ?_
            refine q_iload_n C 3 dX12_plays_153 rfl rfl ?_
            refine q_icmp_ne (tgt := 173) C dX12_plays_154 (by decide) (fun c22 => ?_) (fun c22 => ?_)
            · replace hF := ife c22 hF
              refine q_iinc C 4 [(3, .int (o7.2.1 + 1)), (5, .int (q10.2.1 268 o7.2.1.toNatClampNeg)), (4, .int (q10.2.1 266 o7.2.1.toNatClampNeg)), (0, .ref (ad (249))), (2, .int o7.1)] dX12_plays_173 rfl rfl (by decide) rfl ?_
              refine q_aload_n C 3 dX12_plays_176 rfl rfl ?_
              refine q_iload_n C 0 dX12_plays_177 rfl rfl ?_
              refine q_iload C 2 dX12_plays_178 rfl ?_
              refine q_iload C 1 dX12_plays_180 rfl ?_
              obtain ⟨q23, h24, hF⟩ := bnd hF
              try dsimp only at hF
              refine q_callVv C [.int (o7.2.1 + 1), .int (q10.2.1 266 o7.2.1.toNatClampNeg), .int (q10.2.1 268 o7.2.1.toNatClampNeg)] (c_X12_beginsTurn l D ad ca kz C.2.2.2.2.2.2.1 _ _ _ _ _ _ h24) tw_1594 gm_X12_beginsTurn pi_249.1 (pe_11 pi_249.2) rfl ⟨rfl, rfl⟩ ⟨Nat.le_trans (Nat.le_of_ble_eq_true rfl) hR.1, Nat.le_trans (Nat.le_of_ble_eq_true rfl) hR.2⟩ rfl (Nat.le_of_ble_eq_true rfl) dX12_plays_182 q00 ?_
              refine q_goto (tgt := 19) C dX12_plays_185 (by decide) ?_
              refine q_sub [3, 4, 0] rfl ?_
              exact ih _ _ _ hF
            · replace hF := ift c22 hF
              refine q_aload_n C 2 dX12_plays_157 rfl rfl ?_
              refine q_iload_n C 4 dX12_plays_158 rfl rfl ?_
              refine q_aload_n C 2 dX12_plays_159 rfl rfl ?_
              refine q_iload C 1 dX12_plays_160 rfl ?_
              refine q_iload C 0 dX12_plays_162 rfl ?_
              obtain ⟨q25, h26, hF⟩ := bnd hF
              try dsimp only at hF
              refine q_callVi C [.int (q10.2.1 266 o7.2.1.toNatClampNeg), .int (q10.2.1 268 o7.2.1.toNatClampNeg)] (c_X12_apart l D ad ca kz C.2.2.2.2.2.2.1 _ _ _ _ _ h26) tw_1606 gm_X12_apart pi_249.1 (pe_11 pi_249.2) rfl ⟨rfl, rfl⟩ ⟨Nat.le_trans (Nat.le_of_ble_eq_true rfl) hR.1, Nat.le_trans (Nat.le_of_ble_eq_true rfl) hR.2⟩ rfl (Nat.le_of_ble_eq_true rfl) dX12_plays_164 q00 ?_
              obtain ⟨q27, h28, hF⟩ := bnd hF
              try dsimp only at hF
              refine q_callVv C [.int o7.2.1, .int q25.1] (c_X12_isWorth l D ad ca kz C.2.2.2.2.2.2.1 _ _ _ _ _ h28) tw_1602 gm_X12_isWorth pi_249.1 (pe_11 pi_249.2) rfl ⟨rfl, rfl⟩ ⟨Nat.le_trans (Nat.le_of_ble_eq_true rfl) hR.1, Nat.le_trans (Nat.le_of_ble_eq_true rfl) hR.2⟩ rfl (Nat.le_of_ble_eq_true rfl) dX12_plays_167 q00 ?_
              refine q_goto (tgt := 185) C dX12_plays_170 (by decide) ?_
              refine q_goto (tgt := 19) C dX12_plays_185 (by decide) ?_
              refine q_sub [2, 3, 4] rfl ?_
              exact ih _ _ _ hF
        · replace hF := ift c13 hF
          refine q_aload_n C 0 dX12_plays_109 rfl rfl ?_
          refine qg_11_32 C pi_249 tw_1085 dX12_plays_110 ?_
          refine q_iload_n C 2 dX12_plays_113 rfl rfl ?_
          refine q_iald C pa_268 (vp_of g9) dX12_plays_114 ?_
          refine q_goto (tgt := 124) C dX12_plays_115 (by decide) ?_
          refine q_istore C [(4, .int (q10.2.1 268 o7.2.1.toNatClampNeg)), (0, .ref (ad (249))), (2, .int o7.1), (3, .int o7.2.1)] dX12_plays_124 (by decide) rfl ?_
          refine q_iload_n C 3 dX12_plays_126 rfl rfl ?_
          refine q_iconst (v := 2) C dX12_plays_127 (by decide) ?_
          refine q_irem C dX12_plays_128 (by decide) ?_
          refine q_iconst (v := 1) C dX12_plays_129 (by decide) ?_
          refine q_icmp_ne (tgt := 142) C dX12_plays_130 (by decide) (fun c29 => ?_) (fun c29 => ?_)
          · replace hF := ife c29 hF
            refine q_aload_n C 1 dX12_plays_142 rfl rfl ?_
            refine qg_11_31 C pi_249 tw_1084 dX12_plays_143 ?_
            refine q_iload_n C 3 dX12_plays_146 rfl rfl ?_
            refine q_iald C pa_267 (vp_of g9) dX12_plays_147 ?_
            refine q_istore C [(5, .int (q10.2.1 267 o7.2.1.toNatClampNeg)), (4, .int (q10.2.1 268 o7.2.1.toNatClampNeg)), (0, .ref (ad (249))), (2, .int o7.1), (3, .int o7.2.1)] dX12_plays_148 (by decide) rfl ?_
            refine q_iload_n C 4 dX12_plays_150 rfl rfl ?_
            refine q_iconst (v := 1) C dX12_plays_151 (by decide) ?_
            refine q_iadd C dX12_plays_152 ?_
            refine q_iload_n C 3 dX12_plays_153 rfl rfl ?_
            refine q_icmp_ne (tgt := 173) C dX12_plays_154 (by decide) (fun c30 => ?_) (fun c30 => ?_)
            · replace hF := ife c30 hF
              refine q_iinc C 4 [(3, .int (o7.2.1 + 1)), (5, .int (q10.2.1 267 o7.2.1.toNatClampNeg)), (4, .int (q10.2.1 268 o7.2.1.toNatClampNeg)), (0, .ref (ad (249))), (2, .int o7.1)] dX12_plays_173 rfl rfl (by decide) rfl ?_
              refine q_aload_n C 3 dX12_plays_176 rfl rfl ?_
              refine q_iload_n C 0 dX12_plays_177 rfl rfl ?_
              refine q_iload C 2 dX12_plays_178 rfl ?_
              refine q_iload C 1 dX12_plays_180 rfl ?_
              obtain ⟨q31, h32, hF⟩ := bnd hF
              try dsimp only at hF
              refine q_callVv C [.int (o7.2.1 + 1), .int (q10.2.1 268 o7.2.1.toNatClampNeg), .int (q10.2.1 267 o7.2.1.toNatClampNeg)] (c_X12_beginsTurn l D ad ca kz C.2.2.2.2.2.2.1 _ _ _ _ _ _ h32) tw_1594 gm_X12_beginsTurn pi_249.1 (pe_11 pi_249.2) rfl ⟨rfl, rfl⟩ ⟨Nat.le_trans (Nat.le_of_ble_eq_true rfl) hR.1, Nat.le_trans (Nat.le_of_ble_eq_true rfl) hR.2⟩ rfl (Nat.le_of_ble_eq_true rfl) dX12_plays_182 q00 ?_
              refine q_goto (tgt := 19) C dX12_plays_185 (by decide) ?_
              refine q_sub [3, 4, 0] rfl ?_
              exact ih _ _ _ hF
            · replace hF := ift c30 hF
              refine q_aload_n C 2 dX12_plays_157 rfl rfl ?_
              refine q_iload_n C 4 dX12_plays_158 rfl rfl ?_
              refine q_aload_n C 2 dX12_plays_159 rfl rfl ?_
              refine q_iload C 1 dX12_plays_160 rfl ?_
              refine q_iload C 0 dX12_plays_162 rfl ?_
              obtain ⟨q33, h34, hF⟩ := bnd hF
              try dsimp only at hF
              refine q_callVi C [.int (q10.2.1 268 o7.2.1.toNatClampNeg), .int (q10.2.1 267 o7.2.1.toNatClampNeg)] (c_X12_apart l D ad ca kz C.2.2.2.2.2.2.1 _ _ _ _ _ h34) tw_1606 gm_X12_apart pi_249.1 (pe_11 pi_249.2) rfl ⟨rfl, rfl⟩ ⟨Nat.le_trans (Nat.le_of_ble_eq_true rfl) hR.1, Nat.le_trans (Nat.le_of_ble_eq_true rfl) hR.2⟩ rfl (Nat.le_of_ble_eq_true rfl) dX12_plays_164 q00 ?_
              obtain ⟨q35, h36, hF⟩ := bnd hF
              try dsimp only at hF
              refine q_callVv C [.int o7.2.1, .int q33.1] (c_X12_isWorth l D ad ca kz C.2.2.2.2.2.2.1 _ _ _ _ _ h36) tw_1602 gm_X12_isWorth pi_249.1 (pe_11 pi_249.2) rfl ⟨rfl, rfl⟩ ⟨Nat.le_trans (Nat.le_of_ble_eq_true rfl) hR.1, Nat.le_trans (Nat.le_of_ble_eq_true rfl) hR.2⟩ rfl (Nat.le_of_ble_eq_true rfl) dX12_plays_167 q00 ?_
              refine q_goto (tgt := 185) C dX12_plays_170 (by decide) ?_
              refine q_goto (tgt := 19) C dX12_plays_185 (by decide) ?_
              refine q_sub [2, 3, 4] rfl ?_
              exact ih _ _ _ hF
          · replace hF := ift c29 hF
            refine q_aload_n C 1 dX12_plays_133 rfl rfl ?_
            refine qg_11_32 C pi_249 tw_1085 dX12_plays_134 ?_
            refine q_iload_n C 3 dX12_plays_137 rfl rfl ?_
            refine q_iald C pa_268 (vp_of g9) dX12_plays_138 ?_
            refine q_goto (tgt := 148) C dX12_plays_139 (by decide) ?_
            refine q_istore C [(5, .int (q10.2.1 268 o7.2.1.toNatClampNeg)), (4, .int (q10.2.1 268 o7.2.1.toNatClampNeg)), (0, .ref (ad (249))), (2, .int o7.1), (3, .int o7.2.1)] dX12_plays_148 (by decide) rfl ?_
            refine q_iload_n C 4 dX12_plays_150 rfl rfl ?_
            refine q_iconst (v := 1) C dX12_plays_151 (by decide) ?_
            refine q_iadd C dX12_plays_152 ?_
            refine q_iload_n C 3 dX12_plays_153 rfl rfl ?_
            refine q_icmp_ne (tgt := 173) C dX12_plays_154 (by decide) (fun c37 => ?_) (fun c37 => ?_)
            · replace hF := ife c37 hF
              refine q_iinc C 4 [(3, .int (o7.2.1 + 1)), (5, .int (q10.2.1 268 o7.2.1.toNatClampNeg)), (4, .int (q10.2.1 268 o7.2.1.toNatClampNeg)), (0, .ref (ad (249))), (2, .int o7.1)] dX12_plays_173 rfl rfl (by decide) rfl ?_
              refine q_aload_n C 3 dX12_plays_176 rfl rfl ?_
              refine q_iload_n C 0 dX12_plays_177 rfl rfl ?_
              refine q_iload C 2 dX12_plays_178 rfl ?_
              refine q_iload C 1 dX12_plays_180 rfl ?_
              obtain ⟨q38, h39, hF⟩ := bnd hF
              try dsimp only at hF
              refine q_callVv C [.int (o7.2.1 + 1), .int (q10.2.1 268 o7.2.1.toNatClampNeg), .int (q10.2.1 268 o7.2.1.toNatClampNeg)] (c_X12_beginsTurn l D ad ca kz C.2.2.2.2.2.2.1 _ _ _ _ _ _ h39) tw_1594 gm_X12_beginsTurn pi_249.1 (pe_11 pi_249.2) rfl ⟨rfl, rfl⟩ ⟨Nat.le_trans (Nat.le_of_ble_eq_true rfl) hR.1, Nat.le_trans (Nat.le_of_ble_eq_true rfl) hR.2⟩ rfl (Nat.le_of_ble_eq_true rfl) dX12_plays_182 q00 ?_
              refine q_goto (tgt := 19) C dX12_plays_185 (by decide) ?_
              refine q_sub [3, 4, 0] rfl ?_
              exact ih _ _ _ hF
            · replace hF := ift c37 hF
              refine q_aload_n C 2 dX12_plays_157 rfl rfl ?_
              refine q_iload_n C 4 dX12_plays_158 rfl rfl ?_
              refine q_aload_n C 2 dX12_plays_159 rfl rfl ?_
              refine q_iload C 1 dX12_plays_160 rfl ?_
              refine q_iload C 0 dX12_plays_162 rfl ?_
              obtain ⟨q40, h41, hF⟩ := bnd hF
              try dsimp only at hF
              refine q_callVi C [.int (q10.2.1 268 o7.2.1.toNatClampNeg), .int (q10.2.1 268 o7.2.1.toNatClampNeg)] (c_X12_apart l D ad ca kz C.2.2.2.2.2.2.1 _ _ _ _ _ h41) tw_1606 gm_X12_apart pi_249.1 (pe_11 pi_249.2) rfl ⟨rfl, rfl⟩ ⟨Nat.le_trans (Nat.le_of_ble_eq_true rfl) hR.1, Nat.le_trans (Nat.le_of_ble_eq_true rfl) hR.2⟩ rfl (Nat.le_of_ble_eq_true rfl) dX12_plays_164 q00 ?_
              obtain ⟨q42, h43, hF⟩ := bnd hF
              try dsimp only at hF
              refine q_callVv C [.int o7.2.1, .int q40.1] (c_X12_isWorth l D ad ca kz C.2.2.2.2.2.2.1 _ _ _ _ _ h43) tw_1602 gm_X12_isWorth pi_249.1 (pe_11 pi_249.2) rfl ⟨rfl, rfl⟩ ⟨Nat.le_trans (Nat.le_of_ble_eq_true rfl) hR.1, Nat.le_trans (Nat.le_of_ble_eq_true rfl) hR.2⟩ rfl (Nat.le_of_ble_eq_true rfl) dX12_plays_167 q00 ?_
              refine q_goto (tgt := 185) C dX12_plays_170 (by decide) ?_
              refine q_goto (tgt := 19) C dX12_plays_185 (by decide) ?_
              refine q_sub [2, 3, 4] rfl ?_
              exact ih _ _ _ hF
      · replace hF := ife c12 hF
        refine q_iinc C 2 [(3, .int (o7.2.1 + (-1))), (0, .ref (ad (249))), (2, .int o7.1)] dX12_plays_80 rfl rfl (by decide) rfl ?_
        refine q_iload_n C 0 dX12_plays_83 rfl rfl ?_
        refine q_if_lt (tgt := 19) C dX12_plays_84 (by decide) (fun c44 => ?_) (fun c44 => ?_)
        · replace hF := ift c44 hF
          refine q_sub [1, 2, 0] rfl ?_
          exact ih _ _ _ hF
        · replace hF := ife c44 hF
          refine q_aload_n C 1 dX12_plays_87 rfl rfl ?_
          refine q_iload_n C 0 dX12_plays_88 rfl rfl ?_
          refine q_aload_n C 1 dX12_plays_89 rfl rfl ?_
          refine qg_11_33 C pi_249 tw_1086 dX12_plays_90 ?_
          refine q_iload_n C 0 dX12_plays_93 rfl rfl ?_
          refine q_iconst (v := 1) C dX12_plays_94 (by decide) ?_
          refine q_iadd C dX12_plays_95 ?_
          obtain ⟨g45, hF⟩ := grd hF
          refine q_iald C pa_269 (vp_of g45) dX12_plays_96 ?_
          obtain ⟨q46, h47, hF⟩ := bnd hF
          try dsimp only at hF
          refine q_callVv C [.int (o7.2.1 + (-1)), .int (q10.2.1 269 (((o7.2.1 + (-1)) + (1 : Int32)).toNatClampNeg))] (c_X12_isWorth l D ad ca kz C.2.2.2.2.2.2.1 _ _ _ _ _ h47) tw_1602 gm_X12_isWorth pi_249.1 (pe_11 pi_249.2) rfl ⟨rfl, rfl⟩ ⟨Nat.le_trans (Nat.le_of_ble_eq_true rfl) hR.1, Nat.le_trans (Nat.le_of_ble_eq_true rfl) hR.2⟩ rfl (Nat.le_of_ble_eq_true rfl) dX12_plays_97 q00 ?_
          refine q_goto (tgt := 19) C dX12_plays_100 (by decide) ?_
          refine q_sub [1, 2, 0] rfl ?_
          exact ih _ _ _ hF
set_option maxHeartbeats 4000000 in
set_option maxRecDepth 100000 in
theorem c_X12_plays (l : Launch) (D : va_G) (ad : Nat → Nat) (ca : Nat → ClassId) (kz : Nat → Nat) (hJ : pInj ad) (n : Nat) (a1 : Int32) (a2 : Int32) (σ : PS) (out : PS) (hF : F_X12_plays n a1 a2 σ = some out) : Met l yX12_plays (Cond.code yX12_plays cX12_plays 6 (Option.none : Option Jvm.ClassFile.FieldType) :: gw_tbl) { frames := 4, cells := 0, slots := 0, locals := 89 } (va_Pc [.ref (ad (249)), .int a1, .int a2] (pU D ad ca kz σ)) (pQv D ad ca out) 0 0 (pAD ad) := by
  refine q_entry (own := "AskedCampModel") hJ (by decide) rfl (Nat.le_of_ble_eq_true rfl) (fun p e s m below meth c C hr hlk => ?_)
  refine q_lv [(0, .ref (ad (249))), (1, .int a1), (2, .int a2)] rfl ?_
  rw [F_X12_plays] at hF
  refine q_iconst (v := 0) C dX12_plays_0 (by decide) ?_
  refine q_istore_n C [(3, .int 0), (0, .ref (ad (249))), (1, .int a1), (2, .int a2)] dX12_plays_1 rfl (by decide) rfl ?_
  refine q_aload_n C 1 dX12_plays_2 rfl rfl ?_
  refine q_iconst (v := 0) C dX12_plays_3 (by decide) ?_
  refine q_aload_n C 1 dX12_plays_4 rfl rfl ?_
  refine qg_11_20 C pi_249 tw_1073 dX12_plays_5 ?_
  refine q_bipush (v := 11) C dX12_plays_8 (by decide) ?_
  refine q_ialdk (jn := 11) C pa_259 (vp_of (by decide)) rfl dX12_plays_10 ?_
  refine q_aload_n C 1 dX12_plays_11 rfl rfl ?_
  refine q_iload_n C 2 dX12_plays_12 rfl rfl ?_
  obtain ⟨q1, h2, hF⟩ := bnd hF
  try dsimp only at hF
  refine q_callVi C [.int a1] (c_X12_cellOf l D ad ca kz C.2.2.2.2.2.2.1 _ _ _ _ h2) tw_1391 gm_X12_cellOf pi_249.1 (pe_11 pi_249.2) rfl ⟨rfl, rfl⟩ ⟨Nat.le_of_ble_eq_true rfl, Nat.le_of_ble_eq_true rfl⟩ rfl (Nat.le_of_ble_eq_true rfl) dX12_plays_13 q00 ?_
  obtain ⟨q3, h4, hF⟩ := bnd hF
  try dsimp only at hF
  refine q_callVv C [.int 0, .int (σ.1 259 11), .int q1.1] (c_X12_beginsTurn l D ad ca kz C.2.2.2.2.2.2.1 _ _ _ _ _ _ h4) tw_1594 gm_X12_beginsTurn pi_249.1 (pe_11 pi_249.2) rfl ⟨rfl, rfl⟩ ⟨Nat.le_of_ble_eq_true rfl, Nat.le_of_ble_eq_true rfl⟩ rfl (Nat.le_of_ble_eq_true rfl) dX12_plays_16 q00 ?_
  obtain ⟨o48, h49, hF⟩ := bnd hF
  try dsimp only at hF
  refine q_sub [1, 3, 0] rfl ?_
  refine l_X12_plays_19 C ⟨Nat.le_of_ble_eq_true rfl, Nat.le_of_ble_eq_true rfl⟩ o48 ?_ n _ _ _ h49
  exact q_vret C hr hlk dX12_plays_188 hF
-- X12_game
def F_X12_game (n : Nat) (a1 : Int32) (a2 : Int32) (a3 : Int32) (σ : PS) : Option (Int32 × PS) := (F_X12_isTent n a1 σ).bind (fun q1 => (if q1.1 = 0 then some ((-1 : Int32), q1.2) else (F_X12_in n a2.toInt64 (1 : Int64) (4 : Int64) q1.2).bind (fun q4 => (if q4.1 = 0 then some ((-1 : Int32), q4.2) else (F_X12_in n a3.toInt64 (0 : Int64) (1 : Int64) q4.2).bind (fun q7 => (if q7.1 = 0 then some ((-1 : Int32), q7.2) else (F_X12_plays n a1 a2 q7.2).bind (fun q10 => (if a3 = 0 then some ((q10.1 269 0), q10) else some ((q10.1 249 34), q10)))))))))
theorem gm_X12_game : gM "AskedCampModel" yX12_game (Cond.code yX12_game cX12_game 4 (Option.some Jvm.ClassFile.FieldType.int)) 3 := ⟨by decide +kernel, tw_1586, tw_1587, tw_12, tw_1588⟩
set_option maxHeartbeats 4000000 in
set_option maxRecDepth 100000 in
theorem c_X12_game (l : Launch) (D : va_G) (ad : Nat → Nat) (ca : Nat → ClassId) (kz : Nat → Nat) (hJ : pInj ad) (n : Nat) (a1 : Int32) (a2 : Int32) (a3 : Int32) (σ : PS) (out : Int32 × PS) (hF : F_X12_game n a1 a2 a3 σ = some out) : Met l yX12_game (Cond.code yX12_game cX12_game 4 (Option.some Jvm.ClassFile.FieldType.int) :: gw_tbl) { frames := 5, cells := 0, slots := 0, locals := 114 } (va_Pc [.ref (ad (249)), .int a1, .int a2, .int a3] (pU D ad ca kz σ)) (pQi D ad ca out) 0 0 (pAD ad) := by
  refine q_entry (own := "AskedCampModel") hJ (by decide) rfl (Nat.le_of_ble_eq_true rfl) (fun p e s m below meth c C hr hlk => ?_)
  refine q_lv [(0, .ref (ad (249))), (1, .int a1), (2, .int a2), (3, .int a3)] rfl ?_
  rw [F_X12_game] at hF
  refine q_aload_n C 0 dX12_game_0 rfl rfl ?_
  refine q_iload_n C 1 dX12_game_1 rfl rfl ?_
  obtain ⟨q1, h2, hF⟩ := bnd hF
  try dsimp only at hF
  refine q_callVi C [.int a1] (c_X12_isTent l D ad ca kz C.2.2.2.2.2.2.1 _ _ _ _ h2) tw_1369 gm_X12_isTent pi_249.1 (pe_11 pi_249.2) rfl ⟨rfl, rfl⟩ ⟨Nat.le_of_ble_eq_true rfl, Nat.le_of_ble_eq_true rfl⟩ rfl (Nat.le_of_ble_eq_true rfl) dX12_game_2 q00 ?_
  refine q_if_eq (tgt := 30) C dX12_game_5 (by decide) (fun c3 => ?_) (fun c3 => ?_)
  · replace hF := ift c3 hF
    refine q_iconst (v := -1) C dX12_game_30 (by decide) ?_
    exact q_iret C hr hlk dX12_game_31 hF
  · replace hF := ife c3 hF
    refine q_iload_n C 2 dX12_game_8 rfl rfl ?_
    refine q_i2l C dX12_game_9 ?_
    refine q_lconst (v := 1) C dX12_game_10 (by decide) ?_
    refine q_ldc2 C dX12_game_11 tw_1589 ?_
    obtain ⟨q4, h5, hF⟩ := bnd hF
    try dsimp only at hF
    refine q_callSi C [.long a2.toInt64, .long ((1 : Int64)), .long ((4 : Int64))] (c_X12_in l D ad ca kz C.2.2.2.2.2.2.1 _ _ _ _ _ _ h5) tw_1255 gm_X12_in ⟨rfl, rfl⟩ ⟨Nat.le_of_ble_eq_true rfl, Nat.le_of_ble_eq_true rfl⟩ rfl (Nat.le_of_ble_eq_true rfl) dX12_game_14 q00 ?_
    refine q_if_eq (tgt := 30) C dX12_game_17 (by decide) (fun c6 => ?_) (fun c6 => ?_)
    · replace hF := ift c6 hF
      refine q_iconst (v := -1) C dX12_game_30 (by decide) ?_
      exact q_iret C hr hlk dX12_game_31 hF
    · replace hF := ife c6 hF
      refine q_iload_n C 3 dX12_game_20 rfl rfl ?_
      refine q_i2l C dX12_game_21 ?_
      refine q_lconst (v := 0) C dX12_game_22 (by decide) ?_
      refine q_lconst (v := 1) C dX12_game_23 (by decide) ?_
      obtain ⟨q7, h8, hF⟩ := bnd hF
      try dsimp only at hF
      refine q_callSi C [.long a3.toInt64, .long ((0 : Int64)), .long ((1 : Int64))] (c_X12_in l D ad ca kz C.2.2.2.2.2.2.1 _ _ _ _ _ _ h8) tw_1255 gm_X12_in ⟨rfl, rfl⟩ ⟨Nat.le_of_ble_eq_true rfl, Nat.le_of_ble_eq_true rfl⟩ rfl (Nat.le_of_ble_eq_true rfl) dX12_game_24 q00 ?_
      refine q_if_ne (tgt := 32) C dX12_game_27 (by decide) (fun c9 => ?_) (fun c9 => ?_)
      · replace hF := ife c9 hF
        refine q_aload_n C 0 dX12_game_32 rfl rfl ?_
        refine q_iload_n C 1 dX12_game_33 rfl rfl ?_
        refine q_iload_n C 2 dX12_game_34 rfl rfl ?_
        obtain ⟨q10, h11, hF⟩ := bnd hF
        try dsimp only at hF
        refine q_callVv C [.int a1, .int a2] (c_X12_plays l D ad ca kz C.2.2.2.2.2.2.1 _ _ _ _ _ h11) tw_1590 gm_X12_plays pi_249.1 (pe_11 pi_249.2) rfl ⟨rfl, rfl⟩ ⟨Nat.le_of_ble_eq_true rfl, Nat.le_of_ble_eq_true rfl⟩ rfl (Nat.le_of_ble_eq_true rfl) dX12_game_35 q00 ?_
        refine q_iload_n C 3 dX12_game_38 rfl rfl ?_
        refine q_if_ne (tgt := 51) C dX12_game_39 (by decide) (fun c12 => ?_) (fun c12 => ?_)
        · replace hF := ife c12 hF
          refine q_aload_n C 0 dX12_game_51 rfl rfl ?_
          refine qg_11_34 C pi_249 tw_1087 dX12_game_52 ?_
          exact q_iret C hr hlk dX12_game_55 hF
        · replace hF := ift c12 hF
          refine q_aload_n C 0 dX12_game_42 rfl rfl ?_
          refine qg_11_33 C pi_249 tw_1086 dX12_game_43 ?_
          refine q_iconst (v := 0) C dX12_game_46 (by decide) ?_
          refine q_ialdk (jn := 0) C pa_269 (vp_of (by decide)) rfl dX12_game_47 ?_
          refine q_goto (tgt := 55) C dX12_game_48 (by decide) ?_
          exact q_iret C hr hlk dX12_game_55 hF
      · replace hF := ift c9 hF
        refine q_iconst (v := -1) C dX12_game_30 (by decide) ?_
        exact q_iret C hr hlk dX12_game_31 hF
-- X12_hide
def L_X12_hide_52 (n : Nat) : Nat → Int32 → Int32 → Int32 → Int32 → Int32 → Int32 → Int32 → PS → Option (Int32 × Int32 × Int32 × PS)
  | 0, _, _, _, _, _, _, _, _ => none
  | k + 1, x1, x2, x3, x4, x5, x6, x7, σ => (F_X12_cells n σ).bind (fun q14 => (if q14.1 ≤ x7 then some (x3, x5, x6, q14.2) else (if 0 ≤ ((13 : Int32) + ((4 : Int32) * x1)) ∧ ((13 : Int32) + ((4 : Int32) * x1)).toNatClampNeg < 179 then (F_X12_passesAll n x2 (psI q14.2 259 (((13 : Int32) + ((4 : Int32) * x1)).toNatClampNeg) x7)).bind (fun q18 => (F_X12_askedOf n x1 q18).bind (fun q20 => (F_X12_laysBack n q20.2).bind (fun q22 => (if x5 < 0 then L_X12_hide_52 n k x1 x2 x3 x4 x7 (q20.1 - x4) (x7 + 1) q22 else (if (q20.1 - x4) < x6 then L_X12_hide_52 n k x1 x2 x3 x4 x7 (q20.1 - x4) (x7 + 1) q22 else L_X12_hide_52 n k x1 x2 x3 x4 x5 x6 (x7 + 1) q22))))) else none)))
def F_X12_hide (n : Nat) (a1 : Int32) (a2 : Int32) (a3 : Int32) (σ : PS) : Option (Int32 × PS) := (F_X12_isTent n a1 σ).bind (fun q1 => (if q1.1 = 0 then some ((-1 : Int32), q1.2) else (F_X12_in n a2.toInt64 (1 : Int64) (30 : Int64) q1.2).bind (fun q4 => (if q4.1 = 0 then some ((-1 : Int32), q4.2) else (F_X12_in n a3.toInt64 (0 : Int64) (1 : Int64) q4.2).bind (fun q7 => (if q7.1 = 0 then some ((-1 : Int32), q7.2) else (F_X12_askedOf n a1 q7.2).bind (fun q10 => (F_X12_keeps n q10.2).bind (fun q12 => (L_X12_hide_52 n n a1 a2 a3 q10.1 (-1 : Int32) (-1 : Int32) (0 : Int32) q12).bind (fun o26 => (if o26.1 = 0 then some (o26.2.1, o26.2.2.2) else some (o26.2.2.1, o26.2.2.2)))))))))))
theorem gm_X12_hide : gM "AskedCampModel" yX12_hide (Cond.code yX12_hide cX12_hide 9 (Option.some Jvm.ClassFile.FieldType.int)) 3 := ⟨by decide +kernel, tw_1568, tw_1569, tw_12, tw_1570⟩
set_option maxHeartbeats 4000000 in
set_option maxRecDepth 100000 in
theorem l_X12_hide_52 {p : Program} {l : Launch} {e : Env} {R : Room} {s : State} {m : MethodId} {args : Array Value} {below : List Frame} {meth : Method} {c : Code} {D : va_G} {ad : Nat → Nat} {ca : Nat → ClassId} {kz : Nat → Nat} {Q : State → Prop} (C : pC p s m args c cX12_hide "AskedCampModel" 9 D ad ca kz) (hR : 8 ≤ R.frames ∧ 188 ≤ R.locals) {n : Nat} (o : Int32 × Int32 × Int32 × PS) (hx0 : PW p l e R s m args below meth c 9 D ad ca 0 0 Q (o.2.2.2) 122 [(3, .int o.1), (5, .int o.2.1), (6, .int o.2.2.1)] []) : ∀ (k : Nat) (x1 : Int32) (x2 : Int32) (x3 : Int32) (x4 : Int32) (x5 : Int32) (x6 : Int32) (x7 : Int32) (σ : PS), L_X12_hide_52 n k x1 x2 x3 x4 x5 x6 x7 σ = some o → PW p l e R s m args below meth c 9 D ad ca 0 0 Q σ 52 [(0, .ref (ad (249))), (1, .int x1), (2, .int x2), (3, .int x3), (4, .int x4), (5, .int x5), (6, .int x6), (7, .int x7)] [] := by
  intro k
  induction k with
  | zero => intro x1 x2 x3 x4 x5 x6 x7 σ hF; exact nomatch (show (none : Option (Int32 × Int32 × Int32 × PS)) = some o from hF)
  | succ k ih =>
    intro x1 x2 x3 x4 x5 x6 x7 σ hF
    rw [L_X12_hide_52] at hF
    refine q_iload C 7 dX12_hide_52 rfl ?_
    refine q_aload_n C 0 dX12_hide_54 rfl rfl ?_
    obtain ⟨q14, h15, hF⟩ := bnd hF
    try dsimp only at hF
    refine q_callVi C [] (c_X12_cells l D ad ca kz C.2.2.2.2.2.2.1 _ _ _ h15) tw_1382 gm_X12_cells pi_249.1 (pe_11 pi_249.2) rfl ⟨rfl, rfl⟩ ⟨Nat.le_trans (Nat.le_of_ble_eq_true rfl) hR.1, Nat.le_trans (Nat.le_of_ble_eq_true rfl) hR.2⟩ rfl (Nat.le_of_ble_eq_true rfl) dX12_hide_55 q00 ?_
    refine q_icmp_ge (tgt := 122) C dX12_hide_58 (by decide) (fun c16 => ?_) (fun c16 => ?_)
    · replace hF := ift c16 hF
      cases hF
      refine q_sub [3, 5, 6] rfl ?_
      exact hx0
    · replace hF := ife c16 hF
      refine q_aload_n C 0 dX12_hide_61 rfl rfl ?_
      refine qg_11_20 C pi_249 tw_1073 dX12_hide_62 ?_
      refine q_bipush (v := 13) C dX12_hide_65 (by decide) ?_
      refine q_iconst (v := 4) C dX12_hide_67 (by decide) ?_
      refine q_iload_n C 1 dX12_hide_68 rfl rfl ?_
      refine q_imul C dX12_hide_69 ?_
      refine q_iadd C dX12_hide_70 ?_
      refine q_iload C 7 dX12_hide_71 rfl ?_
      obtain ⟨g17, hF⟩ := grd hF
      refine q_iast C pa_259 (vp_of g17) dX12_hide_73 ?_
      refine q_aload_n C 0 dX12_hide_74 rfl rfl ?_
      refine q_iload_n C 2 dX12_hide_75 rfl rfl ?_
      obtain ⟨q18, h19, hF⟩ := bnd hF
      try dsimp only at hF
      refine q_callVv C [.int x2] (c_X12_passesAll l D ad ca kz C.2.2.2.2.2.2.1 _ _ _ _ h19) tw_1518 gm_X12_passesAll pi_249.1 (pe_11 pi_249.2) rfl ⟨rfl, rfl⟩ ⟨Nat.le_trans (Nat.le_of_ble_eq_true rfl) hR.1, Nat.le_trans (Nat.le_of_ble_eq_true rfl) hR.2⟩ rfl (Nat.le_of_ble_eq_true rfl) dX12_hide_76 q00 ?_
      refine q_aload_n C 0 dX12_hide_79 rfl rfl ?_
      refine q_iload_n C 1 dX12_hide_80 rfl rfl ?_
      obtain ⟨q20, h21, hF⟩ := bnd hF
      try dsimp only at hF
      refine q_callVi C [.int x1] (c_X12_askedOf l D ad ca kz C.2.2.2.2.2.2.1 _ _ _ _ h21) tw_1435 gm_X12_askedOf pi_249.1 (pe_11 pi_249.2) rfl ⟨rfl, rfl⟩ ⟨Nat.le_trans (Nat.le_of_ble_eq_true rfl) hR.1, Nat.le_trans (Nat.le_of_ble_eq_true rfl) hR.2⟩ rfl (Nat.le_of_ble_eq_true rfl) dX12_hide_81 q00 ?_
      refine q_iload C 4 dX12_hide_84 rfl ?_
      refine q_isub C dX12_hide_86 ?_
      refine q_istore C [(8, .int (q20.1 - x4)), (0, .ref (ad (249))), (1, .int x1), (2, .int x2), (3, .int x3), (4, .int x4), (5, .int x5), (6, .int x6), (7, .int x7)] dX12_hide_87 (by decide) rfl ?_
      refine q_aload_n C 1 dX12_hide_89 rfl rfl ?_
      obtain ⟨q22, h23, hF⟩ := bnd hF
      try dsimp only at hF
      refine q_callVv C [] (c_X12_laysBack l D ad ca kz C.2.2.2.2.2.2.1 _ _ _ h23) tw_1526 gm_X12_laysBack pi_249.1 (pe_11 pi_249.2) rfl ⟨rfl, rfl⟩ ⟨Nat.le_trans (Nat.le_of_ble_eq_true rfl) hR.1, Nat.le_trans (Nat.le_of_ble_eq_true rfl) hR.2⟩ rfl (Nat.le_of_ble_eq_true rfl) dX12_hide_90 q00 ?_
      refine q_iload C 6 dX12_hide_93 rfl ?_
      refine q_if_lt (tgt := 108) C dX12_hide_95 (by decide) (fun c24 => ?_) (fun c24 => ?_)
      · replace hF := ift c24 hF
        refine q_iload C 8 dX12_hide_108 rfl ?_
        refine q_istore C [(5, .int x7), (8, .int (q20.1 - x4)), (0, .ref (ad (249))), (1, .int x1), (2, .int x2), (3, .int x3), (4, .int x4), (6, .int x6), (7, .int x7)] dX12_hide_110 (by decide) rfl ?_
        refine q_iload C 1 dX12_hide_112 rfl ?_
        refine q_istore C [(6, .int (q20.1 - x4)), (5, .int x7), (8, .int (q20.1 - x4)), (0, .ref (ad (249))), (1, .int x1), (2, .int x2), (3, .int x3), (4, .int x4), (7, .int x7)] dX12_hide_114 (by decide) rfl ?_
        refine q_iinc C 8 [(7, .int (x7 + 1)), (6, .int (q20.1 - x4)), (5, .int x7), (8, .int (q20.1 - x4)), (0, .ref (ad (249))), (1, .int x1), (2, .int x2), (3, .int x3), (4, .int x4)] dX12_hide_116 rfl rfl (by decide) rfl ?_
        refine q_goto (tgt := 52) C dX12_hide_119 (by decide) ?_
        refine q_sub [4, 5, 6, 7, 8, 2, 1, 0] rfl ?_
        exact ih _ _ _ _ _ _ _ _ hF
      · replace hF := ife c24 hF
        refine q_iload C 0 dX12_hide_98 rfl ?_
        refine q_iload C 7 dX12_hide_100 rfl ?_
        refine q_icmp_lt (tgt := 108) C dX12_hide_102 (by decide) (fun c25 => ?_) (fun c25 => ?_)
        · replace hF := ift c25 hF
          refine q_iload C 8 dX12_hide_108 rfl ?_
          refine q_istore C [(5, .int x7), (8, .int (q20.1 - x4)), (0, .ref (ad (249))), (1, .int x1), (2, .int x2), (3, .int x3), (4, .int x4), (6, .int x6), (7, .int x7)] dX12_hide_110 (by decide) rfl ?_
          refine q_iload C 1 dX12_hide_112 rfl ?_
          refine q_istore C [(6, .int (q20.1 - x4)), (5, .int x7), (8, .int (q20.1 - x4)), (0, .ref (ad (249))), (1, .int x1), (2, .int x2), (3, .int x3), (4, .int x4), (7, .int x7)] dX12_hide_114 (by decide) rfl ?_
          refine q_iinc C 8 [(7, .int (x7 + 1)), (6, .int (q20.1 - x4)), (5, .int x7), (8, .int (q20.1 - x4)), (0, .ref (ad (249))), (1, .int x1), (2, .int x2), (3, .int x3), (4, .int x4)] dX12_hide_116 rfl rfl (by decide) rfl ?_
          refine q_goto (tgt := 52) C dX12_hide_119 (by decide) ?_
          refine q_sub [4, 5, 6, 7, 8, 2, 1, 0] rfl ?_
          exact ih _ _ _ _ _ _ _ _ hF
        · replace hF := ife c25 hF
          refine q_goto (tgt := 116) C dX12_hide_105 (by decide) ?_
          refine q_iinc C 8 [(7, .int (x7 + 1)), (8, .int (q20.1 - x4)), (0, .ref (ad (249))), (1, .int x1), (2, .int x2), (3, .int x3), (4, .int x4), (5, .int x5), (6, .int x6)] dX12_hide_116 rfl rfl (by decide) rfl ?_
          refine q_goto (tgt := 52) C dX12_hide_119 (by decide) ?_
          refine q_sub [2, 3, 4, 5, 6, 7, 8, 0] rfl ?_
          exact ih _ _ _ _ _ _ _ _ hF
set_option maxHeartbeats 4000000 in
set_option maxRecDepth 100000 in
theorem c_X12_hide (l : Launch) (D : va_G) (ad : Nat → Nat) (ca : Nat → ClassId) (kz : Nat → Nat) (hJ : pInj ad) (n : Nat) (a1 : Int32) (a2 : Int32) (a3 : Int32) (σ : PS) (out : Int32 × PS) (hF : F_X12_hide n a1 a2 a3 σ = some out) : Met l yX12_hide (Cond.code yX12_hide cX12_hide 9 (Option.some Jvm.ClassFile.FieldType.int) :: gw_tbl) { frames := 8, cells := 0, slots := 0, locals := 188 } (va_Pc [.ref (ad (249)), .int a1, .int a2, .int a3] (pU D ad ca kz σ)) (pQi D ad ca out) 0 0 (pAD ad) := by
  refine q_entry (own := "AskedCampModel") hJ (by decide) rfl (Nat.le_of_ble_eq_true rfl) (fun p e s m below meth c C hr hlk => ?_)
  refine q_lv [(0, .ref (ad (249))), (1, .int a1), (2, .int a2), (3, .int a3)] rfl ?_
  rw [F_X12_hide] at hF
  refine q_aload_n C 0 dX12_hide_0 rfl rfl ?_
  refine q_iload_n C 1 dX12_hide_1 rfl rfl ?_
  obtain ⟨q1, h2, hF⟩ := bnd hF
  try dsimp only at hF
  refine q_callVi C [.int a1] (c_X12_isTent l D ad ca kz C.2.2.2.2.2.2.1 _ _ _ _ h2) tw_1369 gm_X12_isTent pi_249.1 (pe_11 pi_249.2) rfl ⟨rfl, rfl⟩ ⟨Nat.le_of_ble_eq_true rfl, Nat.le_of_ble_eq_true rfl⟩ rfl (Nat.le_of_ble_eq_true rfl) dX12_hide_2 q00 ?_
  refine q_if_eq (tgt := 30) C dX12_hide_5 (by decide) (fun c3 => ?_) (fun c3 => ?_)
  · replace hF := ift c3 hF
    refine q_iconst (v := -1) C dX12_hide_30 (by decide) ?_
    exact q_iret C hr hlk dX12_hide_31 hF
  · replace hF := ife c3 hF
    refine q_iload_n C 2 dX12_hide_8 rfl rfl ?_
    refine q_i2l C dX12_hide_9 ?_
    refine q_lconst (v := 1) C dX12_hide_10 (by decide) ?_
    refine q_ldc2 C dX12_hide_11 tw_1571 ?_
    obtain ⟨q4, h5, hF⟩ := bnd hF
    try dsimp only at hF
    refine q_callSi C [.long a2.toInt64, .long ((1 : Int64)), .long ((30 : Int64))] (c_X12_in l D ad ca kz C.2.2.2.2.2.2.1 _ _ _ _ _ _ h5) tw_1255 gm_X12_in ⟨rfl, rfl⟩ ⟨Nat.le_of_ble_eq_true rfl, Nat.le_of_ble_eq_true rfl⟩ rfl (Nat.le_of_ble_eq_true rfl) dX12_hide_14 q00 ?_
    refine q_if_eq (tgt := 30) C dX12_hide_17 (by decide) (fun c6 => ?_) (fun c6 => ?_)
    · replace hF := ift c6 hF
      refine q_iconst (v := -1) C dX12_hide_30 (by decide) ?_
      exact q_iret C hr hlk dX12_hide_31 hF
    · replace hF := ife c6 hF
      refine q_iload_n C 3 dX12_hide_20 rfl rfl ?_
      refine q_i2l C dX12_hide_21 ?_
      refine q_lconst (v := 0) C dX12_hide_22 (by decide) ?_
      refine q_lconst (v := 1) C dX12_hide_23 (by decide) ?_
      obtain ⟨q7, h8, hF⟩ := bnd hF
      try dsimp only at hF
      refine q_callSi C [.long a3.toInt64, .long ((0 : Int64)), .long ((1 : Int64))] (c_X12_in l D ad ca kz C.2.2.2.2.2.2.1 _ _ _ _ _ _ h8) tw_1255 gm_X12_in ⟨rfl, rfl⟩ ⟨Nat.le_of_ble_eq_true rfl, Nat.le_of_ble_eq_true rfl⟩ rfl (Nat.le_of_ble_eq_true rfl) dX12_hide_24 q00 ?_
      refine q_if_ne (tgt := 32) C dX12_hide_27 (by decide) (fun c9 => ?_) (fun c9 => ?_)
      · replace hF := ife c9 hF
        refine q_aload_n C 0 dX12_hide_32 rfl rfl ?_
        refine q_iload_n C 1 dX12_hide_33 rfl rfl ?_
        obtain ⟨q10, h11, hF⟩ := bnd hF
        try dsimp only at hF
        refine q_callVi C [.int a1] (c_X12_askedOf l D ad ca kz C.2.2.2.2.2.2.1 _ _ _ _ h11) tw_1435 gm_X12_askedOf pi_249.1 (pe_11 pi_249.2) rfl ⟨rfl, rfl⟩ ⟨Nat.le_of_ble_eq_true rfl, Nat.le_of_ble_eq_true rfl⟩ rfl (Nat.le_of_ble_eq_true rfl) dX12_hide_34 q00 ?_
        refine q_istore C [(4, .int q10.1), (0, .ref (ad (249))), (1, .int a1), (2, .int a2), (3, .int a3)] dX12_hide_37 (by decide) rfl ?_
        refine q_iconst (v := -1) C dX12_hide_39 (by decide) ?_
        refine q_istore C [(5, .int (-1)), (4, .int q10.1), (0, .ref (ad (249))), (1, .int a1), (2, .int a2), (3, .int a3)] dX12_hide_40 (by decide) rfl ?_
        refine q_iconst (v := -1) C dX12_hide_42 (by decide) ?_
        refine q_istore C [(6, .int (-1)), (5, .int (-1)), (4, .int q10.1), (0, .ref (ad (249))), (1, .int a1), (2, .int a2), (3, .int a3)] dX12_hide_43 (by decide) rfl ?_
        refine q_aload_n C 3 dX12_hide_45 rfl rfl ?_
        obtain ⟨q12, h13, hF⟩ := bnd hF
        try dsimp only at hF
        refine q_callVv C [] (c_X12_keeps l D ad ca kz C.2.2.2.2.2.2.1 _ _ _ h13) tw_1514 gm_X12_keeps pi_249.1 (pe_11 pi_249.2) rfl ⟨rfl, rfl⟩ ⟨Nat.le_of_ble_eq_true rfl, Nat.le_of_ble_eq_true rfl⟩ rfl (Nat.le_of_ble_eq_true rfl) dX12_hide_46 q00 ?_
        refine q_iconst (v := 0) C dX12_hide_49 (by decide) ?_
        refine q_istore C [(7, .int 0), (6, .int (-1)), (5, .int (-1)), (4, .int q10.1), (0, .ref (ad (249))), (1, .int a1), (2, .int a2), (3, .int a3)] dX12_hide_50 (by decide) rfl ?_
        obtain ⟨o26, h27, hF⟩ := bnd hF
        try dsimp only at hF
        refine q_sub [4, 5, 6, 7, 3, 2, 1, 0] rfl ?_
        refine l_X12_hide_52 C ⟨Nat.le_of_ble_eq_true rfl, Nat.le_of_ble_eq_true rfl⟩ o26 ?_ n _ _ _ _ _ _ _ _ h27
        refine q_iload_n C 0 dX12_hide_122 rfl rfl ?_
        refine q_if_ne (tgt := 131) C dX12_hide_123 (by decide) (fun c28 => ?_) (fun c28 => ?_)
        · replace hF := ife c28 hF
          refine q_iload C 2 dX12_hide_131 rfl ?_
          exact q_iret C hr hlk dX12_hide_133 hF
        · replace hF := ift c28 hF
          refine q_iload C 1 dX12_hide_126 rfl ?_
          refine q_goto (tgt := 133) C dX12_hide_128 (by decide) ?_
          exact q_iret C hr hlk dX12_hide_133 hF
      · replace hF := ift c9 hF
        refine q_iconst (v := -1) C dX12_hide_30 (by decide) ?_
        exact q_iret C hr hlk dX12_hide_31 hF
-- X12_image
def L_X12_image_43 (n : Nat) : Nat → Int32 → Int32 → PS → Option (PS)
  | 0, _, _, _ => none
  | k + 1, x1, x2, σ => (if (179 : Int32) ≤ x2 then some σ else (if 0 ≤ x2 ∧ x2.toNatClampNeg < 179 then (if 0 ≤ (((179 : Int32) * x1) + x2) ∧ (((179 : Int32) * x1) + x2).toNatClampNeg < 716 then L_X12_image_43 n k x1 (x2 + 1) (psI σ 273 ((((179 : Int32) * x1) + x2).toNatClampNeg) (σ.1 259 x2.toNatClampNeg)) else none) else none))
def F_X12_image (n : Nat) (a1 : Int32) (σ : PS) : Option (Int32 × PS) := (F_X12_in n a1.toInt64 (0 : Int64) (3 : Int64) σ).bind (fun q1 => (if q1.1 = 0 then some ((-1 : Int32), q1.2) else (if 0 ≤ a1 ∧ a1.toNatClampNeg < 4 then (L_X12_image_43 n n a1 (0 : Int32) (psI (psI (psI q1.2 276 a1.toNatClampNeg (vp_nar .boolean (1 : Int32))) 274 a1.toNatClampNeg ((psI q1.2 276 a1.toNatClampNeg (vp_nar .boolean (1 : Int32))).1 249 21)) 275 a1.toNatClampNeg ((psI (psI q1.2 276 a1.toNatClampNeg (vp_nar .boolean (1 : Int32))) 274 a1.toNatClampNeg ((psI q1.2 276 a1.toNatClampNeg (vp_nar .boolean (1 : Int32))).1 249 21)).1 249 22))).bind (fun o8 => some ((o8.1 259 10), o8)) else none)))
theorem gm_X12_image : gM "AskedCampModel" yX12_image (Cond.code yX12_image cX12_image 3 (Option.some Jvm.ClassFile.FieldType.int)) 1 := ⟨by decide +kernel, tw_1672, tw_1673, tw_12, tw_1674⟩
set_option maxHeartbeats 4000000 in
set_option maxRecDepth 100000 in
theorem l_X12_image_43 {p : Program} {l : Launch} {e : Env} {R : Room} {s : State} {m : MethodId} {args : Array Value} {below : List Frame} {meth : Method} {c : Code} {D : va_G} {ad : Nat → Nat} {ca : Nat → ClassId} {kz : Nat → Nat} {Q : State → Prop} (C : pC p s m args c cX12_image "AskedCampModel" 3 D ad ca kz) (hR : 1 ≤ R.frames ∧ 25 ≤ R.locals) {n : Nat} (o : PS) (hx0 : PW p l e R s m args below meth c 3 D ad ca 0 0 Q (o) 74 [(0, .ref (ad (249)))] []) : ∀ (k : Nat) (x1 : Int32) (x2 : Int32) (σ : PS), L_X12_image_43 n k x1 x2 σ = some o → PW p l e R s m args below meth c 3 D ad ca 0 0 Q σ 43 [(0, .ref (ad (249))), (1, .int x1), (2, .int x2)] [] := by
  intro k
  induction k with
  | zero => intro x1 x2 σ hF; exact nomatch (show (none : Option (PS)) = some o from hF)
  | succ k ih =>
    intro x1 x2 σ hF
    rw [L_X12_image_43] at hF
    refine q_iload_n C 2 dX12_image_43 rfl rfl ?_
    refine q_sipush (v := 179) C dX12_image_44 (by decide) ?_
    refine q_icmp_ge (tgt := 74) C dX12_image_47 (by decide) (fun c5 => ?_) (fun c5 => ?_)
    · replace hF := ift c5 hF
      cases hF
      refine q_sub [0] rfl ?_
      exact hx0
    · replace hF := ife c5 hF
      refine q_aload_n C 0 dX12_image_50 rfl rfl ?_
      refine qg_11_39 C pi_249 tw_1092 dX12_image_51 ?_
      refine q_sipush (v := 179) C dX12_image_54 (by decide) ?_
      refine q_iload_n C 1 dX12_image_57 rfl rfl ?_
      refine q_imul C dX12_image_58 ?_
      refine q_iload_n C 2 dX12_image_59 rfl rfl ?_
      refine q_iadd C dX12_image_60 ?_
      refine q_aload_n C 0 dX12_image_61 rfl rfl ?_
      refine qg_11_20 C pi_249 tw_1073 dX12_image_62 ?_
      refine q_iload_n C 2 dX12_image_65 rfl rfl ?_
      obtain ⟨g6, hF⟩ := grd hF
      refine q_iald C pa_259 (vp_of g6) dX12_image_66 ?_
      obtain ⟨g7, hF⟩ := grd hF
      refine q_iast C pa_273 (vp_of g7) dX12_image_67 ?_
      refine q_iinc C 2 [(2, .int (x2 + 1)), (0, .ref (ad (249))), (1, .int x1)] dX12_image_68 rfl rfl (by decide) rfl ?_
      refine q_goto (tgt := 43) C dX12_image_71 (by decide) ?_
      refine q_sub [1, 2, 0] rfl ?_
      exact ih _ _ _ hF
set_option maxHeartbeats 4000000 in
set_option maxRecDepth 100000 in
theorem c_X12_image (l : Launch) (D : va_G) (ad : Nat → Nat) (ca : Nat → ClassId) (kz : Nat → Nat) (hJ : pInj ad) (n : Nat) (a1 : Int32) (σ : PS) (out : Int32 × PS) (hF : F_X12_image n a1 σ = some out) : Met l yX12_image (Cond.code yX12_image cX12_image 3 (Option.some Jvm.ClassFile.FieldType.int) :: gw_tbl) { frames := 1, cells := 0, slots := 0, locals := 25 } (va_Pc [.ref (ad (249)), .int a1] (pU D ad ca kz σ)) (pQi D ad ca out) 0 0 (pAD ad) := by
  refine q_entry (own := "AskedCampModel") hJ (by decide) rfl (Nat.le_of_ble_eq_true rfl) (fun p e s m below meth c C hr hlk => ?_)
  refine q_lv [(0, .ref (ad (249))), (1, .int a1)] rfl ?_
  rw [F_X12_image] at hF
  refine q_iload_n C 1 dX12_image_0 rfl rfl ?_
  refine q_i2l C dX12_image_1 ?_
  refine q_lconst (v := 0) C dX12_image_2 (by decide) ?_
  refine q_ldc2 C dX12_image_3 tw_1373 ?_
  obtain ⟨q1, h2, hF⟩ := bnd hF
  try dsimp only at hF
  refine q_callSi C [.long a1.toInt64, .long ((0 : Int64)), .long ((3 : Int64))] (c_X12_in l D ad ca kz C.2.2.2.2.2.2.1 _ _ _ _ _ _ h2) tw_1255 gm_X12_in ⟨rfl, rfl⟩ ⟨Nat.le_of_ble_eq_true rfl, Nat.le_of_ble_eq_true rfl⟩ rfl (Nat.le_of_ble_eq_true rfl) dX12_image_6 q00 ?_
  refine q_if_ne (tgt := 14) C dX12_image_9 (by decide) (fun c3 => ?_) (fun c3 => ?_)
  · replace hF := ife c3 hF
    refine q_aload_n C 0 dX12_image_14 rfl rfl ?_
    refine qg_11_42 C pi_249 tw_1095 dX12_image_15 ?_
    refine q_iload_n C 1 dX12_image_18 rfl rfl ?_
    refine q_iconst (v := 1) C dX12_image_19 (by decide) ?_
    obtain ⟨g4, hF⟩ := grd hF
    refine q_zast C pa_276 (vp_of g4) dX12_image_20 ?_
    refine q_aload_n C 0 dX12_image_21 rfl rfl ?_
    refine qg_11_40 C pi_249 tw_1093 dX12_image_22 ?_
    refine q_iload_n C 1 dX12_image_25 rfl rfl ?_
    refine q_aload_n C 0 dX12_image_26 rfl rfl ?_
    refine qg_11_21 C pi_249 tw_1074 dX12_image_27 ?_
    refine q_iast C pa_274 (vp_of g4) dX12_image_30 ?_
    refine q_aload_n C 0 dX12_image_31 rfl rfl ?_
    refine qg_11_41 C pi_249 tw_1094 dX12_image_32 ?_
    refine q_iload_n C 1 dX12_image_35 rfl rfl ?_
    refine q_aload_n C 0 dX12_image_36 rfl rfl ?_
    refine qg_11_22 C pi_249 tw_1075 dX12_image_37 ?_
    refine q_iast C pa_275 (vp_of g4) dX12_image_40 ?_
    refine q_iconst (v := 0) C dX12_image_41 (by decide) ?_
    refine q_istore_n C [(2, .int 0), (0, .ref (ad (249))), (1, .int a1)] dX12_image_42 rfl (by decide) rfl ?_
    obtain ⟨o8, h9, hF⟩ := bnd hF
    try dsimp only at hF
    refine q_sub [1, 2, 0] rfl ?_
    refine l_X12_image_43 C ⟨Nat.le_of_ble_eq_true rfl, Nat.le_of_ble_eq_true rfl⟩ o8 ?_ n _ _ _ h9
    refine q_aload_n C 0 dX12_image_74 rfl rfl ?_
    refine qg_11_20 C pi_249 tw_1073 dX12_image_75 ?_
    refine q_bipush (v := 10) C dX12_image_78 (by decide) ?_
    refine q_ialdk (jn := 10) C pa_259 (vp_of (by decide)) rfl dX12_image_80 ?_
    exact q_iret C hr hlk dX12_image_81 hF
  · replace hF := ift c3 hF
    refine q_iconst (v := -1) C dX12_image_12 (by decide) ?_
    exact q_iret C hr hlk dX12_image_13 hF
-- X12_knowsAll
def L_X12_knowsAll_51 (n : Nat) : Nat → Int32 → Int32 → Int32 → Int32 → PS → Option (Int32 × PS)
  | 0, _, _, _, _, _ => none
  | k + 1, x1, x2, x3, x4, σ => (if (200 : Int32) ≤ x4 then some (x3, σ) else (if 0 ≤ x3 then some (x3, σ) else (F_X12_passes n σ).bind (fun q11 => (F_X12_knownBy n x1 q11.2).bind (fun q13 => (if q13.1 = x2 then L_X12_knowsAll_51 n k x1 x2 ((q13.2.1 259 10) - (1 : Int32)) (x4 + 1) q13.2 else L_X12_knowsAll_51 n k x1 x2 x3 (x4 + 1) q13.2)))))
def F_X12_knowsAll (n : Nat) (a1 : Int32) (σ : PS) : Option (Int32 × PS) := (F_X12_isTent n a1 σ).bind (fun q1 => (if q1.1 = 0 then some ((-3 : Int32), q1.2) else (F_X12_knownBy n a1 q1.2).bind (fun q4 => (if q4.1 = (((1 : Int32) <<< ((q1.2.1 259 2) &&& 31)) - (1 : Int32)) then some (((q4.2.1 259 10) - (1 : Int32)), q4.2) else (F_X12_keeps n q4.2).bind (fun q7 => (L_X12_knowsAll_51 n n a1 (((1 : Int32) <<< ((q1.2.1 259 2) &&& 31)) - (1 : Int32)) (-2 : Int32) (0 : Int32) q7).bind (fun o16 => (F_X12_laysBack n o16.2).bind (fun q18 => some (o16.1, q18))))))))
theorem gm_X12_knowsAll : gM "AskedCampModel" yX12_knowsAll (Cond.code yX12_knowsAll cX12_knowsAll 5 (Option.some Jvm.ClassFile.FieldType.int)) 1 := ⟨by decide +kernel, tw_1544, tw_1545, tw_12, tw_1546⟩
set_option maxHeartbeats 4000000 in
set_option maxRecDepth 100000 in
theorem l_X12_knowsAll_51 {p : Program} {l : Launch} {e : Env} {R : Room} {s : State} {m : MethodId} {args : Array Value} {below : List Frame} {meth : Method} {c : Code} {D : va_G} {ad : Nat → Nat} {ca : Nat → ClassId} {kz : Nat → Nat} {Q : State → Prop} (C : pC p s m args c cX12_knowsAll "AskedCampModel" 5 D ad ca kz) (hR : 7 ≤ R.frames ∧ 166 ≤ R.locals) {n : Nat} (o : Int32 × PS) (hx0 : PW p l e R s m args below meth c 5 D ad ca 0 0 Q (o.2) 93 [(0, .ref (ad (249))), (3, .int o.1)] []) : ∀ (k : Nat) (x1 : Int32) (x2 : Int32) (x3 : Int32) (x4 : Int32) (σ : PS), L_X12_knowsAll_51 n k x1 x2 x3 x4 σ = some o → PW p l e R s m args below meth c 5 D ad ca 0 0 Q σ 51 [(0, .ref (ad (249))), (1, .int x1), (2, .int x2), (3, .int x3), (4, .int x4)] [] := by
  intro k
  induction k with
  | zero => intro x1 x2 x3 x4 σ hF; exact nomatch (show (none : Option (Int32 × PS)) = some o from hF)
  | succ k ih =>
    intro x1 x2 x3 x4 σ hF
    rw [L_X12_knowsAll_51] at hF
    refine q_iload C 4 dX12_knowsAll_51 rfl ?_
    refine q_sipush (v := 200) C dX12_knowsAll_53 (by decide) ?_
    refine q_icmp_ge (tgt := 93) C dX12_knowsAll_56 (by decide) (fun c9 => ?_) (fun c9 => ?_)
    · replace hF := ift c9 hF
      cases hF
      refine q_sub [0, 3] rfl ?_
      exact hx0
    · replace hF := ife c9 hF
      refine q_iload_n C 3 dX12_knowsAll_59 rfl rfl ?_
      refine q_if_ge (tgt := 93) C dX12_knowsAll_60 (by decide) (fun c10 => ?_) (fun c10 => ?_)
      · replace hF := ift c10 hF
        cases hF
        refine q_sub [0, 3] rfl ?_
        exact hx0
      · replace hF := ife c10 hF
        refine q_aload_n C 0 dX12_knowsAll_63 rfl rfl ?_
        obtain ⟨q11, h12, hF⟩ := bnd hF
        try dsimp only at hF
        refine q_callVi C [] (c_X12_passes l D ad ca kz C.2.2.2.2.2.2.1 _ _ _ h12) tw_1411 gm_X12_passes pi_249.1 (pe_11 pi_249.2) rfl ⟨rfl, rfl⟩ ⟨Nat.le_trans (Nat.le_of_ble_eq_true rfl) hR.1, Nat.le_trans (Nat.le_of_ble_eq_true rfl) hR.2⟩ rfl (Nat.le_of_ble_eq_true rfl) dX12_knowsAll_64 q00 ?_
        refine q_pop C dX12_knowsAll_67 rfl ?_
        refine q_aload_n C 0 dX12_knowsAll_68 rfl rfl ?_
        refine q_iload_n C 1 dX12_knowsAll_69 rfl rfl ?_
        obtain ⟨q13, h14, hF⟩ := bnd hF
        try dsimp only at hF
        refine q_callVi C [.int x1] (c_X12_knownBy l D ad ca kz C.2.2.2.2.2.2.1 _ _ _ _ h14) tw_1522 gm_X12_knownBy pi_249.1 (pe_11 pi_249.2) rfl ⟨rfl, rfl⟩ ⟨Nat.le_trans (Nat.le_of_ble_eq_true rfl) hR.1, Nat.le_trans (Nat.le_of_ble_eq_true rfl) hR.2⟩ rfl (Nat.le_of_ble_eq_true rfl) dX12_knowsAll_70 q00 ?_
        refine q_iload_n C 2 dX12_knowsAll_73 rfl rfl ?_
        refine q_icmp_ne (tgt := 87) C dX12_knowsAll_74 (by decide) (fun c15 => ?_) (fun c15 => ?_)
        · replace hF := ife c15 hF
          refine q_iinc C 4 [(4, .int (x4 + 1)), (0, .ref (ad (249))), (1, .int x1), (2, .int x2), (3, .int x3)] dX12_knowsAll_87 rfl rfl (by decide) rfl ?_
          refine q_goto (tgt := 51) C dX12_knowsAll_90 (by decide) ?_
          refine q_sub [1, 2, 3, 4, 0] rfl ?_
          exact ih _ _ _ _ _ hF
        · replace hF := ift c15 hF
          refine q_aload_n C 0 dX12_knowsAll_77 rfl rfl ?_
          refine qg_11_20 C pi_249 tw_1073 dX12_knowsAll_78 ?_
          refine q_bipush (v := 10) C dX12_knowsAll_81 (by decide) ?_
          refine q_ialdk (jn := 10) C pa_259 (vp_of (by decide)) rfl dX12_knowsAll_83 ?_
          refine q_iconst (v := 1) C dX12_knowsAll_84 (by decide) ?_
          refine q_isub C dX12_knowsAll_85 ?_
          refine q_istore_n C [(3, .int ((q13.2.1 259 10) - (1 : Int32))), (0, .ref (ad (249))), (1, .int x1), (2, .int x2), (4, .int x4)] dX12_knowsAll_86 rfl (by decide) rfl ?_
          refine q_iinc C 4 [(4, .int (x4 + 1)), (3, .int ((q13.2.1 259 10) - (1 : Int32))), (0, .ref (ad (249))), (1, .int x1), (2, .int x2)] dX12_knowsAll_87 rfl rfl (by decide) rfl ?_
          refine q_goto (tgt := 51) C dX12_knowsAll_90 (by decide) ?_
          refine q_sub [2, 3, 4, 1, 0] rfl ?_
          exact ih _ _ _ _ _ hF
set_option maxHeartbeats 4000000 in
set_option maxRecDepth 100000 in
theorem c_X12_knowsAll (l : Launch) (D : va_G) (ad : Nat → Nat) (ca : Nat → ClassId) (kz : Nat → Nat) (hJ : pInj ad) (n : Nat) (a1 : Int32) (σ : PS) (out : Int32 × PS) (hF : F_X12_knowsAll n a1 σ = some out) : Met l yX12_knowsAll (Cond.code yX12_knowsAll cX12_knowsAll 5 (Option.some Jvm.ClassFile.FieldType.int) :: gw_tbl) { frames := 7, cells := 0, slots := 0, locals := 166 } (va_Pc [.ref (ad (249)), .int a1] (pU D ad ca kz σ)) (pQi D ad ca out) 0 0 (pAD ad) := by
  refine q_entry (own := "AskedCampModel") hJ (by decide) rfl (Nat.le_of_ble_eq_true rfl) (fun p e s m below meth c C hr hlk => ?_)
  refine q_lv [(0, .ref (ad (249))), (1, .int a1)] rfl ?_
  rw [F_X12_knowsAll] at hF
  refine q_aload_n C 0 dX12_knowsAll_0 rfl rfl ?_
  refine q_iload_n C 1 dX12_knowsAll_1 rfl rfl ?_
  obtain ⟨q1, h2, hF⟩ := bnd hF
  try dsimp only at hF
  refine q_callVi C [.int a1] (c_X12_isTent l D ad ca kz C.2.2.2.2.2.2.1 _ _ _ _ h2) tw_1369 gm_X12_isTent pi_249.1 (pe_11 pi_249.2) rfl ⟨rfl, rfl⟩ ⟨Nat.le_of_ble_eq_true rfl, Nat.le_of_ble_eq_true rfl⟩ rfl (Nat.le_of_ble_eq_true rfl) dX12_knowsAll_2 q00 ?_
  refine q_if_ne (tgt := 11) C dX12_knowsAll_5 (by decide) (fun c3 => ?_) (fun c3 => ?_)
  · replace hF := ife c3 hF
    refine q_iconst (v := 1) C dX12_knowsAll_11 (by decide) ?_
    refine q_aload_n C 0 dX12_knowsAll_12 rfl rfl ?_
    refine qg_11_20 C pi_249 tw_1073 dX12_knowsAll_13 ?_
    refine q_iconst (v := 2) C dX12_knowsAll_16 (by decide) ?_
    refine q_ialdk (jn := 2) C pa_259 (vp_of (by decide)) rfl dX12_knowsAll_17 ?_
    refine q_ishl C dX12_knowsAll_18 ?_
    refine q_iconst (v := 1) C dX12_knowsAll_19 (by decide) ?_
    refine q_isub C dX12_knowsAll_20 ?_
    refine q_istore_n C [(2, .int (((1 : Int32) <<< ((q1.2.1 259 2) &&& 31)) - (1 : Int32))), (0, .ref (ad (249))), (1, .int a1)] dX12_knowsAll_21 rfl (by decide) rfl ?_
    refine q_aload_n C 1 dX12_knowsAll_22 rfl rfl ?_
    refine q_iload_n C 2 dX12_knowsAll_23 rfl rfl ?_
    obtain ⟨q4, h5, hF⟩ := bnd hF
    try dsimp only at hF
    refine q_callVi C [.int a1] (c_X12_knownBy l D ad ca kz C.2.2.2.2.2.2.1 _ _ _ _ h5) tw_1522 gm_X12_knownBy pi_249.1 (pe_11 pi_249.2) rfl ⟨rfl, rfl⟩ ⟨Nat.le_of_ble_eq_true rfl, Nat.le_of_ble_eq_true rfl⟩ rfl (Nat.le_of_ble_eq_true rfl) dX12_knowsAll_24 q00 ?_
    refine q_iload_n C 0 dX12_knowsAll_27 rfl rfl ?_
    refine q_icmp_ne (tgt := 41) C dX12_knowsAll_28 (by decide) (fun c6 => ?_) (fun c6 => ?_)
    · replace hF := ife c6 hF
      refine q_bipush (v := -2) C dX12_knowsAll_41 (by decide) ?_
      refine q_istore_n C [(3, .int (-2)), (2, .int (((1 : Int32) <<< ((q1.2.1 259 2) &&& 31)) - (1 : Int32))), (0, .ref (ad (249))), (1, .int a1)] dX12_knowsAll_43 rfl (by decide) rfl ?_
      refine q_aload_n C 2 dX12_knowsAll_44 rfl rfl ?_
      obtain ⟨q7, h8, hF⟩ := bnd hF
      try dsimp only at hF
      refine q_callVv C [] (c_X12_keeps l D ad ca kz C.2.2.2.2.2.2.1 _ _ _ h8) tw_1514 gm_X12_keeps pi_249.1 (pe_11 pi_249.2) rfl ⟨rfl, rfl⟩ ⟨Nat.le_of_ble_eq_true rfl, Nat.le_of_ble_eq_true rfl⟩ rfl (Nat.le_of_ble_eq_true rfl) dX12_knowsAll_45 q00 ?_
      refine q_iconst (v := 0) C dX12_knowsAll_48 (by decide) ?_
      refine q_istore C [(4, .int 0), (3, .int (-2)), (2, .int (((1 : Int32) <<< ((q1.2.1 259 2) &&& 31)) - (1 : Int32))), (0, .ref (ad (249))), (1, .int a1)] dX12_knowsAll_49 (by decide) rfl ?_
      obtain ⟨o16, h17, hF⟩ := bnd hF
      try dsimp only at hF
      refine q_sub [3, 4, 2, 1, 0] rfl ?_
      refine l_X12_knowsAll_51 C ⟨Nat.le_of_ble_eq_true rfl, Nat.le_of_ble_eq_true rfl⟩ o16 ?_ n _ _ _ _ _ h17
      refine q_aload_n C 0 dX12_knowsAll_93 rfl rfl ?_
      obtain ⟨q18, h19, hF⟩ := bnd hF
      try dsimp only at hF
      refine q_callVv C [] (c_X12_laysBack l D ad ca kz C.2.2.2.2.2.2.1 _ _ _ h19) tw_1526 gm_X12_laysBack pi_249.1 (pe_11 pi_249.2) rfl ⟨rfl, rfl⟩ ⟨Nat.le_of_ble_eq_true rfl, Nat.le_of_ble_eq_true rfl⟩ rfl (Nat.le_of_ble_eq_true rfl) dX12_knowsAll_94 q00 ?_
      refine q_iload_n C 1 dX12_knowsAll_97 rfl rfl ?_
      exact q_iret C hr hlk dX12_knowsAll_98 hF
    · replace hF := ift c6 hF
      refine q_aload_n C 1 dX12_knowsAll_31 rfl rfl ?_
      refine qg_11_20 C pi_249 tw_1073 dX12_knowsAll_32 ?_
      refine q_bipush (v := 10) C dX12_knowsAll_35 (by decide) ?_
      refine q_ialdk (jn := 10) C pa_259 (vp_of (by decide)) rfl dX12_knowsAll_37 ?_
      refine q_iconst (v := 1) C dX12_knowsAll_38 (by decide) ?_
      refine q_isub C dX12_knowsAll_39 ?_
      exact q_iret C hr hlk dX12_knowsAll_40 hF
  · replace hF := ift c3 hF
    refine q_bipush (v := -3) C dX12_knowsAll_8 (by decide) ?_
    exact q_iret C hr hlk dX12_knowsAll_10 hF
