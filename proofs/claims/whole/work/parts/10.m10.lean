-- X12_value
def F_X12_value (n : Nat) (σ : PS) : Option (Int32 × PS) := (F_X12_see n σ).bind (fun q1 => (F_X12_isDigit n (q1.2.1 249 8) q1.2).bind (fun q3 => (if q3.1 = 0 then (F_X12_wordHere n q3.2).bind (fun q6 => (if 0 ≤ q6.1 then (F_X12_makes n (q1.2.1 249 8) q6.2).bind (fun q9 => (if q9.1 = 0 then some ((0 : Int32), q9.2) else (F_X12_passWord n q9.2).bind (fun q12 => (F_X12_puts n (1 : Int32) q6.1 q12).bind (fun q14 => some ((1 : Int32), q14))))) else (F_X12_fails n (0 : Int32) (q1.2.1 249 8) q6.2).bind (fun q16 => (if q16.1 = 0 ∨ q16.1 = 1 then some (q16.1, q16.2) else none)))) else (F_X12_numberHere n (0 : Int32) (99999 : Int32) q3.2).bind (fun q19 => (if q19.1 = 0 then some ((0 : Int32), q19.2) else (F_X12_makes n (q1.2.1 249 8) q19.2).bind (fun q22 => (if q22.1 = 0 then some ((0 : Int32), q22.2) else (F_X12_puts n (0 : Int32) (q22.2.1 249 10) q22.2).bind (fun q25 => some ((1 : Int32), q25)))))))))
theorem gm_X12_value : gM "AskedCampModel" yX12_value (Cond.code yX12_value cX12_value 3 (Option.some Jvm.ClassFile.FieldType.boolean)) 0 := ⟨by decide +kernel, tw_1284, tw_p45, tw_12, tw_1285⟩
set_option maxHeartbeats 4000000 in
set_option maxRecDepth 100000 in
theorem c_X12_value (l : Launch) (D : va_G) (ad : Nat → Nat) (ca : Nat → ClassId) (kz : Nat → Nat) (hJ : pInj ad) (n : Nat) (σ : PS) (out : Int32 × PS) (hF : F_X12_value n σ = some out) : Met l yX12_value (Cond.code yX12_value cX12_value 3 (Option.some Jvm.ClassFile.FieldType.boolean) :: gw_tbl) { frames := 3, cells := 0, slots := 0, locals := 66 } (va_Pc [.ref (ad (249))] (pU D ad ca kz σ)) (pQi D ad ca out) 0 0 (pAD ad) := by
  refine q_entry (own := "AskedCampModel") hJ (by decide) rfl (Nat.le_of_ble_eq_true rfl) (fun p e s m below meth c C hr hlk => ?_)
  refine q_lv [(0, .ref (ad (249)))] rfl ?_
  rw [F_X12_value] at hF
  refine q_aload_n C 0 dX12_value_0 rfl rfl ?_
  obtain ⟨q1, h2, hF⟩ := bnd hF
  try dsimp only at hF
  refine q_callVi C [] (c_X12_see l D ad ca kz C.2.2.2.2.2.2.1 _ _ _ h2) tw_1207 gm_X12_see pi_249.1 (pe_11 pi_249.2) rfl ⟨rfl, rfl⟩ ⟨Nat.le_of_ble_eq_true rfl, Nat.le_of_ble_eq_true rfl⟩ rfl (Nat.le_of_ble_eq_true rfl) dX12_value_1 q00 ?_
  refine q_pop C dX12_value_4 rfl ?_
  refine q_aload_n C 0 dX12_value_5 rfl rfl ?_
  refine qg_11_8 C pi_249 tw_1061 dX12_value_6 ?_
  refine q_istore_n C [(1, .int (q1.2.1 249 8)), (0, .ref (ad (249)))] dX12_value_9 rfl (by decide) rfl ?_
  refine q_aload_n C 1 dX12_value_10 rfl rfl ?_
  refine q_aload_n C 1 dX12_value_11 rfl rfl ?_
  refine qg_11_8 C pi_249 tw_1061 dX12_value_12 ?_
  obtain ⟨q3, h4, hF⟩ := bnd hF
  try dsimp only at hF
  refine q_callVi C [.int (q1.2.1 249 8)] (c_X12_isDigit l D ad ca kz C.2.2.2.2.2.2.1 _ _ _ _ h4) tw_1251 gm_X12_isDigit pi_249.1 (pe_11 pi_249.2) rfl ⟨rfl, rfl⟩ ⟨Nat.le_of_ble_eq_true rfl, Nat.le_of_ble_eq_true rfl⟩ rfl (Nat.le_of_ble_eq_true rfl) dX12_value_15 q00 ?_
  refine q_if_eq (tgt := 52) C dX12_value_18 (by decide) (fun c5 => ?_) (fun c5 => ?_)
  · replace hF := ift c5 hF
    refine q_aload_n C 1 dX12_value_52 rfl rfl ?_
    obtain ⟨q6, h7, hF⟩ := bnd hF
    try dsimp only at hF
    refine q_callVi C [] (c_X12_wordHere l D ad ca kz C.2.2.2.2.2.2.1 _ _ _ h7) tw_1295 gm_X12_wordHere pi_249.1 (pe_11 pi_249.2) rfl ⟨rfl, rfl⟩ ⟨Nat.le_of_ble_eq_true rfl, Nat.le_of_ble_eq_true rfl⟩ rfl (Nat.le_of_ble_eq_true rfl) dX12_value_53 q00 ?_
    refine q_istore_n C [(2, .int q6.1), (1, .int (q1.2.1 249 8)), (0, .ref (ad (249)))] dX12_value_56 rfl (by decide) rfl ?_
    refine q_iload_n C 0 dX12_value_57 rfl rfl ?_
    refine q_if_ge (tgt := 68) C dX12_value_58 (by decide) (fun c8 => ?_) (fun c8 => ?_)
    · replace hF := ift c8 hF
      refine q_aload_n C 2 dX12_value_68 rfl rfl ?_
      refine q_iload_n C 1 dX12_value_69 rfl rfl ?_
      obtain ⟨q9, h10, hF⟩ := bnd hF
      try dsimp only at hF
      refine q_callVi C [.int (q1.2.1 249 8)] (c_X12_makes l D ad ca kz C.2.2.2.2.2.2.1 _ _ _ _ h10) tw_1287 gm_X12_makes pi_249.1 (pe_11 pi_249.2) rfl ⟨rfl, rfl⟩ ⟨Nat.le_of_ble_eq_true rfl, Nat.le_of_ble_eq_true rfl⟩ rfl (Nat.le_of_ble_eq_true rfl) dX12_value_70 q00 ?_
      refine q_if_ne (tgt := 78) C dX12_value_73 (by decide) (fun c11 => ?_) (fun c11 => ?_)
      · replace hF := ife c11 hF
        refine q_aload_n C 2 dX12_value_78 rfl rfl ?_
        obtain ⟨q12, h13, hF⟩ := bnd hF
        try dsimp only at hF
        refine q_callVv C [] (c_X12_passWord l D ad ca kz C.2.2.2.2.2.2.1 _ _ _ h13) tw_1239 gm_X12_passWord pi_249.1 (pe_11 pi_249.2) rfl ⟨rfl, rfl⟩ ⟨Nat.le_of_ble_eq_true rfl, Nat.le_of_ble_eq_true rfl⟩ rfl (Nat.le_of_ble_eq_true rfl) dX12_value_79 q00 ?_
        refine q_aload_n C 2 dX12_value_82 rfl rfl ?_
        refine q_iconst (v := 1) C dX12_value_83 (by decide) ?_
        refine q_iload_n C 0 dX12_value_84 rfl rfl ?_
        obtain ⟨q14, h15, hF⟩ := bnd hF
        try dsimp only at hF
        refine q_callVv C [.int 1, .int q6.1] (c_X12_puts l D ad ca kz C.2.2.2.2.2.2.1 _ _ _ _ _ h15) tw_1291 gm_X12_puts pi_249.1 (pe_11 pi_249.2) rfl ⟨rfl, rfl⟩ ⟨Nat.le_of_ble_eq_true rfl, Nat.le_of_ble_eq_true rfl⟩ rfl (Nat.le_of_ble_eq_true rfl) dX12_value_85 q00 ?_
        refine q_iconst (v := 1) C dX12_value_88 (by decide) ?_
        exact q_zret C hr hlk dX12_value_89 (by decide) hF
      · replace hF := ift c11 hF
        refine q_iconst (v := 0) C dX12_value_76 (by decide) ?_
        exact q_zret C hr hlk dX12_value_77 (by decide) hF
    · replace hF := ife c8 hF
      refine q_aload_n C 2 dX12_value_61 rfl rfl ?_
      refine q_iconst (v := 0) C dX12_value_62 (by decide) ?_
      refine q_iload_n C 1 dX12_value_63 rfl rfl ?_
      obtain ⟨q16, h17, hF⟩ := bnd hF
      try dsimp only at hF
      refine q_callVi C [.int 0, .int (q1.2.1 249 8)] (c_X12_fails l D ad ca kz C.2.2.2.2.2.2.1 _ _ _ _ _ h17) tw_1227 gm_X12_fails pi_249.1 (pe_11 pi_249.2) rfl ⟨rfl, rfl⟩ ⟨Nat.le_of_ble_eq_true rfl, Nat.le_of_ble_eq_true rfl⟩ rfl (Nat.le_of_ble_eq_true rfl) dX12_value_64 q00 ?_
      obtain ⟨g18, hF⟩ := grd hF
      exact q_zret C hr hlk dX12_value_67 g18 hF
  · replace hF := ife c5 hF
    refine q_aload_n C 1 dX12_value_21 rfl rfl ?_
    refine q_iconst (v := 0) C dX12_value_22 (by decide) ?_
    refine q_ldc C dX12_value_23 tw_1286 ?_
    obtain ⟨q19, h20, hF⟩ := bnd hF
    try dsimp only at hF
    refine q_callVi C [.int 0, .int 99999] (c_X12_numberHere l D ad ca kz C.2.2.2.2.2.2.1 _ _ _ _ _ h20) tw_1247 gm_X12_numberHere pi_249.1 (pe_11 pi_249.2) rfl ⟨rfl, rfl⟩ ⟨Nat.le_of_ble_eq_true rfl, Nat.le_of_ble_eq_true rfl⟩ rfl (Nat.le_of_ble_eq_true rfl) dX12_value_25 q00 ?_
    refine q_if_eq (tgt := 39) C dX12_value_28 (by decide) (fun c21 => ?_) (fun c21 => ?_)
    · replace hF := ift c21 hF
      refine q_iconst (v := 0) C dX12_value_39 (by decide) ?_
      exact q_zret C hr hlk dX12_value_40 (by decide) hF
    · replace hF := ife c21 hF
      refine q_aload_n C 1 dX12_value_31 rfl rfl ?_
      refine q_iload_n C 0 dX12_value_32 rfl rfl ?_
      obtain ⟨q22, h23, hF⟩ := bnd hF
      try dsimp only at hF
      refine q_callVi C [.int (q1.2.1 249 8)] (c_X12_makes l D ad ca kz C.2.2.2.2.2.2.1 _ _ _ _ h23) tw_1287 gm_X12_makes pi_249.1 (pe_11 pi_249.2) rfl ⟨rfl, rfl⟩ ⟨Nat.le_of_ble_eq_true rfl, Nat.le_of_ble_eq_true rfl⟩ rfl (Nat.le_of_ble_eq_true rfl) dX12_value_33 q00 ?_
      refine q_if_ne (tgt := 41) C dX12_value_36 (by decide) (fun c24 => ?_) (fun c24 => ?_)
      · replace hF := ife c24 hF
        refine q_aload_n C 1 dX12_value_41 rfl rfl ?_
        refine q_iconst (v := 0) C dX12_value_42 (by decide) ?_
        refine q_aload_n C 1 dX12_value_43 rfl rfl ?_
        refine qg_11_10 C pi_249 tw_1063 dX12_value_44 ?_
        obtain ⟨q25, h26, hF⟩ := bnd hF
        try dsimp only at hF
        refine q_callVv C [.int 0, .int (q22.2.1 249 10)] (c_X12_puts l D ad ca kz C.2.2.2.2.2.2.1 _ _ _ _ _ h26) tw_1291 gm_X12_puts pi_249.1 (pe_11 pi_249.2) rfl ⟨rfl, rfl⟩ ⟨Nat.le_of_ble_eq_true rfl, Nat.le_of_ble_eq_true rfl⟩ rfl (Nat.le_of_ble_eq_true rfl) dX12_value_47 q00 ?_
        refine q_iconst (v := 1) C dX12_value_50 (by decide) ?_
        exact q_zret C hr hlk dX12_value_51 (by decide) hF
      · replace hF := ift c24 hF
        refine q_iconst (v := 0) C dX12_value_39 (by decide) ?_
        exact q_zret C hr hlk dX12_value_40 (by decide) hF
-- X12_term
def L_X12_term_9 (n : Nat) : Nat → PS → Option (Nat × PS)
  | 0, _ => none
  | k + 1, σ => (F_X12_see n σ).bind (fun q4 => (if q4.1 = (42 : Int32) then (if 0 ≤ (q4.2.1 249 8) ∧ (q4.2.1 249 8).toNatClampNeg < 400 then (if (q4.2.1 250 ((q4.2.1 249 8).toNatClampNeg)) = (42 : Int32) then (F_X12_value n (psI q4.2 249 8 ((q4.2.1 249 8) + (1 : Int32)))).bind (fun q20 => (if q20.1 = 0 then some (0, q20.2) else (F_X12_puts n (4 : Int32) (0 : Int32) q20.2).bind (fun q23 => L_X12_term_9 n k q23))) else (if (q4.2.1 250 ((q4.2.1 249 8).toNatClampNeg)) = (47 : Int32) then (F_X12_value n (psI q4.2 249 8 ((q4.2.1 249 8) + (1 : Int32)))).bind (fun q15 => (if q15.1 = 0 then some (0, q15.2) else (F_X12_puts n (5 : Int32) (0 : Int32) q15.2).bind (fun q18 => L_X12_term_9 n k q18))) else (F_X12_value n (psI q4.2 249 8 ((q4.2.1 249 8) + (1 : Int32)))).bind (fun q10 => (if q10.1 = 0 then some (0, q10.2) else (F_X12_puts n (14 : Int32) (0 : Int32) q10.2).bind (fun q13 => L_X12_term_9 n k q13))))) else none) else (F_X12_see n q4.2).bind (fun q25 => (if q25.1 = (47 : Int32) then (if 0 ≤ (q25.2.1 249 8) ∧ (q25.2.1 249 8).toNatClampNeg < 400 then (if (q25.2.1 250 ((q25.2.1 249 8).toNatClampNeg)) = (42 : Int32) then (F_X12_value n (psI q25.2 249 8 ((q25.2.1 249 8) + (1 : Int32)))).bind (fun q41 => (if q41.1 = 0 then some (0, q41.2) else (F_X12_puts n (4 : Int32) (0 : Int32) q41.2).bind (fun q44 => L_X12_term_9 n k q44))) else (if (q25.2.1 250 ((q25.2.1 249 8).toNatClampNeg)) = (47 : Int32) then (F_X12_value n (psI q25.2 249 8 ((q25.2.1 249 8) + (1 : Int32)))).bind (fun q36 => (if q36.1 = 0 then some (0, q36.2) else (F_X12_puts n (5 : Int32) (0 : Int32) q36.2).bind (fun q39 => L_X12_term_9 n k q39))) else (F_X12_value n (psI q25.2 249 8 ((q25.2.1 249 8) + (1 : Int32)))).bind (fun q31 => (if q31.1 = 0 then some (0, q31.2) else (F_X12_puts n (14 : Int32) (0 : Int32) q31.2).bind (fun q34 => L_X12_term_9 n k q34))))) else none) else (F_X12_see n q25.2).bind (fun q46 => (if q46.1 = (37 : Int32) then (if 0 ≤ (q46.2.1 249 8) ∧ (q46.2.1 249 8).toNatClampNeg < 400 then (if (q46.2.1 250 ((q46.2.1 249 8).toNatClampNeg)) = (42 : Int32) then (F_X12_value n (psI q46.2 249 8 ((q46.2.1 249 8) + (1 : Int32)))).bind (fun q62 => (if q62.1 = 0 then some (0, q62.2) else (F_X12_puts n (4 : Int32) (0 : Int32) q62.2).bind (fun q65 => L_X12_term_9 n k q65))) else (if (q46.2.1 250 ((q46.2.1 249 8).toNatClampNeg)) = (47 : Int32) then (F_X12_value n (psI q46.2 249 8 ((q46.2.1 249 8) + (1 : Int32)))).bind (fun q57 => (if q57.1 = 0 then some (0, q57.2) else (F_X12_puts n (5 : Int32) (0 : Int32) q57.2).bind (fun q60 => L_X12_term_9 n k q60))) else (F_X12_value n (psI q46.2 249 8 ((q46.2.1 249 8) + (1 : Int32)))).bind (fun q52 => (if q52.1 = 0 then some (0, q52.2) else (F_X12_puts n (14 : Int32) (0 : Int32) q52.2).bind (fun q55 => L_X12_term_9 n k q55))))) else none) else some (1, q46.2)))))))
def F_X12_term (n : Nat) (σ : PS) : Option (Int32 × PS) := (F_X12_value n σ).bind (fun q1 => (if q1.1 = 0 then some ((0 : Int32), q1.2) else (L_X12_term_9 n n q1.2).bind (fun o67 => (if o67.1 = 0 then some ((0 : Int32), o67.2) else some ((1 : Int32), o67.2)))))
theorem gm_X12_term : gM "AskedCampModel" yX12_term (Cond.code yX12_term cX12_term 2 (Option.some Jvm.ClassFile.FieldType.boolean)) 0 := ⟨by decide +kernel, tw_1280, tw_p44, tw_12, tw_1281⟩
set_option maxHeartbeats 4000000 in
set_option maxRecDepth 100000 in
theorem l_X12_term_9 {p : Program} {l : Launch} {e : Env} {R : Room} {s : State} {m : MethodId} {args : Array Value} {below : List Frame} {meth : Method} {c : Code} {D : va_G} {ad : Nat → Nat} {ca : Nat → ClassId} {kz : Nat → Nat} {Q : State → Prop} (C : pC p s m args c cX12_term "AskedCampModel" 2 D ad ca kz) (hR : 4 ≤ R.frames ∧ 88 ≤ R.locals) {n : Nat} (o : Nat × PS) (hx0 : o.1 = 0 → PW p l e R s m args below meth c 2 D ad ca 0 0 Q (o.2) 92 [] []) (hx1 : o.1 = 1 → PW p l e R s m args below meth c 2 D ad ca 0 0 Q (o.2) 103 [] []) : ∀ (k : Nat) (σ : PS), L_X12_term_9 n k σ = some o → PW p l e R s m args below meth c 2 D ad ca 0 0 Q σ 9 [(0, .ref (ad (249)))] [] := by
  intro k
  induction k with
  | zero => intro σ hF; exact nomatch (show (none : Option (Nat × PS)) = some o from hF)
  | succ k ih =>
    intro σ hF
    rw [L_X12_term_9] at hF
    refine q_aload_n C 0 dX12_term_9 rfl rfl ?_
    obtain ⟨q4, h5, hF⟩ := bnd hF
    try dsimp only at hF
    refine q_callVi C [] (c_X12_see l D ad ca kz C.2.2.2.2.2.2.1 _ _ _ h5) tw_1207 gm_X12_see pi_249.1 (pe_11 pi_249.2) rfl ⟨rfl, rfl⟩ ⟨Nat.le_trans (Nat.le_of_ble_eq_true rfl) hR.1, Nat.le_trans (Nat.le_of_ble_eq_true rfl) hR.2⟩ rfl (Nat.le_of_ble_eq_true rfl) dX12_term_10 q00 ?_
    refine q_bipush (v := 42) C dX12_term_13 (by decide) ?_
    refine q_icmp_eq (tgt := 36) C dX12_term_15 (by decide) (fun c6 => ?_) (fun c6 => ?_)
    · replace hF := ift c6 hF
      refine q_aload_n C 0 dX12_term_36 rfl rfl ?_
      refine qg_11_0 C pi_249 tw_1053 dX12_term_37 ?_
      refine q_aload_n C 0 dX12_term_40 rfl rfl ?_
      refine qg_11_8 C pi_249 tw_1061 dX12_term_41 ?_
      obtain ⟨g7, hF⟩ := grd hF
      refine q_bald C pa_250 (vp_of g7) dX12_term_44 ?_
      refine q_bipush (v := 42) C dX12_term_45 (by decide) ?_
      refine q_icmp_ne (tgt := 54) C dX12_term_47 (by decide) (fun c8 => ?_) (fun c8 => ?_)
      · replace hF := ife c8 hF
        refine q_aload_n C 0 dX12_term_54 rfl rfl ?_
        refine qg_11_0 C pi_249 tw_1053 dX12_term_55 ?_
        refine q_aload_n C 0 dX12_term_58 rfl rfl ?_
        refine qg_11_8 C pi_249 tw_1061 dX12_term_59 ?_
        refine q_bald C pa_250 (vp_of g7) dX12_term_62 ?_
        refine q_bipush (v := 47) C dX12_term_63 (by decide) ?_
        refine q_icmp_ne (tgt := 72) C dX12_term_65 (by decide) (fun c9 => ?_) (fun c9 => ?_)
        · replace hF := ife c9 hF
          refine q_bipush (v := 14) C dX12_term_72 (by decide) ?_
          refine q_istore_n C [(1, .int 14), (0, .ref (ad (249)))] dX12_term_74 rfl (by decide) rfl ?_
          refine q_aload_n C 1 dX12_term_75 rfl rfl ?_
          refine q_dup C dX12_term_76 rfl ?_
          refine qg_11_8 C pi_249 tw_1061 dX12_term_77 ?_
          refine q_iconst (v := 1) C dX12_term_80 (by decide) ?_
          refine q_iadd C dX12_term_81 ?_
          refine qs_11_8 C pi_249 tw_1061 dX12_term_82 ?_
          refine q_aload_n C 1 dX12_term_85 rfl rfl ?_
          obtain ⟨q10, h11, hF⟩ := bnd hF
          try dsimp only at hF
          refine q_callVi C [] (c_X12_value l D ad ca kz C.2.2.2.2.2.2.1 _ _ _ h11) tw_1282 gm_X12_value pi_249.1 (pe_11 pi_249.2) rfl ⟨rfl, rfl⟩ ⟨Nat.le_trans (Nat.le_of_ble_eq_true rfl) hR.1, Nat.le_trans (Nat.le_of_ble_eq_true rfl) hR.2⟩ rfl (Nat.le_of_ble_eq_true rfl) dX12_term_86 q00 ?_
          refine q_if_ne (tgt := 94) C dX12_term_89 (by decide) (fun c12 => ?_) (fun c12 => ?_)
          · replace hF := ife c12 hF
            refine q_aload_n C 1 dX12_term_94 rfl rfl ?_
            refine q_iload_n C 0 dX12_term_95 rfl rfl ?_
            refine q_iconst (v := 0) C dX12_term_96 (by decide) ?_
            obtain ⟨q13, h14, hF⟩ := bnd hF
            try dsimp only at hF
            refine q_callVv C [.int 14, .int 0] (c_X12_puts l D ad ca kz C.2.2.2.2.2.2.1 _ _ _ _ _ h14) tw_1291 gm_X12_puts pi_249.1 (pe_11 pi_249.2) rfl ⟨rfl, rfl⟩ ⟨Nat.le_trans (Nat.le_of_ble_eq_true rfl) hR.1, Nat.le_trans (Nat.le_of_ble_eq_true rfl) hR.2⟩ rfl (Nat.le_of_ble_eq_true rfl) dX12_term_97 q00 ?_
            refine q_goto (tgt := 9) C dX12_term_100 (by decide) ?_
            refine q_sub [1] rfl ?_
            exact ih _ hF
          · replace hF := ift c12 hF
            cases hF
            refine q_sub [] rfl ?_
            exact hx0 rfl
        · replace hF := ift c9 hF
          refine q_iconst (v := 5) C dX12_term_68 (by decide) ?_
          refine q_goto (tgt := 74) C dX12_term_69 (by decide) ?_
          refine q_istore_n C [(1, .int 5), (0, .ref (ad (249)))] dX12_term_74 rfl (by decide) rfl ?_
          refine q_aload_n C 1 dX12_term_75 rfl rfl ?_
          refine q_dup C dX12_term_76 rfl ?_
          refine qg_11_8 C pi_249 tw_1061 dX12_term_77 ?_
          refine q_iconst (v := 1) C dX12_term_80 (by decide) ?_
          refine q_iadd C dX12_term_81 ?_
          refine qs_11_8 C pi_249 tw_1061 dX12_term_82 ?_
          refine q_aload_n C 1 dX12_term_85 rfl rfl ?_
          obtain ⟨q15, h16, hF⟩ := bnd hF
          try dsimp only at hF
          refine q_callVi C [] (c_X12_value l D ad ca kz C.2.2.2.2.2.2.1 _ _ _ h16) tw_1282 gm_X12_value pi_249.1 (pe_11 pi_249.2) rfl ⟨rfl, rfl⟩ ⟨Nat.le_trans (Nat.le_of_ble_eq_true rfl) hR.1, Nat.le_trans (Nat.le_of_ble_eq_true rfl) hR.2⟩ rfl (Nat.le_of_ble_eq_true rfl) dX12_term_86 q00 ?_
          refine q_if_ne (tgt := 94) C dX12_term_89 (by decide) (fun c17 => ?_) (fun c17 => ?_)
          · replace hF := ife c17 hF
            refine q_aload_n C 1 dX12_term_94 rfl rfl ?_
            refine q_iload_n C 0 dX12_term_95 rfl rfl ?_
            refine q_iconst (v := 0) C dX12_term_96 (by decide) ?_
            obtain ⟨q18, h19, hF⟩ := bnd hF
            try dsimp only at hF
            refine q_callVv C [.int 5, .int 0] (c_X12_puts l D ad ca kz C.2.2.2.2.2.2.1 _ _ _ _ _ h19) tw_1291 gm_X12_puts pi_249.1 (pe_11 pi_249.2) rfl ⟨rfl, rfl⟩ ⟨Nat.le_trans (Nat.le_of_ble_eq_true rfl) hR.1, Nat.le_trans (Nat.le_of_ble_eq_true rfl) hR.2⟩ rfl (Nat.le_of_ble_eq_true rfl) dX12_term_97 q00 ?_
            refine q_goto (tgt := 9) C dX12_term_100 (by decide) ?_
            refine q_sub [1] rfl ?_
            exact ih _ hF
          · replace hF := ift c17 hF
            cases hF
            refine q_sub [] rfl ?_
            exact hx0 rfl
      · replace hF := ift c8 hF
        refine q_iconst (v := 4) C dX12_term_50 (by decide) ?_
        refine q_goto (tgt := 74) C dX12_term_51 (by decide) ?_
        refine q_istore_n C [(1, .int 4), (0, .ref (ad (249)))] dX12_term_74 rfl (by decide) rfl ?_
        refine q_aload_n C 1 dX12_term_75 rfl rfl ?_
        refine q_dup C dX12_term_76 rfl ?_
        refine qg_11_8 C pi_249 tw_1061 dX12_term_77 ?_
        refine q_iconst (v := 1) C dX12_term_80 (by decide) ?_
        refine q_iadd C dX12_term_81 ?_
        refine qs_11_8 C pi_249 tw_1061 dX12_term_82 ?_
        refine q_aload_n C 1 dX12_term_85 rfl rfl ?_
        obtain ⟨q20, h21, hF⟩ := bnd hF
        try dsimp only at hF
        refine q_callVi C [] (c_X12_value l D ad ca kz C.2.2.2.2.2.2.1 _ _ _ h21) tw_1282 gm_X12_value pi_249.1 (pe_11 pi_249.2) rfl ⟨rfl, rfl⟩ ⟨Nat.le_trans (Nat.le_of_ble_eq_true rfl) hR.1, Nat.le_trans (Nat.le_of_ble_eq_true rfl) hR.2⟩ rfl (Nat.le_of_ble_eq_true rfl) dX12_term_86 q00 ?_
        refine q_if_ne (tgt := 94) C dX12_term_89 (by decide) (fun c22 => ?_) (fun c22 => ?_)
        · replace hF := ife c22 hF
          refine q_aload_n C 1 dX12_term_94 rfl rfl ?_
          refine q_iload_n C 0 dX12_term_95 rfl rfl ?_
          refine q_iconst (v := 0) C dX12_term_96 (by decide) ?_
          obtain ⟨q23, h24, hF⟩ := bnd hF
          try dsimp only at hF
          refine q_callVv C [.int 4, .int 0] (c_X12_puts l D ad ca kz C.2.2.2.2.2.2.1 _ _ _ _ _ h24) tw_1291 gm_X12_puts pi_249.1 (pe_11 pi_249.2) rfl ⟨rfl, rfl⟩ ⟨Nat.le_trans (Nat.le_of_ble_eq_true rfl) hR.1, Nat.le_trans (Nat.le_of_ble_eq_true rfl) hR.2⟩ rfl (Nat.le_of_ble_eq_true rfl) dX12_term_97 q00 ?_
          refine q_goto (tgt := 9) C dX12_term_100 (by decide) ?_
          refine q_sub [1] rfl ?_
          exact ih _ hF
        · replace hF := ift c22 hF
          cases hF
          refine q_sub [] rfl ?_
          exact hx0 rfl
    · replace hF := ife c6 hF
      refine q_aload_n C 0 dX12_term_18 rfl rfl ?_
      obtain ⟨q25, h26, hF⟩ := bnd hF
      try dsimp only at hF
      refine q_callVi C [] (c_X12_see l D ad ca kz C.2.2.2.2.2.2.1 _ _ _ h26) tw_1207 gm_X12_see pi_249.1 (pe_11 pi_249.2) rfl ⟨rfl, rfl⟩ ⟨Nat.le_trans (Nat.le_of_ble_eq_true rfl) hR.1, Nat.le_trans (Nat.le_of_ble_eq_true rfl) hR.2⟩ rfl (Nat.le_of_ble_eq_true rfl) dX12_term_19 q00 ?_
      refine q_bipush (v := 47) C dX12_term_22 (by decide) ?_
      refine q_icmp_eq (tgt := 36) C dX12_term_24 (by decide) (fun c27 => ?_) (fun c27 => ?_)
      · replace hF := ift c27 hF
        refine q_aload_n C 0 dX12_term_36 rfl rfl ?_
        refine qg_11_0 C pi_249 tw_1053 dX12_term_37 ?_
        refine q_aload_n C 0 dX12_term_40 rfl rfl ?_
        refine qg_11_8 C pi_249 tw_1061 dX12_term_41 ?_
        obtain ⟨g28, hF⟩ := grd hF
        refine q_bald C pa_250 (vp_of g28) dX12_term_44 ?_
        refine q_bipush (v := 42) C dX12_term_45 (by decide) ?_
        refine q_icmp_ne (tgt := 54) C dX12_term_47 (by decide) (fun c29 => ?_) (fun c29 => ?_)
        · replace hF := ife c29 hF
          refine q_aload_n C 0 dX12_term_54 rfl rfl ?_
          refine qg_11_0 C pi_249 tw_1053 dX12_term_55 ?_
          refine q_aload_n C 0 dX12_term_58 rfl rfl ?_
          refine qg_11_8 C pi_249 tw_1061 dX12_term_59 ?_
          refine q_bald C pa_250 (vp_of g28) dX12_term_62 ?_
          refine q_bipush (v := 47) C dX12_term_63 (by decide) ?_
          refine q_icmp_ne (tgt := 72) C dX12_term_65 (by decide) (fun c30 => ?_) (fun c30 => ?_)
          · replace hF := ife c30 hF
            refine q_bipush (v := 14) C dX12_term_72 (by decide) ?_
            refine q_istore_n C [(1, .int 14), (0, .ref (ad (249)))] dX12_term_74 rfl (by decide) rfl ?_
            refine q_aload_n C 1 dX12_term_75 rfl rfl ?_
            refine q_dup C dX12_term_76 rfl ?_
            refine qg_11_8 C pi_249 tw_1061 dX12_term_77 ?_
            refine q_iconst (v := 1) C dX12_term_80 (by decide) ?_
            refine q_iadd C dX12_term_81 ?_
            refine qs_11_8 C pi_249 tw_1061 dX12_term_82 ?_
            refine q_aload_n C 1 dX12_term_85 rfl rfl ?_
            obtain ⟨q31, h32, hF⟩ := bnd hF
            try dsimp only at hF
            refine q_callVi C [] (c_X12_value l D ad ca kz C.2.2.2.2.2.2.1 _ _ _ h32) tw_1282 gm_X12_value pi_249.1 (pe_11 pi_249.2) rfl ⟨rfl, rfl⟩ ⟨Nat.le_trans (Nat.le_of_ble_eq_true rfl) hR.1, Nat.le_trans (Nat.le_of_ble_eq_true rfl) hR.2⟩ rfl (Nat.le_of_ble_eq_true rfl) dX12_term_86 q00 ?_
            refine q_if_ne (tgt := 94) C dX12_term_89 (by decide) (fun c33 => ?_) (fun c33 => ?_)
            · replace hF := ife c33 hF
              refine q_aload_n C 1 dX12_term_94 rfl rfl ?_
              refine q_iload_n C 0 dX12_term_95 rfl rfl ?_
              refine q_iconst (v := 0) C dX12_term_96 (by decide) ?_
              obtain ⟨q34, h35, hF⟩ := bnd hF
              try dsimp only at hF
              refine q_callVv C [.int 14, .int 0] (c_X12_puts l D ad ca kz C.2.2.2.2.2.2.1 _ _ _ _ _ h35) tw_1291 gm_X12_puts pi_249.1 (pe_11 pi_249.2) rfl ⟨rfl, rfl⟩ ⟨Nat.le_trans (Nat.le_of_ble_eq_true rfl) hR.1, Nat.le_trans (Nat.le_of_ble_eq_true rfl) hR.2⟩ rfl (Nat.le_of_ble_eq_true rfl) dX12_term_97 q00 ?_
              refine q_goto (tgt := 9) C dX12_term_100 (by decide) ?_
              refine q_sub [1] rfl ?_
              exact ih _ hF
            · replace hF := ift c33 hF
              cases hF
              refine q_sub [] rfl ?_
              exact hx0 rfl
          · replace hF := ift c30 hF
            refine q_iconst (v := 5) C dX12_term_68 (by decide) ?_
            refine q_goto (tgt := 74) C dX12_term_69 (by decide) ?_
            refine q_istore_n C [(1, .int 5), (0, .ref (ad (249)))] dX12_term_74 rfl (by decide) rfl ?_
            refine q_aload_n C 1 dX12_term_75 rfl rfl ?_
            refine q_dup C dX12_term_76 rfl ?_
            refine qg_11_8 C pi_249 tw_1061 dX12_term_77 ?_
            refine q_iconst (v := 1) C dX12_term_80 (by decide) ?_
            refine q_iadd C dX12_term_81 ?_
            refine qs_11_8 C pi_249 tw_1061 dX12_term_82 ?_
            refine q_aload_n C 1 dX12_term_85 rfl rfl ?_
            obtain ⟨q36, h37, hF⟩ := bnd hF
            try dsimp only at hF
            refine q_callVi C [] (c_X12_value l D ad ca kz C.2.2.2.2.2.2.1 _ _ _ h37) tw_1282 gm_X12_value pi_249.1 (pe_11 pi_249.2) rfl ⟨rfl, rfl⟩ ⟨Nat.le_trans (Nat.le_of_ble_eq_true rfl) hR.1, Nat.le_trans (Nat.le_of_ble_eq_true rfl) hR.2⟩ rfl (Nat.le_of_ble_eq_true rfl) dX12_term_86 q00 ?_
            refine q_if_ne (tgt := 94) C dX12_term_89 (by decide) (fun c38 => ?_) (fun c38 => ?_)
            · replace hF := ife c38 hF
              refine q_aload_n C 1 dX12_term_94 rfl rfl ?_
              refine q_iload_n C 0 dX12_term_95 rfl rfl ?_
              refine q_iconst (v := 0) C dX12_term_96 (by decide) ?_
              obtain ⟨q39, h40, hF⟩ := bnd hF
              try dsimp only at hF
              refine q_callVv C [.int 5, .int 0] (c_X12_puts l D ad ca kz C.2.2.2.2.2.2.1 _ _ _ _ _ h40) tw_1291 gm_X12_puts pi_249.1 (pe_11 pi_249.2) rfl ⟨rfl, rfl⟩ ⟨Nat.le_trans (Nat.le_of_ble_eq_true rfl) hR.1, Nat.le_trans (Nat.le_of_ble_eq_true rfl) hR.2⟩ rfl (Nat.le_of_ble_eq_true rfl) dX12_term_97 q00 ?_
              refine q_goto (tgt := 9) C dX12_term_100 (by decide) ?_
              refine q_sub [1] rfl ?_
              exact ih _ hF
            · replace hF := ift c38 hF
              cases hF
              refine q_sub [] rfl ?_
              exact hx0 rfl
        · replace hF := ift c29 hF
          refine q_iconst (v := 4) C dX12_term_50 (by decide) ?_
          refine q_goto (tgt := 74) C dX12_term_51 (by decide) ?_
          refine q_istore_n C [(1, .int 4), (0, .ref (ad (249)))] dX12_term_74 rfl (by decide) rfl ?_
          refine q_aload_n C 1 dX12_term_75 rfl rfl ?_
          refine q_dup C dX12_term_76 rfl ?_
          refine qg_11_8 C pi_249 tw_1061 dX12_term_77 ?_
          refine q_iconst (v := 1) C dX12_term_80 (by decide) ?_
          refine q_iadd C dX12_term_81 ?_
          refine qs_11_8 C pi_249 tw_1061 dX12_term_82 ?_
          refine q_aload_n C 1 dX12_term_85 rfl rfl ?_
          obtain ⟨q41, h42, hF⟩ := bnd hF
          try dsimp only at hF
          refine q_callVi C [] (c_X12_value l D ad ca kz C.2.2.2.2.2.2.1 _ _ _ h42) tw_1282 gm_X12_value pi_249.1 (pe_11 pi_249.2) rfl ⟨rfl, rfl⟩ ⟨Nat.le_trans (Nat.le_of_ble_eq_true rfl) hR.1, Nat.le_trans (Nat.le_of_ble_eq_true rfl) hR.2⟩ rfl (Nat.le_of_ble_eq_true rfl) dX12_term_86 q00 ?_
          refine q_if_ne (tgt := 94) C dX12_term_89 (by decide) (fun c43 => ?_) (fun c43 => ?_)
          · replace hF := ife c43 hF
            refine q_aload_n C 1 dX12_term_94 rfl rfl ?_
            refine q_iload_n C 0 dX12_term_95 rfl rfl ?_
            refine q_iconst (v := 0) C dX12_term_96 (by decide) ?_
            obtain ⟨q44, h45, hF⟩ := bnd hF
            try dsimp only at hF
            refine q_callVv C [.int 4, .int 0] (c_X12_puts l D ad ca kz C.2.2.2.2.2.2.1 _ _ _ _ _ h45) tw_1291 gm_X12_puts pi_249.1 (pe_11 pi_249.2) rfl ⟨rfl, rfl⟩ ⟨Nat.le_trans (Nat.le_of_ble_eq_true rfl) hR.1, Nat.le_trans (Nat.le_of_ble_eq_true rfl) hR.2⟩ rfl (Nat.le_of_ble_eq_true rfl) dX12_term_97 q00 ?_
            refine q_goto (tgt := 9) C dX12_term_100 (by decide) ?_
            refine q_sub [1] rfl ?_
            exact ih _ hF
          · replace hF := ift c43 hF
            cases hF
            refine q_sub [] rfl ?_
            exact hx0 rfl
      · replace hF := ife c27 hF
        refine q_aload_n C 0 dX12_term_27 rfl rfl ?_
        obtain ⟨q46, h47, hF⟩ := bnd hF
        try dsimp only at hF
        refine q_callVi C [] (c_X12_see l D ad ca kz C.2.2.2.2.2.2.1 _ _ _ h47) tw_1207 gm_X12_see pi_249.1 (pe_11 pi_249.2) rfl ⟨rfl, rfl⟩ ⟨Nat.le_trans (Nat.le_of_ble_eq_true rfl) hR.1, Nat.le_trans (Nat.le_of_ble_eq_true rfl) hR.2⟩ rfl (Nat.le_of_ble_eq_true rfl) dX12_term_28 q00 ?_
        refine q_bipush (v := 37) C dX12_term_31 (by decide) ?_
        refine q_icmp_ne (tgt := 103) C dX12_term_33 (by decide) (fun c48 => ?_) (fun c48 => ?_)
        · replace hF := ife c48 hF
          cases hF
          refine q_sub [] rfl ?_
          exact hx1 rfl
        · replace hF := ift c48 hF
          refine q_aload_n C 0 dX12_term_36 rfl rfl ?_
          refine qg_11_0 C pi_249 tw_1053 dX12_term_37 ?_
          refine q_aload_n C 0 dX12_term_40 rfl rfl ?_
          refine qg_11_8 C pi_249 tw_1061 dX12_term_41 ?_
          obtain ⟨g49, hF⟩ := grd hF
          refine q_bald C pa_250 (vp_of g49) dX12_term_44 ?_
          refine q_bipush (v := 42) C dX12_term_45 (by decide) ?_
          refine q_icmp_ne (tgt := 54) C dX12_term_47 (by decide) (fun c50 => ?_) (fun c50 => ?_)
          · replace hF := ife c50 hF
            refine q_aload_n C 0 dX12_term_54 rfl rfl ?_
            refine qg_11_0 C pi_249 tw_1053 dX12_term_55 ?_
            refine q_aload_n C 0 dX12_term_58 rfl rfl ?_
            refine qg_11_8 C pi_249 tw_1061 dX12_term_59 ?_
            refine q_bald C pa_250 (vp_of g49) dX12_term_62 ?_
            refine q_bipush (v := 47) C dX12_term_63 (by decide) ?_
            refine q_icmp_ne (tgt := 72) C dX12_term_65 (by decide) (fun c51 => ?_) (fun c51 => ?_)
            · replace hF := ife c51 hF
              refine q_bipush (v := 14) C dX12_term_72 (by decide) ?_
              refine q_istore_n C [(1, .int 14), (0, .ref (ad (249)))] dX12_term_74 rfl (by decide) rfl ?_
              refine q_aload_n C 1 dX12_term_75 rfl rfl ?_
              refine q_dup C dX12_term_76 rfl ?_
              refine qg_11_8 C pi_249 tw_1061 dX12_term_77 ?_
              refine q_iconst (v := 1) C dX12_term_80 (by decide) ?_
              refine q_iadd C dX12_term_81 ?_
              refine qs_11_8 C pi_249 tw_1061 dX12_term_82 ?_
              refine q_aload_n C 1 dX12_term_85 rfl rfl ?_
              obtain ⟨q52, h53, hF⟩ := bnd hF
              try dsimp only at hF
              refine q_callVi C [] (c_X12_value l D ad ca kz C.2.2.2.2.2.2.1 _ _ _ h53) tw_1282 gm_X12_value pi_249.1 (pe_11 pi_249.2) rfl ⟨rfl, rfl⟩ ⟨Nat.le_trans (Nat.le_of_ble_eq_true rfl) hR.1, Nat.le_trans (Nat.le_of_ble_eq_true rfl) hR.2⟩ rfl (Nat.le_of_ble_eq_true rfl) dX12_term_86 q00 ?_
              refine q_if_ne (tgt := 94) C dX12_term_89 (by decide) (fun c54 => ?_) (fun c54 => ?_)
              · replace hF := ife c54 hF
                refine q_aload_n C 1 dX12_term_94 rfl rfl ?_
                refine q_iload_n C 0 dX12_term_95 rfl rfl ?_
                refine q_iconst (v := 0) C dX12_term_96 (by decide) ?_
                obtain ⟨q55, h56, hF⟩ := bnd hF
                try dsimp only at hF
                refine q_callVv C [.int 14, .int 0] (c_X12_puts l D ad ca kz C.2.2.2.2.2.2.1 _ _ _ _ _ h56) tw_1291 gm_X12_puts pi_249.1 (pe_11 pi_249.2) rfl ⟨rfl, rfl⟩ ⟨Nat.le_trans (Nat.le_of_ble_eq_true rfl) hR.1, Nat.le_trans (Nat.le_of_ble_eq_true rfl) hR.2⟩ rfl (Nat.le_of_ble_eq_true rfl) dX12_term_97 q00 ?_
                refine q_goto (tgt := 9) C dX12_term_100 (by decide) ?_
                refine q_sub [1] rfl ?_
                exact ih _ hF
              · replace hF := ift c54 hF
                cases hF
                refine q_sub [] rfl ?_
                exact hx0 rfl
            · replace hF := ift c51 hF
              refine q_iconst (v := 5) C dX12_term_68 (by decide) ?_
              refine q_goto (tgt := 74) C dX12_term_69 (by decide) ?_
              refine q_istore_n C [(1, .int 5), (0, .ref (ad (249)))] dX12_term_74 rfl (by decide) rfl ?_
              refine q_aload_n C 1 dX12_term_75 rfl rfl ?_
              refine q_dup C dX12_term_76 rfl ?_
              refine qg_11_8 C pi_249 tw_1061 dX12_term_77 ?_
              refine q_iconst (v := 1) C dX12_term_80 (by decide) ?_
              refine q_iadd C dX12_term_81 ?_
              refine qs_11_8 C pi_249 tw_1061 dX12_term_82 ?_
              refine q_aload_n C 1 dX12_term_85 rfl rfl ?_
              obtain ⟨q57, h58, hF⟩ := bnd hF
              try dsimp only at hF
              refine q_callVi C [] (c_X12_value l D ad ca kz C.2.2.2.2.2.2.1 _ _ _ h58) tw_1282 gm_X12_value pi_249.1 (pe_11 pi_249.2) rfl ⟨rfl, rfl⟩ ⟨Nat.le_trans (Nat.le_of_ble_eq_true rfl) hR.1, Nat.le_trans (Nat.le_of_ble_eq_true rfl) hR.2⟩ rfl (Nat.le_of_ble_eq_true rfl) dX12_term_86 q00 ?_
              refine q_if_ne (tgt := 94) C dX12_term_89 (by decide) (fun c59 => ?_) (fun c59 => ?_)
              · replace hF := ife c59 hF
                refine q_aload_n C 1 dX12_term_94 rfl rfl ?_
                refine q_iload_n C 0 dX12_term_95 rfl rfl ?_
                refine q_iconst (v := 0) C dX12_term_96 (by decide) ?_
                obtain ⟨q60, h61, hF⟩ := bnd hF
                try dsimp only at hF
                refine q_callVv C [.int 5, .int 0] (c_X12_puts l D ad ca kz C.2.2.2.2.2.2.1 _ _ _ _ _ h61) tw_1291 gm_X12_puts pi_249.1 (pe_11 pi_249.2) rfl ⟨rfl, rfl⟩ ⟨Nat.le_trans (Nat.le_of_ble_eq_true rfl) hR.1, Nat.le_trans (Nat.le_of_ble_eq_true rfl) hR.2⟩ rfl (Nat.le_of_ble_eq_true rfl) dX12_term_97 q00 ?_
                refine q_goto (tgt := 9) C dX12_term_100 (by decide) ?_
                refine q_sub [1] rfl ?_
                exact ih _ hF
              · replace hF := ift c59 hF
                cases hF
                refine q_sub [] rfl ?_
                exact hx0 rfl
          · replace hF := ift c50 hF
            refine q_iconst (v := 4) C dX12_term_50 (by decide) ?_
            refine q_goto (tgt := 74) C dX12_term_51 (by decide) ?_
            refine q_istore_n C [(1, .int 4), (0, .ref (ad (249)))] dX12_term_74 rfl (by decide) rfl ?_
            refine q_aload_n C 1 dX12_term_75 rfl rfl ?_
            refine q_dup C dX12_term_76 rfl ?_
            refine qg_11_8 C pi_249 tw_1061 dX12_term_77 ?_
            refine q_iconst (v := 1) C dX12_term_80 (by decide) ?_
            refine q_iadd C dX12_term_81 ?_
            refine qs_11_8 C pi_249 tw_1061 dX12_term_82 ?_
            refine q_aload_n C 1 dX12_term_85 rfl rfl ?_
            obtain ⟨q62, h63, hF⟩ := bnd hF
            try dsimp only at hF
            refine q_callVi C [] (c_X12_value l D ad ca kz C.2.2.2.2.2.2.1 _ _ _ h63) tw_1282 gm_X12_value pi_249.1 (pe_11 pi_249.2) rfl ⟨rfl, rfl⟩ ⟨Nat.le_trans (Nat.le_of_ble_eq_true rfl) hR.1, Nat.le_trans (Nat.le_of_ble_eq_true rfl) hR.2⟩ rfl (Nat.le_of_ble_eq_true rfl) dX12_term_86 q00 ?_
            refine q_if_ne (tgt := 94) C dX12_term_89 (by decide) (fun c64 => ?_) (fun c64 => ?_)
            · replace hF := ife c64 hF
              refine q_aload_n C 1 dX12_term_94 rfl rfl ?_
              refine q_iload_n C 0 dX12_term_95 rfl rfl ?_
              refine q_iconst (v := 0) C dX12_term_96 (by decide) ?_
              obtain ⟨q65, h66, hF⟩ := bnd hF
              try dsimp only at hF
              refine q_callVv C [.int 4, .int 0] (c_X12_puts l D ad ca kz C.2.2.2.2.2.2.1 _ _ _ _ _ h66) tw_1291 gm_X12_puts pi_249.1 (pe_11 pi_249.2) rfl ⟨rfl, rfl⟩ ⟨Nat.le_trans (Nat.le_of_ble_eq_true rfl) hR.1, Nat.le_trans (Nat.le_of_ble_eq_true rfl) hR.2⟩ rfl (Nat.le_of_ble_eq_true rfl) dX12_term_97 q00 ?_
              refine q_goto (tgt := 9) C dX12_term_100 (by decide) ?_
              refine q_sub [1] rfl ?_
              exact ih _ hF
            · replace hF := ift c64 hF
              cases hF
              refine q_sub [] rfl ?_
              exact hx0 rfl
set_option maxHeartbeats 4000000 in
set_option maxRecDepth 100000 in
theorem c_X12_term (l : Launch) (D : va_G) (ad : Nat → Nat) (ca : Nat → ClassId) (kz : Nat → Nat) (hJ : pInj ad) (n : Nat) (σ : PS) (out : Int32 × PS) (hF : F_X12_term n σ = some out) : Met l yX12_term (Cond.code yX12_term cX12_term 2 (Option.some Jvm.ClassFile.FieldType.boolean) :: gw_tbl) { frames := 4, cells := 0, slots := 0, locals := 88 } (va_Pc [.ref (ad (249))] (pU D ad ca kz σ)) (pQi D ad ca out) 0 0 (pAD ad) := by
  refine q_entry (own := "AskedCampModel") hJ (by decide) rfl (Nat.le_of_ble_eq_true rfl) (fun p e s m below meth c C hr hlk => ?_)
  refine q_lv [(0, .ref (ad (249)))] rfl ?_
  rw [F_X12_term] at hF
  refine q_aload_n C 0 dX12_term_0 rfl rfl ?_
  obtain ⟨q1, h2, hF⟩ := bnd hF
  try dsimp only at hF
  refine q_callVi C [] (c_X12_value l D ad ca kz C.2.2.2.2.2.2.1 _ _ _ h2) tw_1282 gm_X12_value pi_249.1 (pe_11 pi_249.2) rfl ⟨rfl, rfl⟩ ⟨Nat.le_of_ble_eq_true rfl, Nat.le_of_ble_eq_true rfl⟩ rfl (Nat.le_of_ble_eq_true rfl) dX12_term_1 q00 ?_
  refine q_if_ne (tgt := 9) C dX12_term_4 (by decide) (fun c3 => ?_) (fun c3 => ?_)
  · replace hF := ife c3 hF
    obtain ⟨o67, h68, hF⟩ := bnd hF
    try dsimp only at hF
    refine q_sub [0] rfl ?_
    refine l_X12_term_9 C ⟨Nat.le_of_ble_eq_true rfl, Nat.le_of_ble_eq_true rfl⟩ o67 (fun eo67_0 => ?_) (fun eo67_1 => ?_) n _ h68
    · -- exit 0
      replace hF := ift eo67_0 hF
      refine q_iconst (v := 0) C dX12_term_92 (by decide) ?_
      exact q_zret C hr hlk dX12_term_93 (by decide) hF
    · -- exit 1
      replace hF := ife (by rw [eo67_1]; decide) hF
      refine q_iconst (v := 1) C dX12_term_103 (by decide) ?_
      exact q_zret C hr hlk dX12_term_104 (by decide) hF
  · replace hF := ift c3 hF
    refine q_iconst (v := 0) C dX12_term_7 (by decide) ?_
    exact q_zret C hr hlk dX12_term_8 (by decide) hF
-- X12_sum
def L_X12_sum_9 (n : Nat) : Nat → PS → Option (Nat × PS)
  | 0, _ => none
  | k + 1, σ => (F_X12_see n σ).bind (fun q4 => (if q4.1 = (43 : Int32) then (if 0 ≤ (q4.2.1 249 8) ∧ (q4.2.1 249 8).toNatClampNeg < 400 then (if (q4.2.1 250 ((q4.2.1 249 8).toNatClampNeg)) = (43 : Int32) then (F_X12_term n (psI q4.2 249 8 ((q4.2.1 249 8) + (1 : Int32)))).bind (fun q14 => (if q14.1 = 0 then some (0, q14.2) else (F_X12_puts n (2 : Int32) (0 : Int32) q14.2).bind (fun q17 => L_X12_sum_9 n k q17))) else (F_X12_term n (psI q4.2 249 8 ((q4.2.1 249 8) + (1 : Int32)))).bind (fun q9 => (if q9.1 = 0 then some (0, q9.2) else (F_X12_puts n (3 : Int32) (0 : Int32) q9.2).bind (fun q12 => L_X12_sum_9 n k q12)))) else none) else (F_X12_see n q4.2).bind (fun q19 => (if q19.1 = (45 : Int32) then (if 0 ≤ (q19.2.1 249 8) ∧ (q19.2.1 249 8).toNatClampNeg < 400 then (if (q19.2.1 250 ((q19.2.1 249 8).toNatClampNeg)) = (43 : Int32) then (F_X12_term n (psI q19.2 249 8 ((q19.2.1 249 8) + (1 : Int32)))).bind (fun q29 => (if q29.1 = 0 then some (0, q29.2) else (F_X12_puts n (2 : Int32) (0 : Int32) q29.2).bind (fun q32 => L_X12_sum_9 n k q32))) else (F_X12_term n (psI q19.2 249 8 ((q19.2.1 249 8) + (1 : Int32)))).bind (fun q24 => (if q24.1 = 0 then some (0, q24.2) else (F_X12_puts n (3 : Int32) (0 : Int32) q24.2).bind (fun q27 => L_X12_sum_9 n k q27)))) else none) else some (1, q19.2)))))
def F_X12_sum (n : Nat) (σ : PS) : Option (Int32 × PS) := (F_X12_term n σ).bind (fun q1 => (if q1.1 = 0 then some ((0 : Int32), q1.2) else (L_X12_sum_9 n n q1.2).bind (fun o34 => (if o34.1 = 0 then some ((0 : Int32), o34.2) else some ((1 : Int32), o34.2)))))
theorem gm_X12_sum : gM "AskedCampModel" yX12_sum (Cond.code yX12_sum cX12_sum 2 (Option.some Jvm.ClassFile.FieldType.boolean)) 0 := ⟨by decide +kernel, tw_1276, tw_p43, tw_12, tw_1277⟩
set_option maxHeartbeats 4000000 in
set_option maxRecDepth 100000 in
theorem l_X12_sum_9 {p : Program} {l : Launch} {e : Env} {R : Room} {s : State} {m : MethodId} {args : Array Value} {below : List Frame} {meth : Method} {c : Code} {D : va_G} {ad : Nat → Nat} {ca : Nat → ClassId} {kz : Nat → Nat} {Q : State → Prop} (C : pC p s m args c cX12_sum "AskedCampModel" 2 D ad ca kz) (hR : 5 ≤ R.frames ∧ 109 ≤ R.locals) {n : Nat} (o : Nat × PS) (hx0 : o.1 = 0 → PW p l e R s m args below meth c 2 D ad ca 0 0 Q (o.2) 64 [] []) (hx1 : o.1 = 1 → PW p l e R s m args below meth c 2 D ad ca 0 0 Q (o.2) 75 [] []) : ∀ (k : Nat) (σ : PS), L_X12_sum_9 n k σ = some o → PW p l e R s m args below meth c 2 D ad ca 0 0 Q σ 9 [(0, .ref (ad (249)))] [] := by
  intro k
  induction k with
  | zero => intro σ hF; exact nomatch (show (none : Option (Nat × PS)) = some o from hF)
  | succ k ih =>
    intro σ hF
    rw [L_X12_sum_9] at hF
    refine q_aload_n C 0 dX12_sum_9 rfl rfl ?_
    obtain ⟨q4, h5, hF⟩ := bnd hF
    try dsimp only at hF
    refine q_callVi C [] (c_X12_see l D ad ca kz C.2.2.2.2.2.2.1 _ _ _ h5) tw_1207 gm_X12_see pi_249.1 (pe_11 pi_249.2) rfl ⟨rfl, rfl⟩ ⟨Nat.le_trans (Nat.le_of_ble_eq_true rfl) hR.1, Nat.le_trans (Nat.le_of_ble_eq_true rfl) hR.2⟩ rfl (Nat.le_of_ble_eq_true rfl) dX12_sum_10 q00 ?_
    refine q_bipush (v := 43) C dX12_sum_13 (by decide) ?_
    refine q_icmp_eq (tgt := 27) C dX12_sum_15 (by decide) (fun c6 => ?_) (fun c6 => ?_)
    · replace hF := ift c6 hF
      refine q_aload_n C 0 dX12_sum_27 rfl rfl ?_
      refine qg_11_0 C pi_249 tw_1053 dX12_sum_28 ?_
      refine q_aload_n C 0 dX12_sum_31 rfl rfl ?_
      refine qg_11_8 C pi_249 tw_1061 dX12_sum_32 ?_
      obtain ⟨g7, hF⟩ := grd hF
      refine q_bald C pa_250 (vp_of g7) dX12_sum_35 ?_
      refine q_bipush (v := 43) C dX12_sum_36 (by decide) ?_
      refine q_icmp_ne (tgt := 45) C dX12_sum_38 (by decide) (fun c8 => ?_) (fun c8 => ?_)
      · replace hF := ife c8 hF
        refine q_iconst (v := 3) C dX12_sum_45 (by decide) ?_
        refine q_istore_n C [(1, .int 3), (0, .ref (ad (249)))] dX12_sum_46 rfl (by decide) rfl ?_
        refine q_aload_n C 1 dX12_sum_47 rfl rfl ?_
        refine q_dup C dX12_sum_48 rfl ?_
        refine qg_11_8 C pi_249 tw_1061 dX12_sum_49 ?_
        refine q_iconst (v := 1) C dX12_sum_52 (by decide) ?_
        refine q_iadd C dX12_sum_53 ?_
        refine qs_11_8 C pi_249 tw_1061 dX12_sum_54 ?_
        refine q_aload_n C 1 dX12_sum_57 rfl rfl ?_
        obtain ⟨q9, h10, hF⟩ := bnd hF
        try dsimp only at hF
        refine q_callVi C [] (c_X12_term l D ad ca kz C.2.2.2.2.2.2.1 _ _ _ h10) tw_1278 gm_X12_term pi_249.1 (pe_11 pi_249.2) rfl ⟨rfl, rfl⟩ ⟨Nat.le_trans (Nat.le_of_ble_eq_true rfl) hR.1, Nat.le_trans (Nat.le_of_ble_eq_true rfl) hR.2⟩ rfl (Nat.le_of_ble_eq_true rfl) dX12_sum_58 q00 ?_
        refine q_if_ne (tgt := 66) C dX12_sum_61 (by decide) (fun c11 => ?_) (fun c11 => ?_)
        · replace hF := ife c11 hF
          refine q_aload_n C 1 dX12_sum_66 rfl rfl ?_
          refine q_iload_n C 0 dX12_sum_67 rfl rfl ?_
          refine q_iconst (v := 0) C dX12_sum_68 (by decide) ?_
          obtain ⟨q12, h13, hF⟩ := bnd hF
          try dsimp only at hF
          refine q_callVv C [.int 3, .int 0] (c_X12_puts l D ad ca kz C.2.2.2.2.2.2.1 _ _ _ _ _ h13) tw_1291 gm_X12_puts pi_249.1 (pe_11 pi_249.2) rfl ⟨rfl, rfl⟩ ⟨Nat.le_trans (Nat.le_of_ble_eq_true rfl) hR.1, Nat.le_trans (Nat.le_of_ble_eq_true rfl) hR.2⟩ rfl (Nat.le_of_ble_eq_true rfl) dX12_sum_69 q00 ?_
          refine q_goto (tgt := 9) C dX12_sum_72 (by decide) ?_
          refine q_sub [1] rfl ?_
          exact ih _ hF
        · replace hF := ift c11 hF
          cases hF
          refine q_sub [] rfl ?_
          exact hx0 rfl
      · replace hF := ift c8 hF
        refine q_iconst (v := 2) C dX12_sum_41 (by decide) ?_
        refine q_goto (tgt := 46) C dX12_sum_42 (by decide) ?_
        refine q_istore_n C [(1, .int 2), (0, .ref (ad (249)))] dX12_sum_46 rfl (by decide) rfl ?_
        refine q_aload_n C 1 dX12_sum_47 rfl rfl ?_
        refine q_dup C dX12_sum_48 rfl ?_
        refine qg_11_8 C pi_249 tw_1061 dX12_sum_49 ?_
        refine q_iconst (v := 1) C dX12_sum_52 (by decide) ?_
        refine q_iadd C dX12_sum_53 ?_
        refine qs_11_8 C pi_249 tw_1061 dX12_sum_54 ?_
        refine q_aload_n C 1 dX12_sum_57 rfl rfl ?_
        obtain ⟨q14, h15, hF⟩ := bnd hF
        try dsimp only at hF
        refine q_callVi C [] (c_X12_term l D ad ca kz C.2.2.2.2.2.2.1 _ _ _ h15) tw_1278 gm_X12_term pi_249.1 (pe_11 pi_249.2) rfl ⟨rfl, rfl⟩ ⟨Nat.le_trans (Nat.le_of_ble_eq_true rfl) hR.1, Nat.le_trans (Nat.le_of_ble_eq_true rfl) hR.2⟩ rfl (Nat.le_of_ble_eq_true rfl) dX12_sum_58 q00 ?_
        refine q_if_ne (tgt := 66) C dX12_sum_61 (by decide) (fun c16 => ?_) (fun c16 => ?_)
        · replace hF := ife c16 hF
          refine q_aload_n C 1 dX12_sum_66 rfl rfl ?_
          refine q_iload_n C 0 dX12_sum_67 rfl rfl ?_
          refine q_iconst (v := 0) C dX12_sum_68 (by decide) ?_
          obtain ⟨q17, h18, hF⟩ := bnd hF
          try dsimp only at hF
          refine q_callVv C [.int 2, .int 0] (c_X12_puts l D ad ca kz C.2.2.2.2.2.2.1 _ _ _ _ _ h18) tw_1291 gm_X12_puts pi_249.1 (pe_11 pi_249.2) rfl ⟨rfl, rfl⟩ ⟨Nat.le_trans (Nat.le_of_ble_eq_true rfl) hR.1, Nat.le_trans (Nat.le_of_ble_eq_true rfl) hR.2⟩ rfl (Nat.le_of_ble_eq_true rfl) dX12_sum_69 q00 ?_
          refine q_goto (tgt := 9) C dX12_sum_72 (by decide) ?_
          refine q_sub [1] rfl ?_
          exact ih _ hF
        · replace hF := ift c16 hF
          cases hF
          refine q_sub [] rfl ?_
          exact hx0 rfl
    · replace hF := ife c6 hF
      refine q_aload_n C 0 dX12_sum_18 rfl rfl ?_
      obtain ⟨q19, h20, hF⟩ := bnd hF
      try dsimp only at hF
      refine q_callVi C [] (c_X12_see l D ad ca kz C.2.2.2.2.2.2.1 _ _ _ h20) tw_1207 gm_X12_see pi_249.1 (pe_11 pi_249.2) rfl ⟨rfl, rfl⟩ ⟨Nat.le_trans (Nat.le_of_ble_eq_true rfl) hR.1, Nat.le_trans (Nat.le_of_ble_eq_true rfl) hR.2⟩ rfl (Nat.le_of_ble_eq_true rfl) dX12_sum_19 q00 ?_
      refine q_bipush (v := 45) C dX12_sum_22 (by decide) ?_
      refine q_icmp_ne (tgt := 75) C dX12_sum_24 (by decide) (fun c21 => ?_) (fun c21 => ?_)
      · replace hF := ife c21 hF
        cases hF
        refine q_sub [] rfl ?_
        exact hx1 rfl
      · replace hF := ift c21 hF
        refine q_aload_n C 0 dX12_sum_27 rfl rfl ?_
        refine qg_11_0 C pi_249 tw_1053 dX12_sum_28 ?_
        refine q_aload_n C 0 dX12_sum_31 rfl rfl ?_
        refine qg_11_8 C pi_249 tw_1061 dX12_sum_32 ?_
        obtain ⟨g22, hF⟩ := grd hF
        refine q_bald C pa_250 (vp_of g22) dX12_sum_35 ?_
        refine q_bipush (v := 43) C dX12_sum_36 (by decide) ?_
        refine q_icmp_ne (tgt := 45) C dX12_sum_38 (by decide) (fun c23 => ?_) (fun c23 => ?_)
        · replace hF := ife c23 hF
          refine q_iconst (v := 3) C dX12_sum_45 (by decide) ?_
          refine q_istore_n C [(1, .int 3), (0, .ref (ad (249)))] dX12_sum_46 rfl (by decide) rfl ?_
          refine q_aload_n C 1 dX12_sum_47 rfl rfl ?_
          refine q_dup C dX12_sum_48 rfl ?_
          refine qg_11_8 C pi_249 tw_1061 dX12_sum_49 ?_
          refine q_iconst (v := 1) C dX12_sum_52 (by decide) ?_
          refine q_iadd C dX12_sum_53 ?_
          refine qs_11_8 C pi_249 tw_1061 dX12_sum_54 ?_
          refine q_aload_n C 1 dX12_sum_57 rfl rfl ?_
          obtain ⟨q24, h25, hF⟩ := bnd hF
          try dsimp only at hF
          refine q_callVi C [] (c_X12_term l D ad ca kz C.2.2.2.2.2.2.1 _ _ _ h25) tw_1278 gm_X12_term pi_249.1 (pe_11 pi_249.2) rfl ⟨rfl, rfl⟩ ⟨Nat.le_trans (Nat.le_of_ble_eq_true rfl) hR.1, Nat.le_trans (Nat.le_of_ble_eq_true rfl) hR.2⟩ rfl (Nat.le_of_ble_eq_true rfl) dX12_sum_58 q00 ?_
          refine q_if_ne (tgt := 66) C dX12_sum_61 (by decide) (fun c26 => ?_) (fun c26 => ?_)
          · replace hF := ife c26 hF
            refine q_aload_n C 1 dX12_sum_66 rfl rfl ?_
            refine q_iload_n C 0 dX12_sum_67 rfl rfl ?_
            refine q_iconst (v := 0) C dX12_sum_68 (by decide) ?_
            obtain ⟨q27, h28, hF⟩ := bnd hF
            try dsimp only at hF
            refine q_callVv C [.int 3, .int 0] (c_X12_puts l D ad ca kz C.2.2.2.2.2.2.1 _ _ _ _ _ h28) tw_1291 gm_X12_puts pi_249.1 (pe_11 pi_249.2) rfl ⟨rfl, rfl⟩ ⟨Nat.le_trans (Nat.le_of_ble_eq_true rfl) hR.1, Nat.le_trans (Nat.le_of_ble_eq_true rfl) hR.2⟩ rfl (Nat.le_of_ble_eq_true rfl) dX12_sum_69 q00 ?_
            refine q_goto (tgt := 9) C dX12_sum_72 (by decide) ?_
            refine q_sub [1] rfl ?_
            exact ih _ hF
          · replace hF := ift c26 hF
            cases hF
            refine q_sub [] rfl ?_
            exact hx0 rfl
        · replace hF := ift c23 hF
          refine q_iconst (v := 2) C dX12_sum_41 (by decide) ?_
          refine q_goto (tgt := 46) C dX12_sum_42 (by decide) ?_
          refine q_istore_n C [(1, .int 2), (0, .ref (ad (249)))] dX12_sum_46 rfl (by decide) rfl ?_
          refine q_aload_n C 1 dX12_sum_47 rfl rfl ?_
          refine q_dup C dX12_sum_48 rfl ?_
          refine qg_11_8 C pi_249 tw_1061 dX12_sum_49 ?_
          refine q_iconst (v := 1) C dX12_sum_52 (by decide) ?_
          refine q_iadd C dX12_sum_53 ?_
          refine qs_11_8 C pi_249 tw_1061 dX12_sum_54 ?_
          refine q_aload_n C 1 dX12_sum_57 rfl rfl ?_
          obtain ⟨q29, h30, hF⟩ := bnd hF
          try dsimp only at hF
          refine q_callVi C [] (c_X12_term l D ad ca kz C.2.2.2.2.2.2.1 _ _ _ h30) tw_1278 gm_X12_term pi_249.1 (pe_11 pi_249.2) rfl ⟨rfl, rfl⟩ ⟨Nat.le_trans (Nat.le_of_ble_eq_true rfl) hR.1, Nat.le_trans (Nat.le_of_ble_eq_true rfl) hR.2⟩ rfl (Nat.le_of_ble_eq_true rfl) dX12_sum_58 q00 ?_
          refine q_if_ne (tgt := 66) C dX12_sum_61 (by decide) (fun c31 => ?_) (fun c31 => ?_)
          · replace hF := ife c31 hF
            refine q_aload_n C 1 dX12_sum_66 rfl rfl ?_
            refine q_iload_n C 0 dX12_sum_67 rfl rfl ?_
            refine q_iconst (v := 0) C dX12_sum_68 (by decide) ?_
            obtain ⟨q32, h33, hF⟩ := bnd hF
            try dsimp only at hF
            refine q_callVv C [.int 2, .int 0] (c_X12_puts l D ad ca kz C.2.2.2.2.2.2.1 _ _ _ _ _ h33) tw_1291 gm_X12_puts pi_249.1 (pe_11 pi_249.2) rfl ⟨rfl, rfl⟩ ⟨Nat.le_trans (Nat.le_of_ble_eq_true rfl) hR.1, Nat.le_trans (Nat.le_of_ble_eq_true rfl) hR.2⟩ rfl (Nat.le_of_ble_eq_true rfl) dX12_sum_69 q00 ?_
            refine q_goto (tgt := 9) C dX12_sum_72 (by decide) ?_
            refine q_sub [1] rfl ?_
            exact ih _ hF
          · replace hF := ift c31 hF
            cases hF
            refine q_sub [] rfl ?_
            exact hx0 rfl
set_option maxHeartbeats 4000000 in
set_option maxRecDepth 100000 in
theorem c_X12_sum (l : Launch) (D : va_G) (ad : Nat → Nat) (ca : Nat → ClassId) (kz : Nat → Nat) (hJ : pInj ad) (n : Nat) (σ : PS) (out : Int32 × PS) (hF : F_X12_sum n σ = some out) : Met l yX12_sum (Cond.code yX12_sum cX12_sum 2 (Option.some Jvm.ClassFile.FieldType.boolean) :: gw_tbl) { frames := 5, cells := 0, slots := 0, locals := 109 } (va_Pc [.ref (ad (249))] (pU D ad ca kz σ)) (pQi D ad ca out) 0 0 (pAD ad) := by
  refine q_entry (own := "AskedCampModel") hJ (by decide) rfl (Nat.le_of_ble_eq_true rfl) (fun p e s m below meth c C hr hlk => ?_)
  refine q_lv [(0, .ref (ad (249)))] rfl ?_
  rw [F_X12_sum] at hF
  refine q_aload_n C 0 dX12_sum_0 rfl rfl ?_
  obtain ⟨q1, h2, hF⟩ := bnd hF
  try dsimp only at hF
  refine q_callVi C [] (c_X12_term l D ad ca kz C.2.2.2.2.2.2.1 _ _ _ h2) tw_1278 gm_X12_term pi_249.1 (pe_11 pi_249.2) rfl ⟨rfl, rfl⟩ ⟨Nat.le_of_ble_eq_true rfl, Nat.le_of_ble_eq_true rfl⟩ rfl (Nat.le_of_ble_eq_true rfl) dX12_sum_1 q00 ?_
  refine q_if_ne (tgt := 9) C dX12_sum_4 (by decide) (fun c3 => ?_) (fun c3 => ?_)
  · replace hF := ife c3 hF
    obtain ⟨o34, h35, hF⟩ := bnd hF
    try dsimp only at hF
    refine q_sub [0] rfl ?_
    refine l_X12_sum_9 C ⟨Nat.le_of_ble_eq_true rfl, Nat.le_of_ble_eq_true rfl⟩ o34 (fun eo34_0 => ?_) (fun eo34_1 => ?_) n _ h35
    · -- exit 0
      replace hF := ift eo34_0 hF
      refine q_iconst (v := 0) C dX12_sum_64 (by decide) ?_
      exact q_zret C hr hlk dX12_sum_65 (by decide) hF
    · -- exit 1
      replace hF := ife (by rw [eo34_1]; decide) hF
      refine q_iconst (v := 1) C dX12_sum_75 (by decide) ?_
      exact q_zret C hr hlk dX12_sum_76 (by decide) hF
  · replace hF := ift c3 hF
    refine q_iconst (v := 0) C dX12_sum_7 (by decide) ?_
    exact q_zret C hr hlk dX12_sum_8 (by decide) hF
-- X12_takesWord
def F_X12_takesWord (n : Nat) (a1 : Int64) (σ : PS) : Option (Int32 × PS) := (F_X12_isWord n a1 σ).bind (fun q1 => (if q1.1 = 0 then some ((0 : Int32), q1.2) else (F_X12_passWord n q1.2).bind (fun q4 => some ((1 : Int32), q4))))
theorem gm_X12_takesWord : gM "AskedCampModel" yX12_takesWord (Cond.code yX12_takesWord cX12_takesWord 3 (Option.some Jvm.ClassFile.FieldType.boolean)) 1 := ⟨by decide +kernel, tw_1313, tw_p49, tw_12, tw_1314⟩
set_option maxHeartbeats 4000000 in
set_option maxRecDepth 100000 in
theorem c_X12_takesWord (l : Launch) (D : va_G) (ad : Nat → Nat) (ca : Nat → ClassId) (kz : Nat → Nat) (hJ : pInj ad) (n : Nat) (a1 : Int64) (σ : PS) (out : Int32 × PS) (hF : F_X12_takesWord n a1 σ = some out) : Met l yX12_takesWord (Cond.code yX12_takesWord cX12_takesWord 3 (Option.some Jvm.ClassFile.FieldType.boolean) :: gw_tbl) { frames := 2, cells := 0, slots := 0, locals := 46 } (va_Pc [.ref (ad (249)), .long a1] (pU D ad ca kz σ)) (pQi D ad ca out) 0 0 (pAD ad) := by
  refine q_entry (own := "AskedCampModel") hJ (by decide) rfl (Nat.le_of_ble_eq_true rfl) (fun p e s m below meth c C hr hlk => ?_)
  refine q_lv [(0, .ref (ad (249))), (1, .long a1)] rfl ?_
  rw [F_X12_takesWord] at hF
  refine q_aload_n C 0 dX12_takesWord_0 rfl rfl ?_
  refine q_lload_n C 1 dX12_takesWord_1 rfl rfl ?_
  obtain ⟨q1, h2, hF⟩ := bnd hF
  try dsimp only at hF
  refine q_callVi C [.long a1] (c_X12_isWord l D ad ca kz C.2.2.2.2.2.2.1 _ _ _ _ h2) tw_1216 gm_X12_isWord pi_249.1 (pe_11 pi_249.2) rfl ⟨rfl, rfl⟩ ⟨Nat.le_of_ble_eq_true rfl, Nat.le_of_ble_eq_true rfl⟩ rfl (Nat.le_of_ble_eq_true rfl) dX12_takesWord_2 q00 ?_
  refine q_if_ne (tgt := 10) C dX12_takesWord_5 (by decide) (fun c3 => ?_) (fun c3 => ?_)
  · replace hF := ife c3 hF
    refine q_aload_n C 0 dX12_takesWord_10 rfl rfl ?_
    obtain ⟨q4, h5, hF⟩ := bnd hF
    try dsimp only at hF
    refine q_callVv C [] (c_X12_passWord l D ad ca kz C.2.2.2.2.2.2.1 _ _ _ h5) tw_1239 gm_X12_passWord pi_249.1 (pe_11 pi_249.2) rfl ⟨rfl, rfl⟩ ⟨Nat.le_of_ble_eq_true rfl, Nat.le_of_ble_eq_true rfl⟩ rfl (Nat.le_of_ble_eq_true rfl) dX12_takesWord_11 q00 ?_
    refine q_iconst (v := 1) C dX12_takesWord_14 (by decide) ?_
    exact q_zret C hr hlk dX12_takesWord_15 (by decide) hF
  · replace hF := ift c3 hF
    refine q_iconst (v := 0) C dX12_takesWord_8 (by decide) ?_
    exact q_zret C hr hlk dX12_takesWord_9 (by decide) hF
-- X12_isInside
def L_X12_isInside_2 (n : Nat) : Nat → Int32 → PS → Option (Nat × PS)
  | 0, _, _ => none
  | k + 1, x1, σ => (if (σ.1 249 16) ≤ x1 then some (1, σ) else (if 0 ≤ x1 ∧ x1.toNatClampNeg < 400 then (if (σ.1 256 x1.toNatClampNeg) = (91 : Int32) then some (0, σ) else L_X12_isInside_2 n k (x1 + 1) σ) else none))
def F_X12_isInside (n : Nat) (σ : PS) : Option (Int32 × PS) := (L_X12_isInside_2 n n (0 : Int32) σ).bind (fun o4 => (if o4.1 = 0 then some ((1 : Int32), o4.2) else some ((0 : Int32), o4.2)))
theorem gm_X12_isInside : gM "AskedCampModel" yX12_isInside (Cond.code yX12_isInside cX12_isInside 2 (Option.some Jvm.ClassFile.FieldType.boolean)) 0 := ⟨by decide +kernel, tw_1345, tw_p56, tw_12, tw_1346⟩
set_option maxHeartbeats 4000000 in
set_option maxRecDepth 100000 in
theorem l_X12_isInside_2 {p : Program} {l : Launch} {e : Env} {R : Room} {s : State} {m : MethodId} {args : Array Value} {below : List Frame} {meth : Method} {c : Code} {D : va_G} {ad : Nat → Nat} {ca : Nat → ClassId} {kz : Nat → Nat} {Q : State → Prop} (C : pC p s m args c cX12_isInside "AskedCampModel" 2 D ad ca kz) (hR : 0 ≤ R.frames ∧ 0 ≤ R.locals) {n : Nat} (o : Nat × PS) (hx0 : o.1 = 0 → PW p l e R s m args below meth c 2 D ad ca 0 0 Q (o.2) 21 [] []) (hx1 : o.1 = 1 → PW p l e R s m args below meth c 2 D ad ca 0 0 Q (o.2) 29 [] []) : ∀ (k : Nat) (x1 : Int32) (σ : PS), L_X12_isInside_2 n k x1 σ = some o → PW p l e R s m args below meth c 2 D ad ca 0 0 Q σ 2 [(0, .ref (ad (249))), (1, .int x1)] [] := by
  intro k
  induction k with
  | zero => intro x1 σ hF; exact nomatch (show (none : Option (Nat × PS)) = some o from hF)
  | succ k ih =>
    intro x1 σ hF
    rw [L_X12_isInside_2] at hF
    refine q_iload_n C 1 dX12_isInside_2 rfl rfl ?_
    refine q_aload_n C 0 dX12_isInside_3 rfl rfl ?_
    refine qg_11_16 C pi_249 tw_1069 dX12_isInside_4 ?_
    refine q_icmp_ge (tgt := 29) C dX12_isInside_7 (by decide) (fun c1 => ?_) (fun c1 => ?_)
    · replace hF := ift c1 hF
      cases hF
      refine q_sub [] rfl ?_
      exact hx1 rfl
    · replace hF := ife c1 hF
      refine q_aload_n C 0 dX12_isInside_10 rfl rfl ?_
      refine qg_11_15 C pi_249 tw_1068 dX12_isInside_11 ?_
      refine q_iload_n C 1 dX12_isInside_14 rfl rfl ?_
      obtain ⟨g2, hF⟩ := grd hF
      refine q_iald C pa_256 (vp_of g2) dX12_isInside_15 ?_
      refine q_bipush (v := 91) C dX12_isInside_16 (by decide) ?_
      refine q_icmp_ne (tgt := 23) C dX12_isInside_18 (by decide) (fun c3 => ?_) (fun c3 => ?_)
      · replace hF := ife c3 hF
        refine q_iinc C 1 [(1, .int (x1 + 1)), (0, .ref (ad (249)))] dX12_isInside_23 rfl rfl (by decide) rfl ?_
        refine q_goto (tgt := 2) C dX12_isInside_26 (by decide) ?_
        refine q_sub [1, 0] rfl ?_
        exact ih _ _ hF
      · replace hF := ift c3 hF
        cases hF
        refine q_sub [] rfl ?_
        exact hx0 rfl
set_option maxHeartbeats 4000000 in
set_option maxRecDepth 100000 in
theorem c_X12_isInside (l : Launch) (D : va_G) (ad : Nat → Nat) (ca : Nat → ClassId) (kz : Nat → Nat) (hJ : pInj ad) (n : Nat) (σ : PS) (out : Int32 × PS) (hF : F_X12_isInside n σ = some out) : Met l yX12_isInside (Cond.code yX12_isInside cX12_isInside 2 (Option.some Jvm.ClassFile.FieldType.boolean) :: gw_tbl) { frames := 0, cells := 0, slots := 0, locals := 0 } (va_Pc [.ref (ad (249))] (pU D ad ca kz σ)) (pQi D ad ca out) 0 0 (pAD ad) := by
  refine q_entry (own := "AskedCampModel") hJ (by decide) rfl (Nat.le_of_ble_eq_true rfl) (fun p e s m below meth c C hr hlk => ?_)
  refine q_lv [(0, .ref (ad (249)))] rfl ?_
  rw [F_X12_isInside] at hF
  refine q_iconst (v := 0) C dX12_isInside_0 (by decide) ?_
  refine q_istore_n C [(1, .int 0), (0, .ref (ad (249)))] dX12_isInside_1 rfl (by decide) rfl ?_
  obtain ⟨o4, h5, hF⟩ := bnd hF
  try dsimp only at hF
  refine q_sub [1, 0] rfl ?_
  refine l_X12_isInside_2 C ⟨Nat.le_of_ble_eq_true rfl, Nat.le_of_ble_eq_true rfl⟩ o4 (fun eo4_0 => ?_) (fun eo4_1 => ?_) n _ _ h5
  · -- exit 0
    replace hF := ift eo4_0 hF
    refine q_iconst (v := 1) C dX12_isInside_21 (by decide) ?_
    exact q_zret C hr hlk dX12_isInside_22 (by decide) hF
  · -- exit 1
    replace hF := ife (by rw [eo4_1]; decide) hF
    refine q_iconst (v := 0) C dX12_isInside_29 (by decide) ?_
    exact q_zret C hr hlk dX12_isInside_30 (by decide) hF
-- X12_strength
def F_X12_strength (n : Nat) (a0 : Int32) (σ : PS) : Option (Int32 × PS) := (if a0 = (13 : Int32) then some ((1 : Int32), σ) else (if a0 = (12 : Int32) then some ((2 : Int32), σ) else (if a0 = (11 : Int32) then some ((3 : Int32), σ) else some ((0 : Int32), σ))))
theorem gm_X12_strength : gS yX12_strength (Cond.code yX12_strength cX12_strength 1 (Option.some Jvm.ClassFile.FieldType.int)) 1 := ⟨by decide +kernel, tw_1341, tw_12, tw_1342⟩
set_option maxHeartbeats 4000000 in
set_option maxRecDepth 100000 in
theorem c_X12_strength (l : Launch) (D : va_G) (ad : Nat → Nat) (ca : Nat → ClassId) (kz : Nat → Nat) (hJ : pInj ad) (n : Nat) (a0 : Int32) (σ : PS) (out : Int32 × PS) (hF : F_X12_strength n a0 σ = some out) : Met l yX12_strength (Cond.code yX12_strength cX12_strength 1 (Option.some Jvm.ClassFile.FieldType.int) :: gw_tbl) { frames := 0, cells := 0, slots := 0, locals := 0 } (va_Pc [.int a0] (pU D ad ca kz σ)) (pQi D ad ca out) 0 0 (pAD ad) := by
  refine q_entry (own := "AskedCampModel") hJ (by decide) rfl (Nat.le_of_ble_eq_true rfl) (fun p e s m below meth c C hr hlk => ?_)
  refine q_lv [(0, .int a0)] rfl ?_
  rw [F_X12_strength] at hF
  refine q_iload_n C 0 dX12_strength_0 rfl rfl ?_
  refine q_bipush (v := 13) C dX12_strength_1 (by decide) ?_
  refine q_icmp_ne (tgt := 10) C dX12_strength_3 (by decide) (fun c1 => ?_) (fun c1 => ?_)
  · replace hF := ife c1 hF
    refine q_iload_n C 0 dX12_strength_10 rfl rfl ?_
    refine q_bipush (v := 12) C dX12_strength_11 (by decide) ?_
    refine q_icmp_ne (tgt := 20) C dX12_strength_13 (by decide) (fun c2 => ?_) (fun c2 => ?_)
    · replace hF := ife c2 hF
      refine q_iload_n C 0 dX12_strength_20 rfl rfl ?_
      refine q_bipush (v := 11) C dX12_strength_21 (by decide) ?_
      refine q_icmp_ne (tgt := 30) C dX12_strength_23 (by decide) (fun c3 => ?_) (fun c3 => ?_)
      · replace hF := ife c3 hF
        refine q_iconst (v := 0) C dX12_strength_30 (by decide) ?_
        exact q_iret C hr hlk dX12_strength_31 hF
      · replace hF := ift c3 hF
        refine q_iconst (v := 3) C dX12_strength_26 (by decide) ?_
        refine q_goto (tgt := 31) C dX12_strength_27 (by decide) ?_
        exact q_iret C hr hlk dX12_strength_31 hF
    · replace hF := ift c2 hF
      refine q_iconst (v := 2) C dX12_strength_16 (by decide) ?_
      refine q_goto (tgt := 31) C dX12_strength_17 (by decide) ?_
      exact q_iret C hr hlk dX12_strength_31 hF
  · replace hF := ift c1 hF
    refine q_iconst (v := 1) C dX12_strength_6 (by decide) ?_
    refine q_goto (tgt := 31) C dX12_strength_7 (by decide) ?_
    exact q_iret C hr hlk dX12_strength_31 hF
-- X12_layDown
def L_X12_layDown_0 (n : Nat) : Nat → Int32 → PS → Option (PS)
  | 0, _, _ => none
  | k + 1, x1, σ => (if (σ.1 249 16) ≤ 0 then some σ else (if 0 ≤ ((σ.1 249 16) - (1 : Int32)) ∧ ((σ.1 249 16) - (1 : Int32)).toNatClampNeg < 400 then (F_X12_strength n (σ.1 256 (((σ.1 249 16) - (1 : Int32)).toNatClampNeg)) σ).bind (fun q3 => (if q3.1 < x1 then some q3.2 else (if 0 ≤ ((psI q3.2 249 16 ((q3.2.1 249 16) - (1 : Int32))).1 249 16) ∧ ((psI q3.2 249 16 ((q3.2.1 249 16) - (1 : Int32))).1 249 16).toNatClampNeg < 400 then (F_X12_puts n ((psI q3.2 249 16 ((q3.2.1 249 16) - (1 : Int32))).1 256 (((psI q3.2 249 16 ((q3.2.1 249 16) - (1 : Int32))).1 249 16).toNatClampNeg)) (0 : Int32) (psI q3.2 249 16 ((q3.2.1 249 16) - (1 : Int32)))).bind (fun q7 => (if 0 ≤ (q7.1 249 16) ∧ (q7.1 249 16).toNatClampNeg < 400 then (if (q7.1 256 ((q7.1 249 16).toNatClampNeg)) = (11 : Int32) then L_X12_layDown_0 n k x1 (psI q7 249 13 ((q7.1 249 13) - (1 : Int32))) else L_X12_layDown_0 n k x1 q7) else none)) else none))) else none))
def F_X12_layDown (n : Nat) (a1 : Int32) (σ : PS) : Option (PS) := (L_X12_layDown_0 n n a1 σ).bind (fun o11 => some o11)
theorem gm_X12_layDown : gM "AskedCampModel" yX12_layDown (Cond.code yX12_layDown cX12_layDown 2 (Option.none : Option Jvm.ClassFile.FieldType)) 1 := ⟨by decide +kernel, tw_1338, tw_p55, tw_12, tw_1339⟩
set_option maxHeartbeats 4000000 in
set_option maxRecDepth 100000 in
theorem l_X12_layDown_0 {p : Program} {l : Launch} {e : Env} {R : Room} {s : State} {m : MethodId} {args : Array Value} {below : List Frame} {meth : Method} {c : Code} {D : va_G} {ad : Nat → Nat} {ca : Nat → ClassId} {kz : Nat → Nat} {Q : State → Prop} (C : pC p s m args c cX12_layDown "AskedCampModel" 2 D ad ca kz) (hR : 1 ≤ R.frames ∧ 22 ≤ R.locals) {n : Nat} (o : PS) (hx0 : PW p l e R s m args below meth c 2 D ad ca 0 0 Q (o) 76 [] []) : ∀ (k : Nat) (x1 : Int32) (σ : PS), L_X12_layDown_0 n k x1 σ = some o → PW p l e R s m args below meth c 2 D ad ca 0 0 Q σ 0 [(0, .ref (ad (249))), (1, .int x1)] [] := by
  intro k
  induction k with
  | zero => intro x1 σ hF; exact nomatch (show (none : Option (PS)) = some o from hF)
  | succ k ih =>
    intro x1 σ hF
    rw [L_X12_layDown_0] at hF
    refine q_aload_n C 0 dX12_layDown_0 rfl rfl ?_
    refine qg_11_16 C pi_249 tw_1069 dX12_layDown_1 ?_
    refine q_if_le (tgt := 76) C dX12_layDown_4 (by decide) (fun c1 => ?_) (fun c1 => ?_)
    · replace hF := ift c1 hF
      cases hF
      refine q_sub [] rfl ?_
      exact hx0
    · replace hF := ife c1 hF
      refine q_aload_n C 0 dX12_layDown_7 rfl rfl ?_
      refine qg_11_15 C pi_249 tw_1068 dX12_layDown_8 ?_
      refine q_aload_n C 0 dX12_layDown_11 rfl rfl ?_
      refine qg_11_16 C pi_249 tw_1069 dX12_layDown_12 ?_
      refine q_iconst (v := 1) C dX12_layDown_15 (by decide) ?_
      refine q_isub C dX12_layDown_16 ?_
      obtain ⟨g2, hF⟩ := grd hF
      refine q_iald C pa_256 (vp_of g2) dX12_layDown_17 ?_
      obtain ⟨q3, h4, hF⟩ := bnd hF
      try dsimp only at hF
      refine q_callSi C [.int (σ.1 256 (((σ.1 249 16) - (1 : Int32)).toNatClampNeg))] (c_X12_strength l D ad ca kz C.2.2.2.2.2.2.1 _ _ _ _ h4) tw_1340 gm_X12_strength ⟨rfl, rfl⟩ ⟨Nat.le_trans (Nat.le_of_ble_eq_true rfl) hR.1, Nat.le_trans (Nat.le_of_ble_eq_true rfl) hR.2⟩ rfl (Nat.le_of_ble_eq_true rfl) dX12_layDown_18 q00 ?_
      refine q_iload_n C 1 dX12_layDown_21 rfl rfl ?_
      refine q_icmp_lt (tgt := 76) C dX12_layDown_22 (by decide) (fun c5 => ?_) (fun c5 => ?_)
      · replace hF := ift c5 hF
        cases hF
        refine q_sub [] rfl ?_
        exact hx0
      · replace hF := ife c5 hF
        refine q_aload_n C 0 dX12_layDown_25 rfl rfl ?_
        refine q_dup C dX12_layDown_26 rfl ?_
        refine qg_11_16 C pi_249 tw_1069 dX12_layDown_27 ?_
        refine q_iconst (v := 1) C dX12_layDown_30 (by decide) ?_
        refine q_isub C dX12_layDown_31 ?_
        refine qs_11_16 C pi_249 tw_1069 dX12_layDown_32 ?_
        refine q_aload_n C 0 dX12_layDown_35 rfl rfl ?_
        refine q_aload_n C 0 dX12_layDown_36 rfl rfl ?_
        refine qg_11_15 C pi_249 tw_1068 dX12_layDown_37 ?_
        refine q_aload_n C 0 dX12_layDown_40 rfl rfl ?_
        refine qg_11_16 C pi_249 tw_1069 dX12_layDown_41 ?_
        obtain ⟨g6, hF⟩ := grd hF
        refine q_iald C pa_256 (vp_of g6) dX12_layDown_44 ?_
        refine q_iconst (v := 0) C dX12_layDown_45 (by decide) ?_
        obtain ⟨q7, h8, hF⟩ := bnd hF
        try dsimp only at hF
        refine q_callVv C [.int ((psI q3.2 249 16 ((q3.2.1 249 16) - (1 : Int32))).1 256 (((psI q3.2 249 16 ((q3.2.1 249 16) - (1 : Int32))).1 249 16).toNatClampNeg)), .int 0] (c_X12_puts l D ad ca kz C.2.2.2.2.2.2.1 _ _ _ _ _ h8) tw_1291 gm_X12_puts pi_249.1 (pe_11 pi_249.2) rfl ⟨rfl, rfl⟩ ⟨Nat.le_trans (Nat.le_of_ble_eq_true rfl) hR.1, Nat.le_trans (Nat.le_of_ble_eq_true rfl) hR.2⟩ rfl (Nat.le_of_ble_eq_true rfl) dX12_layDown_46 q00 ?_
        refine q_aload_n C 0 dX12_layDown_49 rfl rfl ?_
        refine qg_11_15 C pi_249 tw_1068 dX12_layDown_50 ?_
        refine q_aload_n C 0 dX12_layDown_53 rfl rfl ?_
        refine qg_11_16 C pi_249 tw_1069 dX12_layDown_54 ?_
        obtain ⟨g9, hF⟩ := grd hF
        refine q_iald C pa_256 (vp_of g9) dX12_layDown_57 ?_
        refine q_bipush (v := 11) C dX12_layDown_58 (by decide) ?_
        refine q_icmp_ne (tgt := 0) C dX12_layDown_60 (by decide) (fun c10 => ?_) (fun c10 => ?_)
        · replace hF := ife c10 hF
          refine q_sub [0, 1] rfl ?_
          exact ih _ _ hF
        · replace hF := ift c10 hF
          refine q_aload_n C 0 dX12_layDown_63 rfl rfl ?_
          refine q_dup C dX12_layDown_64 rfl ?_
          refine qg_11_13 C pi_249 tw_1066 dX12_layDown_65 ?_
          refine q_iconst (v := 1) C dX12_layDown_68 (by decide) ?_
          refine q_isub C dX12_layDown_69 ?_
          refine qs_11_13 C pi_249 tw_1066 dX12_layDown_70 ?_
          refine q_goto (tgt := 0) C dX12_layDown_73 (by decide) ?_
          refine q_sub [0, 1] rfl ?_
          exact ih _ _ hF
set_option maxHeartbeats 4000000 in
set_option maxRecDepth 100000 in
theorem c_X12_layDown (l : Launch) (D : va_G) (ad : Nat → Nat) (ca : Nat → ClassId) (kz : Nat → Nat) (hJ : pInj ad) (n : Nat) (a1 : Int32) (σ : PS) (out : PS) (hF : F_X12_layDown n a1 σ = some out) : Met l yX12_layDown (Cond.code yX12_layDown cX12_layDown 2 (Option.none : Option Jvm.ClassFile.FieldType) :: gw_tbl) { frames := 1, cells := 0, slots := 0, locals := 22 } (va_Pc [.ref (ad (249)), .int a1] (pU D ad ca kz σ)) (pQv D ad ca out) 0 0 (pAD ad) := by
  refine q_entry (own := "AskedCampModel") hJ (by decide) rfl (Nat.le_of_ble_eq_true rfl) (fun p e s m below meth c C hr hlk => ?_)
  refine q_lv [(0, .ref (ad (249))), (1, .int a1)] rfl ?_
  rw [F_X12_layDown] at hF
  obtain ⟨o11, h12, hF⟩ := bnd hF
  try dsimp only at hF
  refine q_sub [0, 1] rfl ?_
  refine l_X12_layDown_0 C ⟨Nat.le_of_ble_eq_true rfl, Nat.le_of_ble_eq_true rfl⟩ o11 ?_ n _ _ h12
  exact q_vret C hr hlk dX12_layDown_76 hF
-- X12_closes
def L_X12_closes_5 (n : Nat) : Nat → PS → Option (PS)
  | 0, _ => none
  | k + 1, σ => (F_X12_see n σ).bind (fun q3 => (if q3.1 = (93 : Int32) then (F_X12_isInside n q3.2).bind (fun q6 => (if q6.1 = 0 then some q6.2 else (F_X12_layDown n (1 : Int32) q6.2).bind (fun q9 => (F_X12_layDown n (3 : Int32) (psI (psI (psI q9 249 16 ((q9.1 249 16) - (1 : Int32))) 249 13 (((psI q9 249 16 ((q9.1 249 16) - (1 : Int32))).1 249 13) - (1 : Int32))) 249 8 (((psI (psI q9 249 16 ((q9.1 249 16) - (1 : Int32))) 249 13 (((psI q9 249 16 ((q9.1 249 16) - (1 : Int32))).1 249 13) - (1 : Int32))).1 249 8) + (1 : Int32)))).bind (fun q11 => L_X12_closes_5 n k q11)))) else some q3.2))
def F_X12_closes (n : Nat) (σ : PS) : Option (PS) := (F_X12_layDown n (3 : Int32) σ).bind (fun q1 => (L_X12_closes_5 n n q1).bind (fun o13 => some o13))
theorem gm_X12_closes : gM "AskedCampModel" yX12_closes (Cond.code yX12_closes cX12_closes 1 (Option.none : Option Jvm.ClassFile.FieldType)) 0 := ⟨by decide +kernel, tw_1334, tw_p54, tw_12, tw_1335⟩
set_option maxHeartbeats 4000000 in
set_option maxRecDepth 100000 in
theorem l_X12_closes_5 {p : Program} {l : Launch} {e : Env} {R : Room} {s : State} {m : MethodId} {args : Array Value} {below : List Frame} {meth : Method} {c : Code} {D : va_G} {ad : Nat → Nat} {ca : Nat → ClassId} {kz : Nat → Nat} {Q : State → Prop} (C : pC p s m args c cX12_closes "AskedCampModel" 1 D ad ca kz) (hR : 2 ≤ R.frames ∧ 43 ≤ R.locals) {n : Nat} (o : PS) (hx0 : PW p l e R s m args below meth c 1 D ad ca 0 0 Q (o) 64 [] []) : ∀ (k : Nat) (σ : PS), L_X12_closes_5 n k σ = some o → PW p l e R s m args below meth c 1 D ad ca 0 0 Q σ 5 [(0, .ref (ad (249)))] [] := by
  intro k
  induction k with
  | zero => intro σ hF; exact nomatch (show (none : Option (PS)) = some o from hF)
  | succ k ih =>
    intro σ hF
    rw [L_X12_closes_5] at hF
    refine q_aload_n C 0 dX12_closes_5 rfl rfl ?_
    obtain ⟨q3, h4, hF⟩ := bnd hF
    try dsimp only at hF
    refine q_callVi C [] (c_X12_see l D ad ca kz C.2.2.2.2.2.2.1 _ _ _ h4) tw_1207 gm_X12_see pi_249.1 (pe_11 pi_249.2) rfl ⟨rfl, rfl⟩ ⟨Nat.le_trans (Nat.le_of_ble_eq_true rfl) hR.1, Nat.le_trans (Nat.le_of_ble_eq_true rfl) hR.2⟩ rfl (Nat.le_of_ble_eq_true rfl) dX12_closes_6 q00 ?_
    refine q_bipush (v := 93) C dX12_closes_9 (by decide) ?_
    refine q_icmp_ne (tgt := 64) C dX12_closes_11 (by decide) (fun c5 => ?_) (fun c5 => ?_)
    · replace hF := ife c5 hF
      cases hF
      refine q_sub [] rfl ?_
      exact hx0
    · replace hF := ift c5 hF
      refine q_aload_n C 0 dX12_closes_14 rfl rfl ?_
      obtain ⟨q6, h7, hF⟩ := bnd hF
      try dsimp only at hF
      refine q_callVi C [] (c_X12_isInside l D ad ca kz C.2.2.2.2.2.2.1 _ _ _ h7) tw_1343 gm_X12_isInside pi_249.1 (pe_11 pi_249.2) rfl ⟨rfl, rfl⟩ ⟨Nat.le_trans (Nat.le_of_ble_eq_true rfl) hR.1, Nat.le_trans (Nat.le_of_ble_eq_true rfl) hR.2⟩ rfl (Nat.le_of_ble_eq_true rfl) dX12_closes_15 q00 ?_
      refine q_if_eq (tgt := 64) C dX12_closes_18 (by decide) (fun c8 => ?_) (fun c8 => ?_)
      · replace hF := ift c8 hF
        cases hF
        refine q_sub [] rfl ?_
        exact hx0
      · replace hF := ife c8 hF
        refine q_aload_n C 0 dX12_closes_21 rfl rfl ?_
        refine q_iconst (v := 1) C dX12_closes_22 (by decide) ?_
        obtain ⟨q9, h10, hF⟩ := bnd hF
        try dsimp only at hF
        refine q_callVv C [.int 1] (c_X12_layDown l D ad ca kz C.2.2.2.2.2.2.1 _ _ _ _ h10) tw_1336 gm_X12_layDown pi_249.1 (pe_11 pi_249.2) rfl ⟨rfl, rfl⟩ ⟨Nat.le_trans (Nat.le_of_ble_eq_true rfl) hR.1, Nat.le_trans (Nat.le_of_ble_eq_true rfl) hR.2⟩ rfl (Nat.le_of_ble_eq_true rfl) dX12_closes_23 q00 ?_
        refine q_aload_n C 0 dX12_closes_26 rfl rfl ?_
        refine q_dup C dX12_closes_27 rfl ?_
        refine qg_11_16 C pi_249 tw_1069 dX12_closes_28 ?_
        refine q_iconst (v := 1) C dX12_closes_31 (by decide) ?_
        refine q_isub C dX12_closes_32 ?_
        refine qs_11_16 C pi_249 tw_1069 dX12_closes_33 ?_
        refine q_aload_n C 0 dX12_closes_36 rfl rfl ?_
        refine q_dup C dX12_closes_37 rfl ?_
        refine qg_11_13 C pi_249 tw_1066 dX12_closes_38 ?_
        refine q_iconst (v := 1) C dX12_closes_41 (by decide) ?_
        refine q_isub C dX12_closes_42 ?_
        refine qs_11_13 C pi_249 tw_1066 dX12_closes_43 ?_
        refine q_aload_n C 0 dX12_closes_46 rfl rfl ?_
        refine q_dup C dX12_closes_47 rfl ?_
        refine qg_11_8 C pi_249 tw_1061 dX12_closes_48 ?_
        refine q_iconst (v := 1) C dX12_closes_51 (by decide) ?_
        refine q_iadd C dX12_closes_52 ?_
        refine qs_11_8 C pi_249 tw_1061 dX12_closes_53 ?_
        refine q_aload_n C 0 dX12_closes_56 rfl rfl ?_
        refine q_iconst (v := 3) C dX12_closes_57 (by decide) ?_
        obtain ⟨q11, h12, hF⟩ := bnd hF
        try dsimp only at hF
        refine q_callVv C [.int 3] (c_X12_layDown l D ad ca kz C.2.2.2.2.2.2.1 _ _ _ _ h12) tw_1336 gm_X12_layDown pi_249.1 (pe_11 pi_249.2) rfl ⟨rfl, rfl⟩ ⟨Nat.le_trans (Nat.le_of_ble_eq_true rfl) hR.1, Nat.le_trans (Nat.le_of_ble_eq_true rfl) hR.2⟩ rfl (Nat.le_of_ble_eq_true rfl) dX12_closes_58 q00 ?_
        refine q_goto (tgt := 5) C dX12_closes_61 (by decide) ?_
        refine q_sub [0] rfl ?_
        exact ih _ hF
set_option maxHeartbeats 4000000 in
set_option maxRecDepth 100000 in
theorem c_X12_closes (l : Launch) (D : va_G) (ad : Nat → Nat) (ca : Nat → ClassId) (kz : Nat → Nat) (hJ : pInj ad) (n : Nat) (σ : PS) (out : PS) (hF : F_X12_closes n σ = some out) : Met l yX12_closes (Cond.code yX12_closes cX12_closes 1 (Option.none : Option Jvm.ClassFile.FieldType) :: gw_tbl) { frames := 2, cells := 0, slots := 0, locals := 43 } (va_Pc [.ref (ad (249))] (pU D ad ca kz σ)) (pQv D ad ca out) 0 0 (pAD ad) := by
  refine q_entry (own := "AskedCampModel") hJ (by decide) rfl (Nat.le_of_ble_eq_true rfl) (fun p e s m below meth c C hr hlk => ?_)
  refine q_lv [(0, .ref (ad (249)))] rfl ?_
  rw [F_X12_closes] at hF
  refine q_aload_n C 0 dX12_closes_0 rfl rfl ?_
  refine q_iconst (v := 3) C dX12_closes_1 (by decide) ?_
  obtain ⟨q1, h2, hF⟩ := bnd hF
  try dsimp only at hF
  refine q_callVv C [.int 3] (c_X12_layDown l D ad ca kz C.2.2.2.2.2.2.1 _ _ _ _ h2) tw_1336 gm_X12_layDown pi_249.1 (pe_11 pi_249.2) rfl ⟨rfl, rfl⟩ ⟨Nat.le_of_ble_eq_true rfl, Nat.le_of_ble_eq_true rfl⟩ rfl (Nat.le_of_ble_eq_true rfl) dX12_closes_2 q00 ?_
  obtain ⟨o13, h14, hF⟩ := bnd hF
  try dsimp only at hF
  refine q_sub [0] rfl ?_
  refine l_X12_closes_5 C ⟨Nat.le_of_ble_eq_true rfl, Nat.le_of_ble_eq_true rfl⟩ o13 ?_ n _ h14
  exact q_vret C hr hlk dX12_closes_64 hF
-- X12_compare
def J_X12_compare_105 (n : Nat) (x1 : Int32) (x2 : Int32) (x3 : Int32) (σ : PS) : Option (Int32 × PS) := (F_X12_makes n x2 σ).bind (fun q9 => (if q9.1 = 0 then some ((0 : Int32), q9.2) else (if x1 = (60 : Int32) then (if x3 = 0 then (F_X12_sum n q9.2).bind (fun q31 => (if q31.1 = 0 then some ((0 : Int32), q31.2) else (F_X12_puts n ((6 : Int32) + (0 : Int32)) (0 : Int32) q31.2).bind (fun q34 => some ((1 : Int32), q34)))) else (F_X12_sum n q9.2).bind (fun q36 => (if q36.1 = 0 then some ((0 : Int32), q36.2) else (F_X12_puts n ((6 : Int32) + (1 : Int32)) (0 : Int32) q36.2).bind (fun q39 => some ((1 : Int32), q39))))) else (if x1 = (61 : Int32) then (F_X12_sum n q9.2).bind (fun q25 => (if q25.1 = 0 then some ((0 : Int32), q25.2) else (F_X12_puts n ((6 : Int32) + (2 : Int32)) (0 : Int32) q25.2).bind (fun q28 => some ((1 : Int32), q28)))) else (if x3 = 0 then (F_X12_sum n q9.2).bind (fun q15 => (if q15.1 = 0 then some ((0 : Int32), q15.2) else (F_X12_puts n ((6 : Int32) + (4 : Int32)) (0 : Int32) q15.2).bind (fun q18 => some ((1 : Int32), q18)))) else (F_X12_sum n q9.2).bind (fun q20 => (if q20.1 = 0 then some ((0 : Int32), q20.2) else (F_X12_puts n ((6 : Int32) + (3 : Int32)) (0 : Int32) q20.2).bind (fun q23 => some ((1 : Int32), q23)))))))))
def J_X12_compare_44 (n : Nat) (x1 : Int32) (x2 : Int32) (σ : PS) : Option (Int32 × PS) := (if x1 = (61 : Int32) then (if (0 : Int32) = 0 then J_X12_compare_105 n x1 x2 (0 : Int32) (psI σ 249 8 ((σ.1 249 8) + (1 : Int32))) else J_X12_compare_105 n x1 x2 (0 : Int32) (psI (psI σ 249 8 ((σ.1 249 8) + (1 : Int32))) 249 8 (((psI σ 249 8 ((σ.1 249 8) + (1 : Int32))).1 249 8) + (1 : Int32)))) else (if ((psI σ 249 8 ((σ.1 249 8) + (1 : Int32))).1 249 1) ≤ ((psI σ 249 8 ((σ.1 249 8) + (1 : Int32))).1 249 8) then (if (0 : Int32) = 0 then J_X12_compare_105 n x1 x2 (0 : Int32) (psI σ 249 8 ((σ.1 249 8) + (1 : Int32))) else J_X12_compare_105 n x1 x2 (0 : Int32) (psI (psI σ 249 8 ((σ.1 249 8) + (1 : Int32))) 249 8 (((psI σ 249 8 ((σ.1 249 8) + (1 : Int32))).1 249 8) + (1 : Int32)))) else (if 0 ≤ ((psI σ 249 8 ((σ.1 249 8) + (1 : Int32))).1 249 8) ∧ ((psI σ 249 8 ((σ.1 249 8) + (1 : Int32))).1 249 8).toNatClampNeg < 400 then (if ((psI σ 249 8 ((σ.1 249 8) + (1 : Int32))).1 250 (((psI σ 249 8 ((σ.1 249 8) + (1 : Int32))).1 249 8).toNatClampNeg)) = (61 : Int32) then (if (1 : Int32) = 0 then J_X12_compare_105 n x1 x2 (1 : Int32) (psI σ 249 8 ((σ.1 249 8) + (1 : Int32))) else J_X12_compare_105 n x1 x2 (1 : Int32) (psI (psI σ 249 8 ((σ.1 249 8) + (1 : Int32))) 249 8 (((psI σ 249 8 ((σ.1 249 8) + (1 : Int32))).1 249 8) + (1 : Int32)))) else (if (0 : Int32) = 0 then J_X12_compare_105 n x1 x2 (0 : Int32) (psI σ 249 8 ((σ.1 249 8) + (1 : Int32))) else J_X12_compare_105 n x1 x2 (0 : Int32) (psI (psI σ 249 8 ((σ.1 249 8) + (1 : Int32))) 249 8 (((psI σ 249 8 ((σ.1 249 8) + (1 : Int32))).1 249 8) + (1 : Int32))))) else none)))
def F_X12_compare (n : Nat) (σ : PS) : Option (Int32 × PS) := (F_X12_sum n σ).bind (fun q1 => (if q1.1 = 0 then some ((0 : Int32), q1.2) else (F_X12_see n q1.2).bind (fun q4 => (if q4.1 = (60 : Int32) then J_X12_compare_44 n q4.1 (q4.2.1 249 8) q4.2 else (if q4.1 = (61 : Int32) then J_X12_compare_44 n q4.1 (q4.2.1 249 8) q4.2 else (if q4.1 = (62 : Int32) then J_X12_compare_44 n q4.1 (q4.2.1 249 8) q4.2 else (F_X12_fails n (0 : Int32) (q4.2.1 249 8) q4.2).bind (fun q49 => (if q49.1 = 0 ∨ q49.1 = 1 then some (q49.1, q49.2) else none))))))))
theorem gm_X12_compare : gM "AskedCampModel" yX12_compare (Cond.code yX12_compare cX12_compare 5 (Option.some Jvm.ClassFile.FieldType.boolean)) 0 := ⟨by decide +kernel, tw_1330, tw_p53, tw_12, tw_1331⟩
set_option maxHeartbeats 4000000 in
set_option maxRecDepth 100000 in
theorem j_X12_compare_105 {p : Program} {l : Launch} {e : Env} {R : Room} {s : State} {m : MethodId} {args : Array Value} {below : List Frame} {meth : Method} {c : Code} {D : va_G} {ad : Nat → Nat} {ca : Nat → ClassId} {kz : Nat → Nat} (C : pC p s m args c cX12_compare "AskedCampModel" 5 D ad ca kz) (hr : meth.sig.returnType = (Option.some Jvm.ClassFile.FieldType.boolean)) (hlk : meth.locks = false) (hR : 6 ≤ R.frames ∧ 130 ≤ R.locals) {n : Nat} (x1 : Int32) (x2 : Int32) (x3 : Int32) (σ : PS) (out : Int32 × PS) (hF : J_X12_compare_105 n x1 x2 x3 σ = some out) : PW p l e R s m args below meth c 5 D ad ca 0 0 (MQ below (pQi D ad ca out) args s 0 0 (pAD ad)) σ 105 [(0, .ref (ad (249))), (1, .int x1), (2, .int x2), (3, .int x3)] [] := by
  rw [J_X12_compare_105] at hF
  refine q_aload_n C 0 dX12_compare_105 rfl rfl ?_
  refine q_iload_n C 2 dX12_compare_106 rfl rfl ?_
  obtain ⟨q9, h10, hF⟩ := bnd hF
  try dsimp only at hF
  refine q_callVi C [.int x2] (c_X12_makes l D ad ca kz C.2.2.2.2.2.2.1 _ _ _ _ h10) tw_1287 gm_X12_makes pi_249.1 (pe_11 pi_249.2) rfl ⟨rfl, rfl⟩ ⟨Nat.le_trans (Nat.le_of_ble_eq_true rfl) hR.1, Nat.le_trans (Nat.le_of_ble_eq_true rfl) hR.2⟩ rfl (Nat.le_of_ble_eq_true rfl) dX12_compare_107 q00 ?_
  refine q_if_ne (tgt := 115) C dX12_compare_110 (by decide) (fun c11 => ?_) (fun c11 => ?_)
  · replace hF := ife c11 hF
    refine q_iload_n C 1 dX12_compare_115 rfl rfl ?_
    refine q_bipush (v := 60) C dX12_compare_116 (by decide) ?_
    refine q_icmp_ne (tgt := 133) C dX12_compare_118 (by decide) (fun c12 => ?_) (fun c12 => ?_)
    · replace hF := ife c12 hF
      refine q_iload_n C 1 dX12_compare_133 rfl rfl ?_
      refine q_bipush (v := 61) C dX12_compare_134 (by decide) ?_
      refine q_icmp_ne (tgt := 143) C dX12_compare_136 (by decide) (fun c13 => ?_) (fun c13 => ?_)
      · replace hF := ife c13 hF
        refine q_iload_n C 3 dX12_compare_143 rfl rfl ?_
        refine q_if_eq (tgt := 151) C dX12_compare_144 (by decide) (fun c14 => ?_) (fun c14 => ?_)
        · replace hF := ift c14 hF
          refine q_iconst (v := 4) C dX12_compare_151 (by decide) ?_
          refine q_istore C [(4, .int 4), (0, .ref (ad (249))), (1, .int x1), (2, .int x2), (3, .int x3)] dX12_compare_152 (by decide) rfl ?_
          refine q_aload_n C 1 dX12_compare_154 rfl rfl ?_
          obtain ⟨q15, h16, hF⟩ := bnd hF
          try dsimp only at hF
          refine q_callVi C [] (c_X12_sum l D ad ca kz C.2.2.2.2.2.2.1 _ _ _ h16) tw_1274 gm_X12_sum pi_249.1 (pe_11 pi_249.2) rfl ⟨rfl, rfl⟩ ⟨Nat.le_trans (Nat.le_of_ble_eq_true rfl) hR.1, Nat.le_trans (Nat.le_of_ble_eq_true rfl) hR.2⟩ rfl (Nat.le_of_ble_eq_true rfl) dX12_compare_155 q00 ?_
          refine q_if_ne (tgt := 163) C dX12_compare_158 (by decide) (fun c17 => ?_) (fun c17 => ?_)
          · replace hF := ife c17 hF
            refine q_aload_n C 1 dX12_compare_163 rfl rfl ?_
            refine q_bipush (v := 6) C dX12_compare_164 (by decide) ?_
            refine q_iload C 0 dX12_compare_166 rfl ?_
            refine q_iadd C dX12_compare_168 ?_
            refine q_iconst (v := 0) C dX12_compare_169 (by decide) ?_
            obtain ⟨q18, h19, hF⟩ := bnd hF
            try dsimp only at hF
            refine q_callVv C [.int ((6 : Int32) + (4 : Int32)), .int 0] (c_X12_puts l D ad ca kz C.2.2.2.2.2.2.1 _ _ _ _ _ h19) tw_1291 gm_X12_puts pi_249.1 (pe_11 pi_249.2) rfl ⟨rfl, rfl⟩ ⟨Nat.le_trans (Nat.le_of_ble_eq_true rfl) hR.1, Nat.le_trans (Nat.le_of_ble_eq_true rfl) hR.2⟩ rfl (Nat.le_of_ble_eq_true rfl) dX12_compare_170 q00 ?_
            refine q_iconst (v := 1) C dX12_compare_173 (by decide) ?_
            exact q_zret C hr hlk dX12_compare_174 (by decide) hF
          · replace hF := ift c17 hF
            refine q_iconst (v := 0) C dX12_compare_161 (by decide) ?_
            exact q_zret C hr hlk dX12_compare_162 (by decide) hF
        · replace hF := ife c14 hF
          refine q_iconst (v := 3) C dX12_compare_147 (by decide) ?_
          refine q_goto (tgt := 152) C dX12_compare_148 (by decide) ?_
          refine q_istore C [(4, .int 3), (0, .ref (ad (249))), (1, .int x1), (2, .int x2), (3, .int x3)] dX12_compare_152 (by decide) rfl ?_
          refine q_aload_n C 1 dX12_compare_154 rfl rfl ?_
          obtain ⟨q20, h21, hF⟩ := bnd hF
          try dsimp only at hF
          refine q_callVi C [] (c_X12_sum l D ad ca kz C.2.2.2.2.2.2.1 _ _ _ h21) tw_1274 gm_X12_sum pi_249.1 (pe_11 pi_249.2) rfl ⟨rfl, rfl⟩ ⟨Nat.le_trans (Nat.le_of_ble_eq_true rfl) hR.1, Nat.le_trans (Nat.le_of_ble_eq_true rfl) hR.2⟩ rfl (Nat.le_of_ble_eq_true rfl) dX12_compare_155 q00 ?_
          refine q_if_ne (tgt := 163) C dX12_compare_158 (by decide) (fun c22 => ?_) (fun c22 => ?_)
          · replace hF := ife c22 hF
            refine q_aload_n C 1 dX12_compare_163 rfl rfl ?_
            refine q_bipush (v := 6) C dX12_compare_164 (by decide) ?_
            refine q_iload C 0 dX12_compare_166 rfl ?_
            refine q_iadd C dX12_compare_168 ?_
            refine q_iconst (v := 0) C dX12_compare_169 (by decide) ?_
            obtain ⟨q23, h24, hF⟩ := bnd hF
            try dsimp only at hF
            refine q_callVv C [.int ((6 : Int32) + (3 : Int32)), .int 0] (c_X12_puts l D ad ca kz C.2.2.2.2.2.2.1 _ _ _ _ _ h24) tw_1291 gm_X12_puts pi_249.1 (pe_11 pi_249.2) rfl ⟨rfl, rfl⟩ ⟨Nat.le_trans (Nat.le_of_ble_eq_true rfl) hR.1, Nat.le_trans (Nat.le_of_ble_eq_true rfl) hR.2⟩ rfl (Nat.le_of_ble_eq_true rfl) dX12_compare_170 q00 ?_
            refine q_iconst (v := 1) C dX12_compare_173 (by decide) ?_
            exact q_zret C hr hlk dX12_compare_174 (by decide) hF
          · replace hF := ift c22 hF
            refine q_iconst (v := 0) C dX12_compare_161 (by decide) ?_
            exact q_zret C hr hlk dX12_compare_162 (by decide) hF
      · replace hF := ift c13 hF
        refine q_iconst (v := 2) C dX12_compare_139 (by decide) ?_
        refine q_goto (tgt := 152) C dX12_compare_140 (by decide) ?_
        refine q_istore C [(4, .int 2), (0, .ref (ad (249))), (1, .int x1), (2, .int x2), (3, .int x3)] dX12_compare_152 (by decide) rfl ?_
        refine q_aload_n C 1 dX12_compare_154 rfl rfl ?_
        obtain ⟨q25, h26, hF⟩ := bnd hF
        try dsimp only at hF
        refine q_callVi C [] (c_X12_sum l D ad ca kz C.2.2.2.2.2.2.1 _ _ _ h26) tw_1274 gm_X12_sum pi_249.1 (pe_11 pi_249.2) rfl ⟨rfl, rfl⟩ ⟨Nat.le_trans (Nat.le_of_ble_eq_true rfl) hR.1, Nat.le_trans (Nat.le_of_ble_eq_true rfl) hR.2⟩ rfl (Nat.le_of_ble_eq_true rfl) dX12_compare_155 q00 ?_
        refine q_if_ne (tgt := 163) C dX12_compare_158 (by decide) (fun c27 => ?_) (fun c27 => ?_)
        · replace hF := ife c27 hF
          refine q_aload_n C 1 dX12_compare_163 rfl rfl ?_
          refine q_bipush (v := 6) C dX12_compare_164 (by decide) ?_
          refine q_iload C 0 dX12_compare_166 rfl ?_
          refine q_iadd C dX12_compare_168 ?_
          refine q_iconst (v := 0) C dX12_compare_169 (by decide) ?_
          obtain ⟨q28, h29, hF⟩ := bnd hF
          try dsimp only at hF
          refine q_callVv C [.int ((6 : Int32) + (2 : Int32)), .int 0] (c_X12_puts l D ad ca kz C.2.2.2.2.2.2.1 _ _ _ _ _ h29) tw_1291 gm_X12_puts pi_249.1 (pe_11 pi_249.2) rfl ⟨rfl, rfl⟩ ⟨Nat.le_trans (Nat.le_of_ble_eq_true rfl) hR.1, Nat.le_trans (Nat.le_of_ble_eq_true rfl) hR.2⟩ rfl (Nat.le_of_ble_eq_true rfl) dX12_compare_170 q00 ?_
          refine q_iconst (v := 1) C dX12_compare_173 (by decide) ?_
          exact q_zret C hr hlk dX12_compare_174 (by decide) hF
        · replace hF := ift c27 hF
          refine q_iconst (v := 0) C dX12_compare_161 (by decide) ?_
          exact q_zret C hr hlk dX12_compare_162 (by decide) hF
    · replace hF := ift c12 hF
      refine q_iload_n C 3 dX12_compare_121 rfl rfl ?_
      refine q_if_eq (tgt := 129) C dX12_compare_122 (by decide) (fun c30 => ?_) (fun c30 => ?_)
      · replace hF := ift c30 hF
        refine q_iconst (v := 0) C dX12_compare_129 (by decide) ?_
        refine q_goto (tgt := 152) C dX12_compare_130 (by decide) ?_
        refine q_istore C [(4, .int 0), (0, .ref (ad (249))), (1, .int x1), (2, .int x2), (3, .int x3)] dX12_compare_152 (by decide) rfl ?_
        refine q_aload_n C 1 dX12_compare_154 rfl rfl ?_
        obtain ⟨q31, h32, hF⟩ := bnd hF
        try dsimp only at hF
        refine q_callVi C [] (c_X12_sum l D ad ca kz C.2.2.2.2.2.2.1 _ _ _ h32) tw_1274 gm_X12_sum pi_249.1 (pe_11 pi_249.2) rfl ⟨rfl, rfl⟩ ⟨Nat.le_trans (Nat.le_of_ble_eq_true rfl) hR.1, Nat.le_trans (Nat.le_of_ble_eq_true rfl) hR.2⟩ rfl (Nat.le_of_ble_eq_true rfl) dX12_compare_155 q00 ?_
        refine q_if_ne (tgt := 163) C dX12_compare_158 (by decide) (fun c33 => ?_) (fun c33 => ?_)
        · replace hF := ife c33 hF
          refine q_aload_n C 1 dX12_compare_163 rfl rfl ?_
          refine q_bipush (v := 6) C dX12_compare_164 (by decide) ?_
          refine q_iload C 0 dX12_compare_166 rfl ?_
          refine q_iadd C dX12_compare_168 ?_
          refine q_iconst (v := 0) C dX12_compare_169 (by decide) ?_
          obtain ⟨q34, h35, hF⟩ := bnd hF
          try dsimp only at hF
          refine q_callVv C [.int ((6 : Int32) + (0 : Int32)), .int 0] (c_X12_puts l D ad ca kz C.2.2.2.2.2.2.1 _ _ _ _ _ h35) tw_1291 gm_X12_puts pi_249.1 (pe_11 pi_249.2) rfl ⟨rfl, rfl⟩ ⟨Nat.le_trans (Nat.le_of_ble_eq_true rfl) hR.1, Nat.le_trans (Nat.le_of_ble_eq_true rfl) hR.2⟩ rfl (Nat.le_of_ble_eq_true rfl) dX12_compare_170 q00 ?_
          refine q_iconst (v := 1) C dX12_compare_173 (by decide) ?_
          exact q_zret C hr hlk dX12_compare_174 (by decide) hF
        · replace hF := ift c33 hF
          refine q_iconst (v := 0) C dX12_compare_161 (by decide) ?_
          exact q_zret C hr hlk dX12_compare_162 (by decide) hF
      · replace hF := ife c30 hF
        refine q_iconst (v := 1) C dX12_compare_125 (by decide) ?_
        refine q_goto (tgt := 152) C dX12_compare_126 (by decide) ?_
        refine q_istore C [(4, .int 1), (0, .ref (ad (249))), (1, .int x1), (2, .int x2), (3, .int x3)] dX12_compare_152 (by decide) rfl ?_
        refine q_aload_n C 1 dX12_compare_154 rfl rfl ?_
        obtain ⟨q36, h37, hF⟩ := bnd hF
        try dsimp only at hF
        refine q_callVi C [] (c_X12_sum l D ad ca kz C.2.2.2.2.2.2.1 _ _ _ h37) tw_1274 gm_X12_sum pi_249.1 (pe_11 pi_249.2) rfl ⟨rfl, rfl⟩ ⟨Nat.le_trans (Nat.le_of_ble_eq_true rfl) hR.1, Nat.le_trans (Nat.le_of_ble_eq_true rfl) hR.2⟩ rfl (Nat.le_of_ble_eq_true rfl) dX12_compare_155 q00 ?_
        refine q_if_ne (tgt := 163) C dX12_compare_158 (by decide) (fun c38 => ?_) (fun c38 => ?_)
        · replace hF := ife c38 hF
          refine q_aload_n C 1 dX12_compare_163 rfl rfl ?_
          refine q_bipush (v := 6) C dX12_compare_164 (by decide) ?_
          refine q_iload C 0 dX12_compare_166 rfl ?_
          refine q_iadd C dX12_compare_168 ?_
          refine q_iconst (v := 0) C dX12_compare_169 (by decide) ?_
          obtain ⟨q39, h40, hF⟩ := bnd hF
          try dsimp only at hF
          refine q_callVv C [.int ((6 : Int32) + (1 : Int32)), .int 0] (c_X12_puts l D ad ca kz C.2.2.2.2.2.2.1 _ _ _ _ _ h40) tw_1291 gm_X12_puts pi_249.1 (pe_11 pi_249.2) rfl ⟨rfl, rfl⟩ ⟨Nat.le_trans (Nat.le_of_ble_eq_true rfl) hR.1, Nat.le_trans (Nat.le_of_ble_eq_true rfl) hR.2⟩ rfl (Nat.le_of_ble_eq_true rfl) dX12_compare_170 q00 ?_
          refine q_iconst (v := 1) C dX12_compare_173 (by decide) ?_
          exact q_zret C hr hlk dX12_compare_174 (by decide) hF
        · replace hF := ift c38 hF
          refine q_iconst (v := 0) C dX12_compare_161 (by decide) ?_
          exact q_zret C hr hlk dX12_compare_162 (by decide) hF
  · replace hF := ift c11 hF
    refine q_iconst (v := 0) C dX12_compare_113 (by decide) ?_
    exact q_zret C hr hlk dX12_compare_114 (by decide) hF
set_option maxHeartbeats 4000000 in
set_option maxRecDepth 100000 in
theorem j_X12_compare_44 {p : Program} {l : Launch} {e : Env} {R : Room} {s : State} {m : MethodId} {args : Array Value} {below : List Frame} {meth : Method} {c : Code} {D : va_G} {ad : Nat → Nat} {ca : Nat → ClassId} {kz : Nat → Nat} (C : pC p s m args c cX12_compare "AskedCampModel" 5 D ad ca kz) (hr : meth.sig.returnType = (Option.some Jvm.ClassFile.FieldType.boolean)) (hlk : meth.locks = false) (hR : 6 ≤ R.frames ∧ 130 ≤ R.locals) {n : Nat} (x1 : Int32) (x2 : Int32) (σ : PS) (out : Int32 × PS) (hF : J_X12_compare_44 n x1 x2 σ = some out) : PW p l e R s m args below meth c 5 D ad ca 0 0 (MQ below (pQi D ad ca out) args s 0 0 (pAD ad)) σ 44 [(0, .ref (ad (249))), (1, .int x1), (2, .int x2)] [] := by
  rw [J_X12_compare_44] at hF
  refine q_aload_n C 0 dX12_compare_44 rfl rfl ?_
  refine q_dup C dX12_compare_45 rfl ?_
  refine qg_11_8 C pi_249 tw_1061 dX12_compare_46 ?_
  refine q_iconst (v := 1) C dX12_compare_49 (by decide) ?_
  refine q_iadd C dX12_compare_50 ?_
  refine qs_11_8 C pi_249 tw_1061 dX12_compare_51 ?_
  refine q_iload_n C 1 dX12_compare_54 rfl rfl ?_
  refine q_bipush (v := 61) C dX12_compare_55 (by decide) ?_
  refine q_icmp_eq (tgt := 89) C dX12_compare_57 (by decide) (fun c7 => ?_) (fun c7 => ?_)
  · replace hF := ift c7 hF
    refine q_iconst (v := 0) C dX12_compare_89 (by decide) ?_
    refine q_istore_n C [(3, .int 0), (0, .ref (ad (249))), (1, .int x1), (2, .int x2)] dX12_compare_90 rfl (by decide) rfl ?_
    refine q_iload_n C 0 dX12_compare_91 rfl rfl ?_
    refine q_if_eq (tgt := 105) C dX12_compare_92 (by decide) (fun c8 => ?_) (fun c8 => ?_)
    · replace hF := ift c8 hF
      refine q_sub [1, 2, 3, 0] rfl ?_
      exact j_X12_compare_105 C hr hlk ⟨hR.1, hR.2⟩ _ _ _ _ _ hF
    · replace hF := ife c8 hF
      refine q_aload_n C 1 dX12_compare_95 rfl rfl ?_
      refine q_dup C dX12_compare_96 rfl ?_
      refine qg_11_8 C pi_249 tw_1061 dX12_compare_97 ?_
      refine q_iconst (v := 1) C dX12_compare_100 (by decide) ?_
      refine q_iadd C dX12_compare_101 ?_
      refine qs_11_8 C pi_249 tw_1061 dX12_compare_102 ?_
      refine q_sub [1, 2, 3, 0] rfl ?_
      exact j_X12_compare_105 C hr hlk ⟨hR.1, hR.2⟩ _ _ _ _ _ hF
  · replace hF := ife c7 hF
    refine q_aload_n C 0 dX12_compare_60 rfl rfl ?_
    refine qg_11_8 C pi_249 tw_1061 dX12_compare_61 ?_
    refine q_aload_n C 0 dX12_compare_64 rfl rfl ?_
    refine qg_11_1 C pi_249 tw_1054 dX12_compare_65 ?_
    refine q_icmp_ge (tgt := 89) C dX12_compare_68 (by decide) (fun c41 => ?_) (fun c41 => ?_)
    · replace hF := ift c41 hF
      refine q_iconst (v := 0) C dX12_compare_89 (by decide) ?_
      refine q_istore_n C [(3, .int 0), (0, .ref (ad (249))), (1, .int x1), (2, .int x2)] dX12_compare_90 rfl (by decide) rfl ?_
      refine q_iload_n C 0 dX12_compare_91 rfl rfl ?_
      refine q_if_eq (tgt := 105) C dX12_compare_92 (by decide) (fun c42 => ?_) (fun c42 => ?_)
      · replace hF := ift c42 hF
        refine q_sub [1, 2, 3, 0] rfl ?_
        exact j_X12_compare_105 C hr hlk ⟨hR.1, hR.2⟩ _ _ _ _ _ hF
      · replace hF := ife c42 hF
        refine q_aload_n C 1 dX12_compare_95 rfl rfl ?_
        refine q_dup C dX12_compare_96 rfl ?_
        refine qg_11_8 C pi_249 tw_1061 dX12_compare_97 ?_
        refine q_iconst (v := 1) C dX12_compare_100 (by decide) ?_
        refine q_iadd C dX12_compare_101 ?_
        refine qs_11_8 C pi_249 tw_1061 dX12_compare_102 ?_
        refine q_sub [1, 2, 3, 0] rfl ?_
        exact j_X12_compare_105 C hr hlk ⟨hR.1, hR.2⟩ _ _ _ _ _ hF
    · replace hF := ife c41 hF
      refine q_aload_n C 0 dX12_compare_71 rfl rfl ?_
      refine qg_11_0 C pi_249 tw_1053 dX12_compare_72 ?_
      refine q_aload_n C 0 dX12_compare_75 rfl rfl ?_
      refine qg_11_8 C pi_249 tw_1061 dX12_compare_76 ?_
      obtain ⟨g43, hF⟩ := grd hF
      refine q_bald C pa_250 (vp_of g43) dX12_compare_79 ?_
      refine q_bipush (v := 61) C dX12_compare_80 (by decide) ?_
      refine q_icmp_ne (tgt := 89) C dX12_compare_82 (by decide) (fun c44 => ?_) (fun c44 => ?_)
      · replace hF := ife c44 hF
        refine q_iconst (v := 0) C dX12_compare_89 (by decide) ?_
        refine q_istore_n C [(3, .int 0), (0, .ref (ad (249))), (1, .int x1), (2, .int x2)] dX12_compare_90 rfl (by decide) rfl ?_
        refine q_iload_n C 0 dX12_compare_91 rfl rfl ?_
        refine q_if_eq (tgt := 105) C dX12_compare_92 (by decide) (fun c45 => ?_) (fun c45 => ?_)
        · replace hF := ift c45 hF
          refine q_sub [1, 2, 3, 0] rfl ?_
          exact j_X12_compare_105 C hr hlk ⟨hR.1, hR.2⟩ _ _ _ _ _ hF
        · replace hF := ife c45 hF
          refine q_aload_n C 1 dX12_compare_95 rfl rfl ?_
          refine q_dup C dX12_compare_96 rfl ?_
          refine qg_11_8 C pi_249 tw_1061 dX12_compare_97 ?_
          refine q_iconst (v := 1) C dX12_compare_100 (by decide) ?_
          refine q_iadd C dX12_compare_101 ?_
          refine qs_11_8 C pi_249 tw_1061 dX12_compare_102 ?_
          refine q_sub [1, 2, 3, 0] rfl ?_
          exact j_X12_compare_105 C hr hlk ⟨hR.1, hR.2⟩ _ _ _ _ _ hF
      · replace hF := ift c44 hF
        refine q_iconst (v := 1) C dX12_compare_85 (by decide) ?_
        refine q_goto (tgt := 90) C dX12_compare_86 (by decide) ?_
        refine q_istore_n C [(3, .int 1), (0, .ref (ad (249))), (1, .int x1), (2, .int x2)] dX12_compare_90 rfl (by decide) rfl ?_
        refine q_iload_n C 0 dX12_compare_91 rfl rfl ?_
        refine q_if_eq (tgt := 105) C dX12_compare_92 (by decide) (fun c46 => ?_) (fun c46 => ?_)
        · replace hF := ift c46 hF
          refine q_sub [1, 2, 3, 0] rfl ?_
          exact j_X12_compare_105 C hr hlk ⟨hR.1, hR.2⟩ _ _ _ _ _ hF
        · replace hF := ife c46 hF
          refine q_aload_n C 1 dX12_compare_95 rfl rfl ?_
          refine q_dup C dX12_compare_96 rfl ?_
          refine qg_11_8 C pi_249 tw_1061 dX12_compare_97 ?_
          refine q_iconst (v := 1) C dX12_compare_100 (by decide) ?_
          refine q_iadd C dX12_compare_101 ?_
          refine qs_11_8 C pi_249 tw_1061 dX12_compare_102 ?_
          refine q_sub [1, 2, 3, 0] rfl ?_
          exact j_X12_compare_105 C hr hlk ⟨hR.1, hR.2⟩ _ _ _ _ _ hF
set_option maxHeartbeats 4000000 in
set_option maxRecDepth 100000 in
theorem c_X12_compare (l : Launch) (D : va_G) (ad : Nat → Nat) (ca : Nat → ClassId) (kz : Nat → Nat) (hJ : pInj ad) (n : Nat) (σ : PS) (out : Int32 × PS) (hF : F_X12_compare n σ = some out) : Met l yX12_compare (Cond.code yX12_compare cX12_compare 5 (Option.some Jvm.ClassFile.FieldType.boolean) :: gw_tbl) { frames := 6, cells := 0, slots := 0, locals := 130 } (va_Pc [.ref (ad (249))] (pU D ad ca kz σ)) (pQi D ad ca out) 0 0 (pAD ad) := by
  refine q_entry (own := "AskedCampModel") hJ (by decide) rfl (Nat.le_of_ble_eq_true rfl) (fun p e s m below meth c C hr hlk => ?_)
  refine q_lv [(0, .ref (ad (249)))] rfl ?_
  rw [F_X12_compare] at hF
  refine q_aload_n C 0 dX12_compare_0 rfl rfl ?_
  obtain ⟨q1, h2, hF⟩ := bnd hF
  try dsimp only at hF
  refine q_callVi C [] (c_X12_sum l D ad ca kz C.2.2.2.2.2.2.1 _ _ _ h2) tw_1274 gm_X12_sum pi_249.1 (pe_11 pi_249.2) rfl ⟨rfl, rfl⟩ ⟨Nat.le_of_ble_eq_true rfl, Nat.le_of_ble_eq_true rfl⟩ rfl (Nat.le_of_ble_eq_true rfl) dX12_compare_1 q00 ?_
  refine q_if_ne (tgt := 9) C dX12_compare_4 (by decide) (fun c3 => ?_) (fun c3 => ?_)
  · replace hF := ife c3 hF
    refine q_aload_n C 0 dX12_compare_9 rfl rfl ?_
    obtain ⟨q4, h5, hF⟩ := bnd hF
    try dsimp only at hF
    refine q_callVi C [] (c_X12_see l D ad ca kz C.2.2.2.2.2.2.1 _ _ _ h5) tw_1207 gm_X12_see pi_249.1 (pe_11 pi_249.2) rfl ⟨rfl, rfl⟩ ⟨Nat.le_of_ble_eq_true rfl, Nat.le_of_ble_eq_true rfl⟩ rfl (Nat.le_of_ble_eq_true rfl) dX12_compare_10 q00 ?_
    refine q_istore_n C [(1, .int q4.1), (0, .ref (ad (249)))] dX12_compare_13 rfl (by decide) rfl ?_
    refine q_aload_n C 1 dX12_compare_14 rfl rfl ?_
    refine qg_11_8 C pi_249 tw_1061 dX12_compare_15 ?_
    refine q_istore_n C [(2, .int (q4.2.1 249 8)), (1, .int q4.1), (0, .ref (ad (249)))] dX12_compare_18 rfl (by decide) rfl ?_
    refine q_iload_n C 1 dX12_compare_19 rfl rfl ?_
    refine q_bipush (v := 60) C dX12_compare_20 (by decide) ?_
    refine q_icmp_eq (tgt := 44) C dX12_compare_22 (by decide) (fun c6 => ?_) (fun c6 => ?_)
    · replace hF := ift c6 hF
      refine q_sub [2, 1, 0] rfl ?_
      exact j_X12_compare_44 C hr hlk ⟨Nat.le_of_ble_eq_true rfl, Nat.le_of_ble_eq_true rfl⟩ _ _ _ _ hF
    · replace hF := ife c6 hF
      refine q_iload_n C 1 dX12_compare_25 rfl rfl ?_
      refine q_bipush (v := 61) C dX12_compare_26 (by decide) ?_
      refine q_icmp_eq (tgt := 44) C dX12_compare_28 (by decide) (fun c47 => ?_) (fun c47 => ?_)
      · replace hF := ift c47 hF
        refine q_sub [2, 1, 0] rfl ?_
        exact j_X12_compare_44 C hr hlk ⟨Nat.le_of_ble_eq_true rfl, Nat.le_of_ble_eq_true rfl⟩ _ _ _ _ hF
      · replace hF := ife c47 hF
        refine q_iload_n C 1 dX12_compare_31 rfl rfl ?_
        refine q_bipush (v := 62) C dX12_compare_32 (by decide) ?_
        refine q_icmp_eq (tgt := 44) C dX12_compare_34 (by decide) (fun c48 => ?_) (fun c48 => ?_)
        · replace hF := ift c48 hF
          refine q_sub [2, 1, 0] rfl ?_
          exact j_X12_compare_44 C hr hlk ⟨Nat.le_of_ble_eq_true rfl, Nat.le_of_ble_eq_true rfl⟩ _ _ _ _ hF
        · replace hF := ife c48 hF
          refine q_aload_n C 2 dX12_compare_37 rfl rfl ?_
          refine q_iconst (v := 0) C dX12_compare_38 (by decide) ?_
          refine q_iload_n C 0 dX12_compare_39 rfl rfl ?_
          obtain ⟨q49, h50, hF⟩ := bnd hF
          try dsimp only at hF
          refine q_callVi C [.int 0, .int (q4.2.1 249 8)] (c_X12_fails l D ad ca kz C.2.2.2.2.2.2.1 _ _ _ _ _ h50) tw_1227 gm_X12_fails pi_249.1 (pe_11 pi_249.2) rfl ⟨rfl, rfl⟩ ⟨Nat.le_of_ble_eq_true rfl, Nat.le_of_ble_eq_true rfl⟩ rfl (Nat.le_of_ble_eq_true rfl) dX12_compare_40 q00 ?_
          obtain ⟨g51, hF⟩ := grd hF
          exact q_zret C hr hlk dX12_compare_43 g51 hF
  · replace hF := ift c3 hF
    refine q_iconst (v := 0) C dX12_compare_7 (by decide) ?_
    exact q_zret C hr hlk dX12_compare_8 (by decide) hF
-- X12_opens
def F_X12_opens (n : Nat) (a1 : Int32) (σ : PS) : Option (Int32 × PS) := (if (σ.1 249 13) = (10 : Int32) then (F_X12_fails n (2 : Int32) (σ.1 249 8) σ).bind (fun q3 => (if q3.1 = 0 ∨ q3.1 = 1 then some (q3.1, q3.2) else none)) else (if 0 ≤ ((psI σ 249 13 ((σ.1 249 13) + (1 : Int32))).1 249 16) ∧ ((psI σ 249 13 ((σ.1 249 13) + (1 : Int32))).1 249 16).toNatClampNeg < 400 then some ((1 : Int32), psI (psI (psI σ 249 13 ((σ.1 249 13) + (1 : Int32))) 256 (((psI σ 249 13 ((σ.1 249 13) + (1 : Int32))).1 249 16).toNatClampNeg) a1) 249 16 (((psI (psI σ 249 13 ((σ.1 249 13) + (1 : Int32))) 256 (((psI σ 249 13 ((σ.1 249 13) + (1 : Int32))).1 249 16).toNatClampNeg) a1).1 249 16) + (1 : Int32))) else none))
theorem gm_X12_opens : gM "AskedCampModel" yX12_opens (Cond.code yX12_opens cX12_opens 2 (Option.some Jvm.ClassFile.FieldType.boolean)) 1 := ⟨by decide +kernel, tw_1326, tw_p52, tw_12, tw_1327⟩
set_option maxHeartbeats 4000000 in
set_option maxRecDepth 100000 in
theorem c_X12_opens (l : Launch) (D : va_G) (ad : Nat → Nat) (ca : Nat → ClassId) (kz : Nat → Nat) (hJ : pInj ad) (n : Nat) (a1 : Int32) (σ : PS) (out : Int32 × PS) (hF : F_X12_opens n a1 σ = some out) : Met l yX12_opens (Cond.code yX12_opens cX12_opens 2 (Option.some Jvm.ClassFile.FieldType.boolean) :: gw_tbl) { frames := 1, cells := 0, slots := 0, locals := 22 } (va_Pc [.ref (ad (249)), .int a1] (pU D ad ca kz σ)) (pQi D ad ca out) 0 0 (pAD ad) := by
  refine q_entry (own := "AskedCampModel") hJ (by decide) rfl (Nat.le_of_ble_eq_true rfl) (fun p e s m below meth c C hr hlk => ?_)
  refine q_lv [(0, .ref (ad (249))), (1, .int a1)] rfl ?_
  rw [F_X12_opens] at hF
  refine q_aload_n C 0 dX12_opens_0 rfl rfl ?_
  refine qg_11_13 C pi_249 tw_1066 dX12_opens_1 ?_
  refine q_bipush (v := 10) C dX12_opens_4 (by decide) ?_
  refine q_icmp_ne (tgt := 19) C dX12_opens_6 (by decide) (fun c1 => ?_) (fun c1 => ?_)
  · replace hF := ife c1 hF
    refine q_aload_n C 0 dX12_opens_19 rfl rfl ?_
    refine q_dup C dX12_opens_20 rfl ?_
    refine qg_11_13 C pi_249 tw_1066 dX12_opens_21 ?_
    refine q_iconst (v := 1) C dX12_opens_24 (by decide) ?_
    refine q_iadd C dX12_opens_25 ?_
    refine qs_11_13 C pi_249 tw_1066 dX12_opens_26 ?_
    refine q_aload_n C 0 dX12_opens_29 rfl rfl ?_
    refine qg_11_15 C pi_249 tw_1068 dX12_opens_30 ?_
    refine q_aload_n C 0 dX12_opens_33 rfl rfl ?_
    refine qg_11_16 C pi_249 tw_1069 dX12_opens_34 ?_
    refine q_iload_n C 1 dX12_opens_37 rfl rfl ?_
    obtain ⟨g2, hF⟩ := grd hF
    refine q_iast C pa_256 (vp_of g2) dX12_opens_38 ?_
    refine q_aload_n C 0 dX12_opens_39 rfl rfl ?_
    refine q_dup C dX12_opens_40 rfl ?_
    refine qg_11_16 C pi_249 tw_1069 dX12_opens_41 ?_
    refine q_iconst (v := 1) C dX12_opens_44 (by decide) ?_
    refine q_iadd C dX12_opens_45 ?_
    refine qs_11_16 C pi_249 tw_1069 dX12_opens_46 ?_
    refine q_iconst (v := 1) C dX12_opens_49 (by decide) ?_
    exact q_zret C hr hlk dX12_opens_50 (by decide) hF
  · replace hF := ift c1 hF
    refine q_aload_n C 0 dX12_opens_9 rfl rfl ?_
    refine q_iconst (v := 2) C dX12_opens_10 (by decide) ?_
    refine q_aload_n C 0 dX12_opens_11 rfl rfl ?_
    refine qg_11_8 C pi_249 tw_1061 dX12_opens_12 ?_
    obtain ⟨q3, h4, hF⟩ := bnd hF
    try dsimp only at hF
    refine q_callVi C [.int 2, .int (σ.1 249 8)] (c_X12_fails l D ad ca kz C.2.2.2.2.2.2.1 _ _ _ _ _ h4) tw_1227 gm_X12_fails pi_249.1 (pe_11 pi_249.2) rfl ⟨rfl, rfl⟩ ⟨Nat.le_of_ble_eq_true rfl, Nat.le_of_ble_eq_true rfl⟩ rfl (Nat.le_of_ble_eq_true rfl) dX12_opens_15 q00 ?_
    obtain ⟨g5, hF⟩ := grd hF
    exact q_zret C hr hlk dX12_opens_18 g5 hF
-- X12_fact
def L_X12_fact_2 (n : Nat) : Nat → Int32 → PS → Option (Nat × PS)
  | 0, _, _ => none
  | k + 1, x1, σ => (if x1 = 0 then some (2, σ) else (F_X12_see n σ).bind (fun q2 => (F_X12_isWord n (7237492 : Int64) q2.2).bind (fun q4 => (if q4.1 = 0 then (if q2.1 = (91 : Int32) then (F_X12_opens n (91 : Int32) q4.2).bind (fun q8 => (if q8.1 = 0 then some (1, q8.2) else L_X12_fact_2 n k (1 : Int32) (psI q8.2 249 8 ((q8.2.1 249 8) + (1 : Int32))))) else L_X12_fact_2 n k (0 : Int32) q4.2) else (F_X12_opens n (11 : Int32) q4.2).bind (fun q11 => (if q11.1 = 0 then some (0, q11.2) else (F_X12_passWord n q11.2).bind (fun q14 => L_X12_fact_2 n k (1 : Int32) q14)))))))
def F_X12_fact (n : Nat) (σ : PS) : Option (Int32 × PS) := (L_X12_fact_2 n n (1 : Int32) σ).bind (fun o16 => (if o16.1 = 0 then some ((0 : Int32), o16.2) else (if o16.1 = 1 then some ((0 : Int32), o16.2) else (F_X12_compare n o16.2).bind (fun q18 => (if q18.1 = 0 ∨ q18.1 = 1 then some (q18.1, q18.2) else none)))))
theorem gm_X12_fact : gM "AskedCampModel" yX12_fact (Cond.code yX12_fact cX12_fact 3 (Option.some Jvm.ClassFile.FieldType.boolean)) 0 := ⟨by decide +kernel, tw_1321, tw_p51, tw_12, tw_1322⟩
set_option maxHeartbeats 4000000 in
set_option maxRecDepth 100000 in
theorem l_X12_fact_2 {p : Program} {l : Launch} {e : Env} {R : Room} {s : State} {m : MethodId} {args : Array Value} {below : List Frame} {meth : Method} {c : Code} {D : va_G} {ad : Nat → Nat} {ca : Nat → ClassId} {kz : Nat → Nat} {Q : State → Prop} (C : pC p s m args c cX12_fact "AskedCampModel" 3 D ad ca kz) (hR : 7 ≤ R.frames ∧ 154 ≤ R.locals) {n : Nat} (o : Nat × PS) (hx0 : o.1 = 0 → PW p l e R s m args below meth c 3 D ad ca 0 0 Q (o.2) 32 [] []) (hx1 : o.1 = 1 → PW p l e R s m args below meth c 3 D ad ca 0 0 Q (o.2) 58 [] []) (hx2 : o.1 = 2 → PW p l e R s m args below meth c 3 D ad ca 0 0 Q (o.2) 75 [(0, .ref (ad (249)))] []) : ∀ (k : Nat) (x1 : Int32) (σ : PS), L_X12_fact_2 n k x1 σ = some o → PW p l e R s m args below meth c 3 D ad ca 0 0 Q σ 2 [(0, .ref (ad (249))), (1, .int x1)] [] := by
  intro k
  induction k with
  | zero => intro x1 σ hF; exact nomatch (show (none : Option (Nat × PS)) = some o from hF)
  | succ k ih =>
    intro x1 σ hF
    rw [L_X12_fact_2] at hF
    refine q_iload_n C 1 dX12_fact_2 rfl rfl ?_
    refine q_if_eq (tgt := 75) C dX12_fact_3 (by decide) (fun c1 => ?_) (fun c1 => ?_)
    · replace hF := ift c1 hF
      cases hF
      refine q_sub [0] rfl ?_
      exact hx2 rfl
    · replace hF := ife c1 hF
      refine q_iconst (v := 0) C dX12_fact_6 (by decide) ?_
      refine q_istore_n C [(1, .int 0), (0, .ref (ad (249)))] dX12_fact_7 rfl (by decide) rfl ?_
      refine q_aload_n C 1 dX12_fact_8 rfl rfl ?_
      obtain ⟨q2, h3, hF⟩ := bnd hF
      try dsimp only at hF
      refine q_callVi C [] (c_X12_see l D ad ca kz C.2.2.2.2.2.2.1 _ _ _ h3) tw_1207 gm_X12_see pi_249.1 (pe_11 pi_249.2) rfl ⟨rfl, rfl⟩ ⟨Nat.le_trans (Nat.le_of_ble_eq_true rfl) hR.1, Nat.le_trans (Nat.le_of_ble_eq_true rfl) hR.2⟩ rfl (Nat.le_of_ble_eq_true rfl) dX12_fact_9 q00 ?_
      refine q_istore_n C [(2, .int q2.1), (1, .int 0), (0, .ref (ad (249)))] dX12_fact_12 rfl (by decide) rfl ?_
      refine q_aload_n C 2 dX12_fact_13 rfl rfl ?_
      refine q_ldc2 C dX12_fact_14 tw_1323 ?_
      obtain ⟨q4, h5, hF⟩ := bnd hF
      try dsimp only at hF
      refine q_callVi C [.long ((7237492 : Int64))] (c_X12_isWord l D ad ca kz C.2.2.2.2.2.2.1 _ _ _ _ h5) tw_1216 gm_X12_isWord pi_249.1 (pe_11 pi_249.2) rfl ⟨rfl, rfl⟩ ⟨Nat.le_trans (Nat.le_of_ble_eq_true rfl) hR.1, Nat.le_trans (Nat.le_of_ble_eq_true rfl) hR.2⟩ rfl (Nat.le_of_ble_eq_true rfl) dX12_fact_17 q00 ?_
      refine q_if_eq (tgt := 43) C dX12_fact_20 (by decide) (fun c6 => ?_) (fun c6 => ?_)
      · replace hF := ift c6 hF
        refine q_iload_n C 0 dX12_fact_43 rfl rfl ?_
        refine q_bipush (v := 91) C dX12_fact_44 (by decide) ?_
        refine q_icmp_ne (tgt := 72) C dX12_fact_46 (by decide) (fun c7 => ?_) (fun c7 => ?_)
        · replace hF := ife c7 hF
          refine q_goto (tgt := 2) C dX12_fact_72 (by decide) ?_
          refine q_sub [2, 1] rfl ?_
          exact ih _ _ hF
        · replace hF := ift c7 hF
          refine q_aload_n C 2 dX12_fact_49 rfl rfl ?_
          refine q_bipush (v := 91) C dX12_fact_50 (by decide) ?_
          obtain ⟨q8, h9, hF⟩ := bnd hF
          try dsimp only at hF
          refine q_callVi C [.int 91] (c_X12_opens l D ad ca kz C.2.2.2.2.2.2.1 _ _ _ _ h9) tw_1324 gm_X12_opens pi_249.1 (pe_11 pi_249.2) rfl ⟨rfl, rfl⟩ ⟨Nat.le_trans (Nat.le_of_ble_eq_true rfl) hR.1, Nat.le_trans (Nat.le_of_ble_eq_true rfl) hR.2⟩ rfl (Nat.le_of_ble_eq_true rfl) dX12_fact_52 q00 ?_
          refine q_if_ne (tgt := 60) C dX12_fact_55 (by decide) (fun c10 => ?_) (fun c10 => ?_)
          · replace hF := ife c10 hF
            refine q_aload_n C 2 dX12_fact_60 rfl rfl ?_
            refine q_dup C dX12_fact_61 rfl ?_
            refine qg_11_8 C pi_249 tw_1061 dX12_fact_62 ?_
            refine q_iconst (v := 1) C dX12_fact_65 (by decide) ?_
            refine q_iadd C dX12_fact_66 ?_
            refine qs_11_8 C pi_249 tw_1061 dX12_fact_67 ?_
            refine q_iconst (v := 1) C dX12_fact_70 (by decide) ?_
            refine q_istore_n C [(1, .int 1), (2, .int q2.1), (0, .ref (ad (249)))] dX12_fact_71 rfl (by decide) rfl ?_
            refine q_goto (tgt := 2) C dX12_fact_72 (by decide) ?_
            refine q_sub [2, 0] rfl ?_
            exact ih _ _ hF
          · replace hF := ift c10 hF
            cases hF
            refine q_sub [] rfl ?_
            exact hx1 rfl
      · replace hF := ife c6 hF
        refine q_aload_n C 2 dX12_fact_23 rfl rfl ?_
        refine q_bipush (v := 11) C dX12_fact_24 (by decide) ?_
        obtain ⟨q11, h12, hF⟩ := bnd hF
        try dsimp only at hF
        refine q_callVi C [.int 11] (c_X12_opens l D ad ca kz C.2.2.2.2.2.2.1 _ _ _ _ h12) tw_1324 gm_X12_opens pi_249.1 (pe_11 pi_249.2) rfl ⟨rfl, rfl⟩ ⟨Nat.le_trans (Nat.le_of_ble_eq_true rfl) hR.1, Nat.le_trans (Nat.le_of_ble_eq_true rfl) hR.2⟩ rfl (Nat.le_of_ble_eq_true rfl) dX12_fact_26 q00 ?_
        refine q_if_ne (tgt := 34) C dX12_fact_29 (by decide) (fun c13 => ?_) (fun c13 => ?_)
        · replace hF := ife c13 hF
          refine q_aload_n C 2 dX12_fact_34 rfl rfl ?_
          obtain ⟨q14, h15, hF⟩ := bnd hF
          try dsimp only at hF
          refine q_callVv C [] (c_X12_passWord l D ad ca kz C.2.2.2.2.2.2.1 _ _ _ h15) tw_1239 gm_X12_passWord pi_249.1 (pe_11 pi_249.2) rfl ⟨rfl, rfl⟩ ⟨Nat.le_trans (Nat.le_of_ble_eq_true rfl) hR.1, Nat.le_trans (Nat.le_of_ble_eq_true rfl) hR.2⟩ rfl (Nat.le_of_ble_eq_true rfl) dX12_fact_35 q00 ?_
          refine q_iconst (v := 1) C dX12_fact_38 (by decide) ?_
          refine q_istore_n C [(1, .int 1), (2, .int q2.1), (0, .ref (ad (249)))] dX12_fact_39 rfl (by decide) rfl ?_
          refine q_goto (tgt := 72) C dX12_fact_40 (by decide) ?_
          refine q_goto (tgt := 2) C dX12_fact_72 (by decide) ?_
          refine q_sub [2, 0] rfl ?_
          exact ih _ _ hF
        · replace hF := ift c13 hF
          cases hF
          refine q_sub [] rfl ?_
          exact hx0 rfl
set_option maxHeartbeats 4000000 in
set_option maxRecDepth 100000 in
theorem c_X12_fact (l : Launch) (D : va_G) (ad : Nat → Nat) (ca : Nat → ClassId) (kz : Nat → Nat) (hJ : pInj ad) (n : Nat) (σ : PS) (out : Int32 × PS) (hF : F_X12_fact n σ = some out) : Met l yX12_fact (Cond.code yX12_fact cX12_fact 3 (Option.some Jvm.ClassFile.FieldType.boolean) :: gw_tbl) { frames := 7, cells := 0, slots := 0, locals := 154 } (va_Pc [.ref (ad (249))] (pU D ad ca kz σ)) (pQi D ad ca out) 0 0 (pAD ad) := by
  refine q_entry (own := "AskedCampModel") hJ (by decide) rfl (Nat.le_of_ble_eq_true rfl) (fun p e s m below meth c C hr hlk => ?_)
  refine q_lv [(0, .ref (ad (249)))] rfl ?_
  rw [F_X12_fact] at hF
  refine q_iconst (v := 1) C dX12_fact_0 (by decide) ?_
  refine q_istore_n C [(1, .int 1), (0, .ref (ad (249)))] dX12_fact_1 rfl (by decide) rfl ?_
  obtain ⟨o16, h17, hF⟩ := bnd hF
  try dsimp only at hF
  refine q_sub [1, 0] rfl ?_
  refine l_X12_fact_2 C ⟨Nat.le_of_ble_eq_true rfl, Nat.le_of_ble_eq_true rfl⟩ o16 (fun eo16_0 => ?_) (fun eo16_1 => ?_) (fun eo16_2 => ?_) n _ _ h17
  · -- exit 0
    replace hF := ift eo16_0 hF
    refine q_iconst (v := 0) C dX12_fact_32 (by decide) ?_
    exact q_zret C hr hlk dX12_fact_33 (by decide) hF
  · -- exit 1
    replace hF := ife (by rw [eo16_1]; decide) hF
    replace hF := ift eo16_1 hF
    refine q_iconst (v := 0) C dX12_fact_58 (by decide) ?_
    exact q_zret C hr hlk dX12_fact_59 (by decide) hF
  · -- exit 2
    replace hF := ife (by rw [eo16_2]; decide) hF
    replace hF := ife (by rw [eo16_2]; decide) hF
    refine q_aload_n C 0 dX12_fact_75 rfl rfl ?_
    obtain ⟨q18, h19, hF⟩ := bnd hF
    try dsimp only at hF
    refine q_callVi C [] (c_X12_compare l D ad ca kz C.2.2.2.2.2.2.1 _ _ _ h19) tw_1328 gm_X12_compare pi_249.1 (pe_11 pi_249.2) rfl ⟨rfl, rfl⟩ ⟨Nat.le_of_ble_eq_true rfl, Nat.le_of_ble_eq_true rfl⟩ rfl (Nat.le_of_ble_eq_true rfl) dX12_fact_76 q00 ?_
    obtain ⟨g20, hF⟩ := grd hF
    exact q_zret C hr hlk dX12_fact_79 g20 hF
-- X12_tested
def L_X12_tested_12 (n : Nat) : Nat → Int32 → PS → Option (Nat × PS)
  | 0, _, _ => none
  | k + 1, x1, σ => (if x1 = 0 then some (1, σ) else (F_X12_fact n σ).bind (fun q2 => (if q2.1 = 0 then some (0, q2.2) else (F_X12_closes n q2.2).bind (fun q5 => (F_X12_isWord n (6385252 : Int64) q5).bind (fun q7 => (if q7.1 = 0 then (F_X12_isWord n (28530 : Int64) q7.2).bind (fun q28 => (if q28.1 = 0 then (if (0 : Int32) = 0 then L_X12_tested_12 n k (0 : Int32) q28.2 else (F_X12_isWord n (6385252 : Int64) q28.2).bind (fun q32 => (if q32.1 = 0 then (F_X12_passWord n q32.2).bind (fun q35 => (F_X12_strength n (13 : Int32) q35).bind (fun q37 => (F_X12_layDown n q37.1 q37.2).bind (fun q39 => (if 0 ≤ (q39.1 249 16) ∧ (q39.1 249 16).toNatClampNeg < 400 then L_X12_tested_12 n k (0 : Int32) (psI (psI q39 256 ((q39.1 249 16).toNatClampNeg) (13 : Int32)) 249 16 (((psI q39 256 ((q39.1 249 16).toNatClampNeg) (13 : Int32)).1 249 16) + (1 : Int32))) else none)))) else (F_X12_passWord n q32.2).bind (fun q42 => (F_X12_strength n (12 : Int32) q42).bind (fun q44 => (F_X12_layDown n q44.1 q44.2).bind (fun q46 => (if 0 ≤ (q46.1 249 16) ∧ (q46.1 249 16).toNatClampNeg < 400 then L_X12_tested_12 n k (0 : Int32) (psI (psI q46 256 ((q46.1 249 16).toNatClampNeg) (12 : Int32)) 249 16 (((psI q46 256 ((q46.1 249 16).toNatClampNeg) (12 : Int32)).1 249 16) + (1 : Int32))) else none))))))) else (if (1 : Int32) = 0 then L_X12_tested_12 n k (1 : Int32) q28.2 else (F_X12_isWord n (6385252 : Int64) q28.2).bind (fun q50 => (if q50.1 = 0 then (F_X12_passWord n q50.2).bind (fun q53 => (F_X12_strength n (13 : Int32) q53).bind (fun q55 => (F_X12_layDown n q55.1 q55.2).bind (fun q57 => (if 0 ≤ (q57.1 249 16) ∧ (q57.1 249 16).toNatClampNeg < 400 then L_X12_tested_12 n k (1 : Int32) (psI (psI q57 256 ((q57.1 249 16).toNatClampNeg) (13 : Int32)) 249 16 (((psI q57 256 ((q57.1 249 16).toNatClampNeg) (13 : Int32)).1 249 16) + (1 : Int32))) else none)))) else (F_X12_passWord n q50.2).bind (fun q60 => (F_X12_strength n (12 : Int32) q60).bind (fun q62 => (F_X12_layDown n q62.1 q62.2).bind (fun q64 => (if 0 ≤ (q64.1 249 16) ∧ (q64.1 249 16).toNatClampNeg < 400 then L_X12_tested_12 n k (1 : Int32) (psI (psI q64 256 ((q64.1 249 16).toNatClampNeg) (12 : Int32)) 249 16 (((psI q64 256 ((q64.1 249 16).toNatClampNeg) (12 : Int32)).1 249 16) + (1 : Int32))) else none))))))))) else (if (1 : Int32) = 0 then L_X12_tested_12 n k (1 : Int32) q7.2 else (F_X12_isWord n (6385252 : Int64) q7.2).bind (fun q11 => (if q11.1 = 0 then (F_X12_passWord n q11.2).bind (fun q14 => (F_X12_strength n (13 : Int32) q14).bind (fun q16 => (F_X12_layDown n q16.1 q16.2).bind (fun q18 => (if 0 ≤ (q18.1 249 16) ∧ (q18.1 249 16).toNatClampNeg < 400 then L_X12_tested_12 n k (1 : Int32) (psI (psI q18 256 ((q18.1 249 16).toNatClampNeg) (13 : Int32)) 249 16 (((psI q18 256 ((q18.1 249 16).toNatClampNeg) (13 : Int32)).1 249 16) + (1 : Int32))) else none)))) else (F_X12_passWord n q11.2).bind (fun q21 => (F_X12_strength n (12 : Int32) q21).bind (fun q23 => (F_X12_layDown n q23.1 q23.2).bind (fun q25 => (if 0 ≤ (q25.1 249 16) ∧ (q25.1 249 16).toNatClampNeg < 400 then L_X12_tested_12 n k (1 : Int32) (psI (psI q25 256 ((q25.1 249 16).toNatClampNeg) (12 : Int32)) 249 16 (((psI q25 256 ((q25.1 249 16).toNatClampNeg) (12 : Int32)).1 249 16) + (1 : Int32))) else none)))))))))))))
def F_X12_tested (n : Nat) (σ : PS) : Option (Int32 × PS) := (L_X12_tested_12 n n (1 : Int32) (psI (psI σ 249 16 (0 : Int32)) 249 13 (0 : Int32))).bind (fun o67 => (if o67.1 = 0 then some ((0 : Int32), o67.2) else (F_X12_isInside n o67.2).bind (fun q69 => (if q69.1 = 0 then (F_X12_layDown n (1 : Int32) q69.2).bind (fun q72 => some ((1 : Int32), q72)) else (F_X12_see n q69.2).bind (fun q74 => (F_X12_fails n (0 : Int32) (q74.2.1 249 8) q74.2).bind (fun q76 => (if q76.1 = 0 ∨ q76.1 = 1 then some (q76.1, q76.2) else none)))))))
theorem gm_X12_tested : gM "AskedCampModel" yX12_tested (Cond.code yX12_tested cX12_tested 3 (Option.some Jvm.ClassFile.FieldType.boolean)) 0 := ⟨by decide +kernel, tw_1317, tw_p50, tw_12, tw_1318⟩
set_option maxHeartbeats 4000000 in
set_option maxRecDepth 100000 in
theorem l_X12_tested_12 {p : Program} {l : Launch} {e : Env} {R : Room} {s : State} {m : MethodId} {args : Array Value} {below : List Frame} {meth : Method} {c : Code} {D : va_G} {ad : Nat → Nat} {ca : Nat → ClassId} {kz : Nat → Nat} {Q : State → Prop} (C : pC p s m args c cX12_tested "AskedCampModel" 3 D ad ca kz) (hR : 8 ≤ R.frames ∧ 176 ≤ R.locals) {n : Nat} (o : Nat × PS) (hx0 : o.1 = 0 → PW p l e R s m args below meth c 3 D ad ca 0 0 Q (o.2) 23 [] []) (hx1 : o.1 = 1 → PW p l e R s m args below meth c 3 D ad ca 0 0 Q (o.2) 112 [(0, .ref (ad (249)))] []) : ∀ (k : Nat) (x1 : Int32) (σ : PS), L_X12_tested_12 n k x1 σ = some o → PW p l e R s m args below meth c 3 D ad ca 0 0 Q σ 12 [(0, .ref (ad (249))), (1, .int x1)] [] := by
  intro k
  induction k with
  | zero => intro x1 σ hF; exact nomatch (show (none : Option (Nat × PS)) = some o from hF)
  | succ k ih =>
    intro x1 σ hF
    rw [L_X12_tested_12] at hF
    refine q_iload_n C 1 dX12_tested_12 rfl rfl ?_
    refine q_if_eq (tgt := 112) C dX12_tested_13 (by decide) (fun c1 => ?_) (fun c1 => ?_)
    · replace hF := ift c1 hF
      cases hF
      refine q_sub [0] rfl ?_
      exact hx1 rfl
    · replace hF := ife c1 hF
      refine q_aload_n C 0 dX12_tested_16 rfl rfl ?_
      obtain ⟨q2, h3, hF⟩ := bnd hF
      try dsimp only at hF
      refine q_callVi C [] (c_X12_fact l D ad ca kz C.2.2.2.2.2.2.1 _ _ _ h3) tw_1319 gm_X12_fact pi_249.1 (pe_11 pi_249.2) rfl ⟨rfl, rfl⟩ ⟨Nat.le_trans (Nat.le_of_ble_eq_true rfl) hR.1, Nat.le_trans (Nat.le_of_ble_eq_true rfl) hR.2⟩ rfl (Nat.le_of_ble_eq_true rfl) dX12_tested_17 q00 ?_
      refine q_if_ne (tgt := 25) C dX12_tested_20 (by decide) (fun c4 => ?_) (fun c4 => ?_)
      · replace hF := ife c4 hF
        refine q_aload_n C 0 dX12_tested_25 rfl rfl ?_
        obtain ⟨q5, h6, hF⟩ := bnd hF
        try dsimp only at hF
        refine q_callVv C [] (c_X12_closes l D ad ca kz C.2.2.2.2.2.2.1 _ _ _ h6) tw_1332 gm_X12_closes pi_249.1 (pe_11 pi_249.2) rfl ⟨rfl, rfl⟩ ⟨Nat.le_trans (Nat.le_of_ble_eq_true rfl) hR.1, Nat.le_trans (Nat.le_of_ble_eq_true rfl) hR.2⟩ rfl (Nat.le_of_ble_eq_true rfl) dX12_tested_26 q00 ?_
        refine q_aload_n C 0 dX12_tested_29 rfl rfl ?_
        refine q_ldc2 C dX12_tested_30 tw_1347 ?_
        obtain ⟨q7, h8, hF⟩ := bnd hF
        try dsimp only at hF
        refine q_callVi C [.long ((6385252 : Int64))] (c_X12_isWord l D ad ca kz C.2.2.2.2.2.2.1 _ _ _ _ h8) tw_1216 gm_X12_isWord pi_249.1 (pe_11 pi_249.2) rfl ⟨rfl, rfl⟩ ⟨Nat.le_trans (Nat.le_of_ble_eq_true rfl) hR.1, Nat.le_trans (Nat.le_of_ble_eq_true rfl) hR.2⟩ rfl (Nat.le_of_ble_eq_true rfl) dX12_tested_33 q00 ?_
        refine q_if_ne (tgt := 49) C dX12_tested_36 (by decide) (fun c9 => ?_) (fun c9 => ?_)
        · replace hF := ife c9 hF
          refine q_iconst (v := 1) C dX12_tested_49 (by decide) ?_
          refine q_goto (tgt := 54) C dX12_tested_50 (by decide) ?_
          refine q_istore_n C [(1, .int 1), (0, .ref (ad (249)))] dX12_tested_54 rfl (by decide) rfl ?_
          refine q_iload_n C 0 dX12_tested_55 rfl rfl ?_
          refine q_if_eq (tgt := 12) C dX12_tested_56 (by decide) (fun c10 => ?_) (fun c10 => ?_)
          · replace hF := ift c10 hF
            refine q_sub [1, 0] rfl ?_
            exact ih _ _ hF
          · replace hF := ife c10 hF
            refine q_aload_n C 1 dX12_tested_59 rfl rfl ?_
            refine q_ldc2 C dX12_tested_60 tw_1347 ?_
            obtain ⟨q11, h12, hF⟩ := bnd hF
            try dsimp only at hF
            refine q_callVi C [.long ((6385252 : Int64))] (c_X12_isWord l D ad ca kz C.2.2.2.2.2.2.1 _ _ _ _ h12) tw_1216 gm_X12_isWord pi_249.1 (pe_11 pi_249.2) rfl ⟨rfl, rfl⟩ ⟨Nat.le_trans (Nat.le_of_ble_eq_true rfl) hR.1, Nat.le_trans (Nat.le_of_ble_eq_true rfl) hR.2⟩ rfl (Nat.le_of_ble_eq_true rfl) dX12_tested_63 q00 ?_
            refine q_if_eq (tgt := 74) C dX12_tested_66 (by decide) (fun c13 => ?_) (fun c13 => ?_)
            · replace hF := ift c13 hF
              refine q_bipush (v := 13) C dX12_tested_74 (by decide) ?_
              refine q_istore_n C [(2, .int 13), (1, .int 1), (0, .ref (ad (249)))] dX12_tested_76 rfl (by decide) rfl ?_
              refine q_aload_n C 2 dX12_tested_77 rfl rfl ?_
              obtain ⟨q14, h15, hF⟩ := bnd hF
              try dsimp only at hF
              refine q_callVv C [] (c_X12_passWord l D ad ca kz C.2.2.2.2.2.2.1 _ _ _ h15) tw_1239 gm_X12_passWord pi_249.1 (pe_11 pi_249.2) rfl ⟨rfl, rfl⟩ ⟨Nat.le_trans (Nat.le_of_ble_eq_true rfl) hR.1, Nat.le_trans (Nat.le_of_ble_eq_true rfl) hR.2⟩ rfl (Nat.le_of_ble_eq_true rfl) dX12_tested_78 q00 ?_
              refine q_aload_n C 2 dX12_tested_81 rfl rfl ?_
              refine q_iload_n C 0 dX12_tested_82 rfl rfl ?_
              obtain ⟨q16, h17, hF⟩ := bnd hF
              try dsimp only at hF
              refine q_callSi C [.int 13] (c_X12_strength l D ad ca kz C.2.2.2.2.2.2.1 _ _ _ _ h17) tw_1340 gm_X12_strength ⟨rfl, rfl⟩ ⟨Nat.le_trans (Nat.le_of_ble_eq_true rfl) hR.1, Nat.le_trans (Nat.le_of_ble_eq_true rfl) hR.2⟩ rfl (Nat.le_of_ble_eq_true rfl) dX12_tested_83 q00 ?_
              obtain ⟨q18, h19, hF⟩ := bnd hF
              try dsimp only at hF
              refine q_callVv C [.int q16.1] (c_X12_layDown l D ad ca kz C.2.2.2.2.2.2.1 _ _ _ _ h19) tw_1336 gm_X12_layDown pi_249.1 (pe_11 pi_249.2) rfl ⟨rfl, rfl⟩ ⟨Nat.le_trans (Nat.le_of_ble_eq_true rfl) hR.1, Nat.le_trans (Nat.le_of_ble_eq_true rfl) hR.2⟩ rfl (Nat.le_of_ble_eq_true rfl) dX12_tested_86 q00 ?_
              refine q_aload_n C 2 dX12_tested_89 rfl rfl ?_
              refine qg_11_15 C pi_249 tw_1068 dX12_tested_90 ?_
              refine q_aload_n C 2 dX12_tested_93 rfl rfl ?_
              refine qg_11_16 C pi_249 tw_1069 dX12_tested_94 ?_
              refine q_iload_n C 0 dX12_tested_97 rfl rfl ?_
              obtain ⟨g20, hF⟩ := grd hF
              refine q_iast C pa_256 (vp_of g20) dX12_tested_98 ?_
              refine q_aload_n C 2 dX12_tested_99 rfl rfl ?_
              refine q_dup C dX12_tested_100 rfl ?_
              refine qg_11_16 C pi_249 tw_1069 dX12_tested_101 ?_
              refine q_iconst (v := 1) C dX12_tested_104 (by decide) ?_
              refine q_iadd C dX12_tested_105 ?_
              refine qs_11_16 C pi_249 tw_1069 dX12_tested_106 ?_
              refine q_goto (tgt := 12) C dX12_tested_109 (by decide) ?_
              refine q_sub [2, 1] rfl ?_
              exact ih _ _ hF
            · replace hF := ife c13 hF
              refine q_bipush (v := 12) C dX12_tested_69 (by decide) ?_
              refine q_goto (tgt := 76) C dX12_tested_71 (by decide) ?_
              refine q_istore_n C [(2, .int 12), (1, .int 1), (0, .ref (ad (249)))] dX12_tested_76 rfl (by decide) rfl ?_
              refine q_aload_n C 2 dX12_tested_77 rfl rfl ?_
              obtain ⟨q21, h22, hF⟩ := bnd hF
              try dsimp only at hF
              refine q_callVv C [] (c_X12_passWord l D ad ca kz C.2.2.2.2.2.2.1 _ _ _ h22) tw_1239 gm_X12_passWord pi_249.1 (pe_11 pi_249.2) rfl ⟨rfl, rfl⟩ ⟨Nat.le_trans (Nat.le_of_ble_eq_true rfl) hR.1, Nat.le_trans (Nat.le_of_ble_eq_true rfl) hR.2⟩ rfl (Nat.le_of_ble_eq_true rfl) dX12_tested_78 q00 ?_
              refine q_aload_n C 2 dX12_tested_81 rfl rfl ?_
              refine q_iload_n C 0 dX12_tested_82 rfl rfl ?_
              obtain ⟨q23, h24, hF⟩ := bnd hF
              try dsimp only at hF
              refine q_callSi C [.int 12] (c_X12_strength l D ad ca kz C.2.2.2.2.2.2.1 _ _ _ _ h24) tw_1340 gm_X12_strength ⟨rfl, rfl⟩ ⟨Nat.le_trans (Nat.le_of_ble_eq_true rfl) hR.1, Nat.le_trans (Nat.le_of_ble_eq_true rfl) hR.2⟩ rfl (Nat.le_of_ble_eq_true rfl) dX12_tested_83 q00 ?_
              obtain ⟨q25, h26, hF⟩ := bnd hF
              try dsimp only at hF
              refine q_callVv C [.int q23.1] (c_X12_layDown l D ad ca kz C.2.2.2.2.2.2.1 _ _ _ _ h26) tw_1336 gm_X12_layDown pi_249.1 (pe_11 pi_249.2) rfl ⟨rfl, rfl⟩ ⟨Nat.le_trans (Nat.le_of_ble_eq_true rfl) hR.1, Nat.le_trans (Nat.le_of_ble_eq_true rfl) hR.2⟩ rfl (Nat.le_of_ble_eq_true rfl) dX12_tested_86 q00 ?_
              refine q_aload_n C 2 dX12_tested_89 rfl rfl ?_
              refine qg_11_15 C pi_249 tw_1068 dX12_tested_90 ?_
              refine q_aload_n C 2 dX12_tested_93 rfl rfl ?_
              refine qg_11_16 C pi_249 tw_1069 dX12_tested_94 ?_
              refine q_iload_n C 0 dX12_tested_97 rfl rfl ?_
              obtain ⟨g27, hF⟩ := grd hF
              refine q_iast C pa_256 (vp_of g27) dX12_tested_98 ?_
              refine q_aload_n C 2 dX12_tested_99 rfl rfl ?_
              refine q_dup C dX12_tested_100 rfl ?_
              refine qg_11_16 C pi_249 tw_1069 dX12_tested_101 ?_
              refine q_iconst (v := 1) C dX12_tested_104 (by decide) ?_
              refine q_iadd C dX12_tested_105 ?_
              refine qs_11_16 C pi_249 tw_1069 dX12_tested_106 ?_
              refine q_goto (tgt := 12) C dX12_tested_109 (by decide) ?_
              refine q_sub [2, 1] rfl ?_
              exact ih _ _ hF
        · replace hF := ift c9 hF
          refine q_aload_n C 0 dX12_tested_39 rfl rfl ?_
          refine q_ldc2 C dX12_tested_40 tw_1348 ?_
          obtain ⟨q28, h29, hF⟩ := bnd hF
          try dsimp only at hF
          refine q_callVi C [.long ((28530 : Int64))] (c_X12_isWord l D ad ca kz C.2.2.2.2.2.2.1 _ _ _ _ h29) tw_1216 gm_X12_isWord pi_249.1 (pe_11 pi_249.2) rfl ⟨rfl, rfl⟩ ⟨Nat.le_trans (Nat.le_of_ble_eq_true rfl) hR.1, Nat.le_trans (Nat.le_of_ble_eq_true rfl) hR.2⟩ rfl (Nat.le_of_ble_eq_true rfl) dX12_tested_43 q00 ?_
          refine q_if_eq (tgt := 53) C dX12_tested_46 (by decide) (fun c30 => ?_) (fun c30 => ?_)
          · replace hF := ift c30 hF
            refine q_iconst (v := 0) C dX12_tested_53 (by decide) ?_
            refine q_istore_n C [(1, .int 0), (0, .ref (ad (249)))] dX12_tested_54 rfl (by decide) rfl ?_
            refine q_iload_n C 0 dX12_tested_55 rfl rfl ?_
            refine q_if_eq (tgt := 12) C dX12_tested_56 (by decide) (fun c31 => ?_) (fun c31 => ?_)
            · replace hF := ift c31 hF
              refine q_sub [1, 0] rfl ?_
              exact ih _ _ hF
            · replace hF := ife c31 hF
              refine q_aload_n C 1 dX12_tested_59 rfl rfl ?_
              refine q_ldc2 C dX12_tested_60 tw_1347 ?_
              obtain ⟨q32, h33, hF⟩ := bnd hF
              try dsimp only at hF
              refine q_callVi C [.long ((6385252 : Int64))] (c_X12_isWord l D ad ca kz C.2.2.2.2.2.2.1 _ _ _ _ h33) tw_1216 gm_X12_isWord pi_249.1 (pe_11 pi_249.2) rfl ⟨rfl, rfl⟩ ⟨Nat.le_trans (Nat.le_of_ble_eq_true rfl) hR.1, Nat.le_trans (Nat.le_of_ble_eq_true rfl) hR.2⟩ rfl (Nat.le_of_ble_eq_true rfl) dX12_tested_63 q00 ?_
              refine q_if_eq (tgt := 74) C dX12_tested_66 (by decide) (fun c34 => ?_) (fun c34 => ?_)
              · replace hF := ift c34 hF
                refine q_bipush (v := 13) C dX12_tested_74 (by decide) ?_
                refine q_istore_n C [(2, .int 13), (1, .int 0), (0, .ref (ad (249)))] dX12_tested_76 rfl (by decide) rfl ?_
                refine q_aload_n C 2 dX12_tested_77 rfl rfl ?_
                obtain ⟨q35, h36, hF⟩ := bnd hF
                try dsimp only at hF
                refine q_callVv C [] (c_X12_passWord l D ad ca kz C.2.2.2.2.2.2.1 _ _ _ h36) tw_1239 gm_X12_passWord pi_249.1 (pe_11 pi_249.2) rfl ⟨rfl, rfl⟩ ⟨Nat.le_trans (Nat.le_of_ble_eq_true rfl) hR.1, Nat.le_trans (Nat.le_of_ble_eq_true rfl) hR.2⟩ rfl (Nat.le_of_ble_eq_true rfl) dX12_tested_78 q00 ?_
                refine q_aload_n C 2 dX12_tested_81 rfl rfl ?_
                refine q_iload_n C 0 dX12_tested_82 rfl rfl ?_
                obtain ⟨q37, h38, hF⟩ := bnd hF
                try dsimp only at hF
                refine q_callSi C [.int 13] (c_X12_strength l D ad ca kz C.2.2.2.2.2.2.1 _ _ _ _ h38) tw_1340 gm_X12_strength ⟨rfl, rfl⟩ ⟨Nat.le_trans (Nat.le_of_ble_eq_true rfl) hR.1, Nat.le_trans (Nat.le_of_ble_eq_true rfl) hR.2⟩ rfl (Nat.le_of_ble_eq_true rfl) dX12_tested_83 q00 ?_
                obtain ⟨q39, h40, hF⟩ := bnd hF
                try dsimp only at hF
                refine q_callVv C [.int q37.1] (c_X12_layDown l D ad ca kz C.2.2.2.2.2.2.1 _ _ _ _ h40) tw_1336 gm_X12_layDown pi_249.1 (pe_11 pi_249.2) rfl ⟨rfl, rfl⟩ ⟨Nat.le_trans (Nat.le_of_ble_eq_true rfl) hR.1, Nat.le_trans (Nat.le_of_ble_eq_true rfl) hR.2⟩ rfl (Nat.le_of_ble_eq_true rfl) dX12_tested_86 q00 ?_
                refine q_aload_n C 2 dX12_tested_89 rfl rfl ?_
                refine qg_11_15 C pi_249 tw_1068 dX12_tested_90 ?_
                refine q_aload_n C 2 dX12_tested_93 rfl rfl ?_
                refine qg_11_16 C pi_249 tw_1069 dX12_tested_94 ?_
                refine q_iload_n C 0 dX12_tested_97 rfl rfl ?_
                obtain ⟨g41, hF⟩ := grd hF
                refine q_iast C pa_256 (vp_of g41) dX12_tested_98 ?_
                refine q_aload_n C 2 dX12_tested_99 rfl rfl ?_
                refine q_dup C dX12_tested_100 rfl ?_
                refine qg_11_16 C pi_249 tw_1069 dX12_tested_101 ?_
                refine q_iconst (v := 1) C dX12_tested_104 (by decide) ?_
                refine q_iadd C dX12_tested_105 ?_
                refine qs_11_16 C pi_249 tw_1069 dX12_tested_106 ?_
                refine q_goto (tgt := 12) C dX12_tested_109 (by decide) ?_
                refine q_sub [2, 1] rfl ?_
                exact ih _ _ hF
              · replace hF := ife c34 hF
                refine q_bipush (v := 12) C dX12_tested_69 (by decide) ?_
                refine q_goto (tgt := 76) C dX12_tested_71 (by decide) ?_
                refine q_istore_n C [(2, .int 12), (1, .int 0), (0, .ref (ad (249)))] dX12_tested_76 rfl (by decide) rfl ?_
                refine q_aload_n C 2 dX12_tested_77 rfl rfl ?_
                obtain ⟨q42, h43, hF⟩ := bnd hF
                try dsimp only at hF
                refine q_callVv C [] (c_X12_passWord l D ad ca kz C.2.2.2.2.2.2.1 _ _ _ h43) tw_1239 gm_X12_passWord pi_249.1 (pe_11 pi_249.2) rfl ⟨rfl, rfl⟩ ⟨Nat.le_trans (Nat.le_of_ble_eq_true rfl) hR.1, Nat.le_trans (Nat.le_of_ble_eq_true rfl) hR.2⟩ rfl (Nat.le_of_ble_eq_true rfl) dX12_tested_78 q00 ?_
                refine q_aload_n C 2 dX12_tested_81 rfl rfl ?_
                refine q_iload_n C 0 dX12_tested_82 rfl rfl ?_
                obtain ⟨q44, h45, hF⟩ := bnd hF
                try dsimp only at hF
                refine q_callSi C [.int 12] (c_X12_strength l D ad ca kz C.2.2.2.2.2.2.1 _ _ _ _ h45) tw_1340 gm_X12_strength ⟨rfl, rfl⟩ ⟨Nat.le_trans (Nat.le_of_ble_eq_true rfl) hR.1, Nat.le_trans (Nat.le_of_ble_eq_true rfl) hR.2⟩ rfl (Nat.le_of_ble_eq_true rfl) dX12_tested_83 q00 ?_
                obtain ⟨q46, h47, hF⟩ := bnd hF
                try dsimp only at hF
                refine q_callVv C [.int q44.1] (c_X12_layDown l D ad ca kz C.2.2.2.2.2.2.1 _ _ _ _ h47) tw_1336 gm_X12_layDown pi_249.1 (pe_11 pi_249.2) rfl ⟨rfl, rfl⟩ ⟨Nat.le_trans (Nat.le_of_ble_eq_true rfl) hR.1, Nat.le_trans (Nat.le_of_ble_eq_true rfl) hR.2⟩ rfl (Nat.le_of_ble_eq_true rfl) dX12_tested_86 q00 ?_
                refine q_aload_n C 2 dX12_tested_89 rfl rfl ?_
                refine qg_11_15 C pi_249 tw_1068 dX12_tested_90 ?_
                refine q_aload_n C 2 dX12_tested_93 rfl rfl ?_
                refine qg_11_16 C pi_249 tw_1069 dX12_tested_94 ?_
                refine q_iload_n C 0 dX12_tested_97 rfl rfl ?_
                obtain ⟨g48, hF⟩ := grd hF
                refine q_iast C pa_256 (vp_of g48) dX12_tested_98 ?_
                refine q_aload_n C 2 dX12_tested_99 rfl rfl ?_
                refine q_dup C dX12_tested_100 rfl ?_
                refine qg_11_16 C pi_249 tw_1069 dX12_tested_101 ?_
                refine q_iconst (v := 1) C dX12_tested_104 (by decide) ?_
                refine q_iadd C dX12_tested_105 ?_
                refine qs_11_16 C pi_249 tw_1069 dX12_tested_106 ?_
                refine q_goto (tgt := 12) C dX12_tested_109 (by decide) ?_
                refine q_sub [2, 1] rfl ?_
                exact ih _ _ hF
          · replace hF := ife c30 hF
            refine q_iconst (v := 1) C dX12_tested_49 (by decide) ?_
            refine q_goto (tgt := 54) C dX12_tested_50 (by decide) ?_
            refine q_istore_n C [(1, .int 1), (0, .ref (ad (249)))] dX12_tested_54 rfl (by decide) rfl ?_
            refine q_iload_n C 0 dX12_tested_55 rfl rfl ?_
            refine q_if_eq (tgt := 12) C dX12_tested_56 (by decide) (fun c49 => ?_) (fun c49 => ?_)
            · replace hF := ift c49 hF
              refine q_sub [1, 0] rfl ?_
              exact ih _ _ hF
            · replace hF := ife c49 hF
              refine q_aload_n C 1 dX12_tested_59 rfl rfl ?_
              refine q_ldc2 C dX12_tested_60 tw_1347 ?_
              obtain ⟨q50, h51, hF⟩ := bnd hF
              try dsimp only at hF
              refine q_callVi C [.long ((6385252 : Int64))] (c_X12_isWord l D ad ca kz C.2.2.2.2.2.2.1 _ _ _ _ h51) tw_1216 gm_X12_isWord pi_249.1 (pe_11 pi_249.2) rfl ⟨rfl, rfl⟩ ⟨Nat.le_trans (Nat.le_of_ble_eq_true rfl) hR.1, Nat.le_trans (Nat.le_of_ble_eq_true rfl) hR.2⟩ rfl (Nat.le_of_ble_eq_true rfl) dX12_tested_63 q00 ?_
              refine q_if_eq (tgt := 74) C dX12_tested_66 (by decide) (fun c52 => ?_) (fun c52 => ?_)
              · replace hF := ift c52 hF
                refine q_bipush (v := 13) C dX12_tested_74 (by decide) ?_
                refine q_istore_n C [(2, .int 13), (1, .int 1), (0, .ref (ad (249)))] dX12_tested_76 rfl (by decide) rfl ?_
                refine q_aload_n C 2 dX12_tested_77 rfl rfl ?_
                obtain ⟨q53, h54, hF⟩ := bnd hF
                try dsimp only at hF
                refine q_callVv C [] (c_X12_passWord l D ad ca kz C.2.2.2.2.2.2.1 _ _ _ h54) tw_1239 gm_X12_passWord pi_249.1 (pe_11 pi_249.2) rfl ⟨rfl, rfl⟩ ⟨Nat.le_trans (Nat.le_of_ble_eq_true rfl) hR.1, Nat.le_trans (Nat.le_of_ble_eq_true rfl) hR.2⟩ rfl (Nat.le_of_ble_eq_true rfl) dX12_tested_78 q00 ?_
                refine q_aload_n C 2 dX12_tested_81 rfl rfl ?_
                refine q_iload_n C 0 dX12_tested_82 rfl rfl ?_
                obtain ⟨q55, h56, hF⟩ := bnd hF
                try dsimp only at hF
                refine q_callSi C [.int 13] (c_X12_strength l D ad ca kz C.2.2.2.2.2.2.1 _ _ _ _ h56) tw_1340 gm_X12_strength ⟨rfl, rfl⟩ ⟨Nat.le_trans (Nat.le_of_ble_eq_true rfl) hR.1, Nat.le_trans (Nat.le_of_ble_eq_true rfl) hR.2⟩ rfl (Nat.le_of_ble_eq_true rfl) dX12_tested_83 q00 ?_
                obtain ⟨q57, h58, hF⟩ := bnd hF
                try dsimp only at hF
                refine q_callVv C [.int q55.1] (c_X12_layDown l D ad ca kz C.2.2.2.2.2.2.1 _ _ _ _ h58) tw_1336 gm_X12_layDown pi_249.1 (pe_11 pi_249.2) rfl ⟨rfl, rfl⟩ ⟨Nat.le_trans (Nat.le_of_ble_eq_true rfl) hR.1, Nat.le_trans (Nat.le_of_ble_eq_true rfl) hR.2⟩ rfl (Nat.le_of_ble_eq_true rfl) dX12_tested_86 q00 ?_
                refine q_aload_n C 2 dX12_tested_89 rfl rfl ?_
                refine qg_11_15 C pi_249 tw_1068 dX12_tested_90 ?_
                refine q_aload_n C 2 dX12_tested_93 rfl rfl ?_
                refine qg_11_16 C pi_249 tw_1069 dX12_tested_94 ?_
                refine q_iload_n C 0 dX12_tested_97 rfl rfl ?_
                obtain ⟨g59, hF⟩ := grd hF
                refine q_iast C pa_256 (vp_of g59) dX12_tested_98 ?_
                refine q_aload_n C 2 dX12_tested_99 rfl rfl ?_
                refine q_dup C dX12_tested_100 rfl ?_
                refine qg_11_16 C pi_249 tw_1069 dX12_tested_101 ?_
                refine q_iconst (v := 1) C dX12_tested_104 (by decide) ?_
                refine q_iadd C dX12_tested_105 ?_
                refine qs_11_16 C pi_249 tw_1069 dX12_tested_106 ?_
                refine q_goto (tgt := 12) C dX12_tested_109 (by decide) ?_
                refine q_sub [2, 1] rfl ?_
                exact ih _ _ hF
              · replace hF := ife c52 hF
                refine q_bipush (v := 12) C dX12_tested_69 (by decide) ?_
                refine q_goto (tgt := 76) C dX12_tested_71 (by decide) ?_
                refine q_istore_n C [(2, .int 12), (1, .int 1), (0, .ref (ad (249)))] dX12_tested_76 rfl (by decide) rfl ?_
                refine q_aload_n C 2 dX12_tested_77 rfl rfl ?_
                obtain ⟨q60, h61, hF⟩ := bnd hF
                try dsimp only at hF
                refine q_callVv C [] (c_X12_passWord l D ad ca kz C.2.2.2.2.2.2.1 _ _ _ h61) tw_1239 gm_X12_passWord pi_249.1 (pe_11 pi_249.2) rfl ⟨rfl, rfl⟩ ⟨Nat.le_trans (Nat.le_of_ble_eq_true rfl) hR.1, Nat.le_trans (Nat.le_of_ble_eq_true rfl) hR.2⟩ rfl (Nat.le_of_ble_eq_true rfl) dX12_tested_78 q00 ?_
                refine q_aload_n C 2 dX12_tested_81 rfl rfl ?_
                refine q_iload_n C 0 dX12_tested_82 rfl rfl ?_
                obtain ⟨q62, h63, hF⟩ := bnd hF
                try dsimp only at hF
                refine q_callSi C [.int 12] (c_X12_strength l D ad ca kz C.2.2.2.2.2.2.1 _ _ _ _ h63) tw_1340 gm_X12_strength ⟨rfl, rfl⟩ ⟨Nat.le_trans (Nat.le_of_ble_eq_true rfl) hR.1, Nat.le_trans (Nat.le_of_ble_eq_true rfl) hR.2⟩ rfl (Nat.le_of_ble_eq_true rfl) dX12_tested_83 q00 ?_
                obtain ⟨q64, h65, hF⟩ := bnd hF
                try dsimp only at hF
                refine q_callVv C [.int q62.1] (c_X12_layDown l D ad ca kz C.2.2.2.2.2.2.1 _ _ _ _ h65) tw_1336 gm_X12_layDown pi_249.1 (pe_11 pi_249.2) rfl ⟨rfl, rfl⟩ ⟨Nat.le_trans (Nat.le_of_ble_eq_true rfl) hR.1, Nat.le_trans (Nat.le_of_ble_eq_true rfl) hR.2⟩ rfl (Nat.le_of_ble_eq_true rfl) dX12_tested_86 q00 ?_
                refine q_aload_n C 2 dX12_tested_89 rfl rfl ?_
                refine qg_11_15 C pi_249 tw_1068 dX12_tested_90 ?_
                refine q_aload_n C 2 dX12_tested_93 rfl rfl ?_
                refine qg_11_16 C pi_249 tw_1069 dX12_tested_94 ?_
                refine q_iload_n C 0 dX12_tested_97 rfl rfl ?_
                obtain ⟨g66, hF⟩ := grd hF
                refine q_iast C pa_256 (vp_of g66) dX12_tested_98 ?_
                refine q_aload_n C 2 dX12_tested_99 rfl rfl ?_
                refine q_dup C dX12_tested_100 rfl ?_
                refine qg_11_16 C pi_249 tw_1069 dX12_tested_101 ?_
                refine q_iconst (v := 1) C dX12_tested_104 (by decide) ?_
                refine q_iadd C dX12_tested_105 ?_
                refine qs_11_16 C pi_249 tw_1069 dX12_tested_106 ?_
                refine q_goto (tgt := 12) C dX12_tested_109 (by decide) ?_
                refine q_sub [2, 1] rfl ?_
                exact ih _ _ hF
      · replace hF := ift c4 hF
        cases hF
        refine q_sub [] rfl ?_
        exact hx0 rfl
set_option maxHeartbeats 4000000 in
set_option maxRecDepth 100000 in
theorem c_X12_tested (l : Launch) (D : va_G) (ad : Nat → Nat) (ca : Nat → ClassId) (kz : Nat → Nat) (hJ : pInj ad) (n : Nat) (σ : PS) (out : Int32 × PS) (hF : F_X12_tested n σ = some out) : Met l yX12_tested (Cond.code yX12_tested cX12_tested 3 (Option.some Jvm.ClassFile.FieldType.boolean) :: gw_tbl) { frames := 8, cells := 0, slots := 0, locals := 176 } (va_Pc [.ref (ad (249))] (pU D ad ca kz σ)) (pQi D ad ca out) 0 0 (pAD ad) := by
  refine q_entry (own := "AskedCampModel") hJ (by decide) rfl (Nat.le_of_ble_eq_true rfl) (fun p e s m below meth c C hr hlk => ?_)
  refine q_lv [(0, .ref (ad (249)))] rfl ?_
  rw [F_X12_tested] at hF
  refine q_aload_n C 0 dX12_tested_0 rfl rfl ?_
  refine q_iconst (v := 0) C dX12_tested_1 (by decide) ?_
  refine qs_11_16 C pi_249 tw_1069 dX12_tested_2 ?_
  refine q_aload_n C 0 dX12_tested_5 rfl rfl ?_
  refine q_iconst (v := 0) C dX12_tested_6 (by decide) ?_
  refine qs_11_13 C pi_249 tw_1066 dX12_tested_7 ?_
  refine q_iconst (v := 1) C dX12_tested_10 (by decide) ?_
  refine q_istore_n C [(1, .int 1), (0, .ref (ad (249)))] dX12_tested_11 rfl (by decide) rfl ?_
  obtain ⟨o67, h68, hF⟩ := bnd hF
  try dsimp only at hF
  refine q_sub [1, 0] rfl ?_
  refine l_X12_tested_12 C ⟨Nat.le_of_ble_eq_true rfl, Nat.le_of_ble_eq_true rfl⟩ o67 (fun eo67_0 => ?_) (fun eo67_1 => ?_) n _ _ h68
  · -- exit 0
    replace hF := ift eo67_0 hF
    refine q_iconst (v := 0) C dX12_tested_23 (by decide) ?_
    exact q_zret C hr hlk dX12_tested_24 (by decide) hF
  · -- exit 1
    replace hF := ife (by rw [eo67_1]; decide) hF
    refine q_aload_n C 0 dX12_tested_112 rfl rfl ?_
    obtain ⟨q69, h70, hF⟩ := bnd hF
    try dsimp only at hF
    refine q_callVi C [] (c_X12_isInside l D ad ca kz C.2.2.2.2.2.2.1 _ _ _ h70) tw_1343 gm_X12_isInside pi_249.1 (pe_11 pi_249.2) rfl ⟨rfl, rfl⟩ ⟨Nat.le_of_ble_eq_true rfl, Nat.le_of_ble_eq_true rfl⟩ rfl (Nat.le_of_ble_eq_true rfl) dX12_tested_113 q00 ?_
    refine q_if_eq (tgt := 134) C dX12_tested_116 (by decide) (fun c71 => ?_) (fun c71 => ?_)
    · replace hF := ift c71 hF
      refine q_aload_n C 0 dX12_tested_134 rfl rfl ?_
      refine q_iconst (v := 1) C dX12_tested_135 (by decide) ?_
      obtain ⟨q72, h73, hF⟩ := bnd hF
      try dsimp only at hF
      refine q_callVv C [.int 1] (c_X12_layDown l D ad ca kz C.2.2.2.2.2.2.1 _ _ _ _ h73) tw_1336 gm_X12_layDown pi_249.1 (pe_11 pi_249.2) rfl ⟨rfl, rfl⟩ ⟨Nat.le_of_ble_eq_true rfl, Nat.le_of_ble_eq_true rfl⟩ rfl (Nat.le_of_ble_eq_true rfl) dX12_tested_136 q00 ?_
      refine q_iconst (v := 1) C dX12_tested_139 (by decide) ?_
      exact q_zret C hr hlk dX12_tested_140 (by decide) hF
    · replace hF := ife c71 hF
      refine q_aload_n C 0 dX12_tested_119 rfl rfl ?_
      obtain ⟨q74, h75, hF⟩ := bnd hF
      try dsimp only at hF
      refine q_callVi C [] (c_X12_see l D ad ca kz C.2.2.2.2.2.2.1 _ _ _ h75) tw_1207 gm_X12_see pi_249.1 (pe_11 pi_249.2) rfl ⟨rfl, rfl⟩ ⟨Nat.le_of_ble_eq_true rfl, Nat.le_of_ble_eq_true rfl⟩ rfl (Nat.le_of_ble_eq_true rfl) dX12_tested_120 q00 ?_
      refine q_pop C dX12_tested_123 rfl ?_
      refine q_aload_n C 0 dX12_tested_124 rfl rfl ?_
      refine q_iconst (v := 0) C dX12_tested_125 (by decide) ?_
      refine q_aload_n C 0 dX12_tested_126 rfl rfl ?_
      refine qg_11_8 C pi_249 tw_1061 dX12_tested_127 ?_
      obtain ⟨q76, h77, hF⟩ := bnd hF
      try dsimp only at hF
      refine q_callVi C [.int 0, .int (q74.2.1 249 8)] (c_X12_fails l D ad ca kz C.2.2.2.2.2.2.1 _ _ _ _ _ h77) tw_1227 gm_X12_fails pi_249.1 (pe_11 pi_249.2) rfl ⟨rfl, rfl⟩ ⟨Nat.le_of_ble_eq_true rfl, Nat.le_of_ble_eq_true rfl⟩ rfl (Nat.le_of_ble_eq_true rfl) dX12_tested_130 q00 ?_
      obtain ⟨g78, hF⟩ := grd hF
      exact q_zret C hr hlk dX12_tested_133 g78 hF
