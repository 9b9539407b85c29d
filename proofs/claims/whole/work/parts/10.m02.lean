-- X4_has
def F_X4_has (n : Nat) (a1 : Int32) (σ : PS) : Option (Int32 × PS) := (if a1 < 0 then some ((0 : Int32), σ) else (if (σ.1 7 0) ≤ a1 then some ((0 : Int32), σ) else some ((1 : Int32), σ)))
theorem gm_X4_has : gM "AskedCamp$RuleBook" yX4_has (Cond.code yX4_has cX4_has 2 (Option.some Jvm.ClassFile.FieldType.boolean)) 1 := ⟨by decide +kernel, tw_656, tw_657, tw_5, tw_658⟩
set_option maxHeartbeats 4000000 in
set_option maxRecDepth 100000 in
theorem c_X4_has (l : Launch) (D : va_G) (ad : Nat → Nat) (ca : Nat → ClassId) (kz : Nat → Nat) (hJ : pInj ad) (n : Nat) (a1 : Int32) (σ : PS) (out : Int32 × PS) (hF : F_X4_has n a1 σ = some out) : Met l yX4_has (Cond.code yX4_has cX4_has 2 (Option.some Jvm.ClassFile.FieldType.boolean) :: gw_tbl) { frames := 0, cells := 0, slots := 0, locals := 0 } (va_Pc [.ref (ad (7)), .int a1] (pU D ad ca kz σ)) (pQi D ad ca out) 0 0 (pAD ad) := by
  refine q_entry (own := "AskedCamp$RuleBook") hJ (by decide) rfl (Nat.le_of_ble_eq_true rfl) (fun p e s m below meth c C hr hlk => ?_)
  refine q_lv [(0, .ref (ad (7))), (1, .int a1)] rfl ?_
  rw [F_X4_has] at hF
  refine q_iload_n C 1 dX4_has_0 rfl rfl ?_
  refine q_if_lt (tgt := 16) C dX4_has_1 (by decide) (fun c1 => ?_) (fun c1 => ?_)
  · replace hF := ift c1 hF
    refine q_iconst (v := 0) C dX4_has_16 (by decide) ?_
    exact q_zret C hr hlk dX4_has_17 (by decide) hF
  · replace hF := ife c1 hF
    refine q_iload_n C 1 dX4_has_4 rfl rfl ?_
    refine q_aload_n C 0 dX4_has_5 rfl rfl ?_
    refine qg_3_0 C pi_7 tw_118 dX4_has_6 ?_
    refine q_icmp_ge (tgt := 16) C dX4_has_9 (by decide) (fun c2 => ?_) (fun c2 => ?_)
    · replace hF := ift c2 hF
      refine q_iconst (v := 0) C dX4_has_16 (by decide) ?_
      exact q_zret C hr hlk dX4_has_17 (by decide) hF
    · replace hF := ife c2 hF
      refine q_iconst (v := 1) C dX4_has_12 (by decide) ?_
      refine q_goto (tgt := 17) C dX4_has_13 (by decide) ?_
      exact q_zret C hr hlk dX4_has_17 (by decide) hF
-- X4_stride
def L_X4_stride_3 (n : Nat) (a1 : Nat) : Nat → Int32 → Int32 → Int32 → PS → Option (PS)
  | 0, _, _, _, _ => none
  | k + 1, x2, x3, x4, σ => (if x3 ≤ x4 then some σ else (F_X10_hasCell n a1 (σ.1 a1 2) σ).bind (fun q2 => (if q2.1 = 0 then some q2.2 else (F_X4_has n x2 q2.2).bind (fun q5 => (if q5.1 = 0 then (F_X10_cellsToAsk n a1 q5.2).bind (fun q8 => (F_X10_towards n a1 q8.1 q8.2).bind (fun q10 => (if 0 ≤ ((psI q10.2 a1 2 q10.1).1 a1 2) ∧ ((psI q10.2 a1 2 q10.1).1 a1 2).toNatClampNeg < 36 then (F_X10_askWhoIsHere n a1 (psI (psI q10.2 a1 2 q10.1) (a1 + 5) (((psI q10.2 a1 2 q10.1).1 a1 2).toNatClampNeg) (((psI q10.2 a1 2 q10.1).1 (a1 + 5) (((psI q10.2 a1 2 q10.1).1 a1 2).toNatClampNeg)) + (1 : Int32)))).bind (fun q13 => L_X4_stride_3 n a1 k x2 x3 (x4 + 1) (psI q13 a1 3 ((q13.1 a1 3) + (1 : Int32)))) else none))) else (F_X4_favourite n a1 x2 q5.2).bind (fun q15 => (if 0 ≤ ((psI q15.2 a1 2 q15.1).1 a1 2) ∧ ((psI q15.2 a1 2 q15.1).1 a1 2).toNatClampNeg < 36 then (F_X10_askWhoIsHere n a1 (psI (psI q15.2 a1 2 q15.1) (a1 + 5) (((psI q15.2 a1 2 q15.1).1 a1 2).toNatClampNeg) (((psI q15.2 a1 2 q15.1).1 (a1 + 5) (((psI q15.2 a1 2 q15.1).1 a1 2).toNatClampNeg)) + (1 : Int32)))).bind (fun q18 => L_X4_stride_3 n a1 k x2 x3 (x4 + 1) (psI q18 a1 3 ((q18.1 a1 3) + (1 : Int32)))) else none)))))))
def F_X4_stride (n : Nat) (a1 : Nat) (a2 : Int32) (a3 : Int32) (σ : PS) : Option (PS) := (L_X4_stride_3 n a1 n a2 a3 (0 : Int32) σ).bind (fun o20 => some o20)
theorem gm_X4_stride : gM "AskedCamp$RuleBook" yX4_stride (Cond.code yX4_stride cX4_stride 5 (Option.none : Option Jvm.ClassFile.FieldType)) 3 := ⟨by decide +kernel, tw_718, tw_719, tw_5, tw_720⟩
set_option maxHeartbeats 4000000 in
set_option maxRecDepth 100000 in
theorem l_X4_stride_3 {p : Program} {l : Launch} {e : Env} {R : Room} {s : State} {m : MethodId} {args : Array Value} {below : List Frame} {meth : Method} {c : Code} {D : va_G} {ad : Nat → Nat} {ca : Nat → ClassId} {kz : Nat → Nat} {Q : State → Prop} (C : pC p s m args c cX4_stride "AskedCamp$RuleBook" 5 D ad ca kz) (hR : 5 ≤ R.frames ∧ 130 ≤ R.locals) {n : Nat} {a1 : Nat} (ha1 : pis a1 9) (o : PS) (hx0 : PW p l e R s m args below meth c 5 D ad ca 0 0 Q (o) 86 [] []) : ∀ (k : Nat) (x2 : Int32) (x3 : Int32) (x4 : Int32) (σ : PS), L_X4_stride_3 n a1 k x2 x3 x4 σ = some o → PW p l e R s m args below meth c 5 D ad ca 0 0 Q σ 3 [(0, .ref (ad (7))), (1, .ref (ad (a1))), (2, .int x2), (3, .int x3), (4, .int x4)] [] := by
  intro k
  induction k with
  | zero => intro x2 x3 x4 σ hF; exact nomatch (show (none : Option (PS)) = some o from hF)
  | succ k ih =>
    intro x2 x3 x4 σ hF
    rw [L_X4_stride_3] at hF
    refine q_iload C 4 dX4_stride_3 rfl ?_
    refine q_iload_n C 3 dX4_stride_5 rfl rfl ?_
    refine q_icmp_ge (tgt := 86) C dX4_stride_6 (by decide) (fun c1 => ?_) (fun c1 => ?_)
    · replace hF := ift c1 hF
      cases hF
      refine q_sub [] rfl ?_
      exact hx0
    · replace hF := ife c1 hF
      refine q_aload_n C 1 dX4_stride_9 rfl rfl ?_
      refine q_aload_n C 1 dX4_stride_10 rfl rfl ?_
      refine qg_9_2 C ha1 tw_167 dX4_stride_11 ?_
      obtain ⟨q2, h3, hF⟩ := bnd hF
      try dsimp only at hF
      refine q_callVi C [.int (σ.1 a1 2)] (c_X10_hasCell l D ad ca kz C.2.2.2.2.2.2.1 _ ha1 _ _ _ h3) tw_721 gm_X10_hasCell ha1.1 (pe_9 ha1.2) rfl ⟨rfl, rfl⟩ ⟨Nat.le_trans (Nat.le_of_ble_eq_true rfl) hR.1, Nat.le_trans (Nat.le_of_ble_eq_true rfl) hR.2⟩ rfl (Nat.le_of_ble_eq_true rfl) dX4_stride_14 q00 ?_
      refine q_if_eq (tgt := 86) C dX4_stride_17 (by decide) (fun c4 => ?_) (fun c4 => ?_)
      · replace hF := ift c4 hF
        cases hF
        refine q_sub [] rfl ?_
        exact hx0
      · replace hF := ife c4 hF
        refine q_aload_n C 0 dX4_stride_20 rfl rfl ?_
        refine q_iload_n C 2 dX4_stride_21 rfl rfl ?_
        obtain ⟨q5, h6, hF⟩ := bnd hF
        try dsimp only at hF
        refine q_callVi C [.int x2] (c_X4_has l D ad ca kz C.2.2.2.2.2.2.1 _ _ _ _ h6) tw_722 gm_X4_has pi_7.1 (pe_3 pi_7.2) rfl ⟨rfl, rfl⟩ ⟨Nat.le_trans (Nat.le_of_ble_eq_true rfl) hR.1, Nat.le_trans (Nat.le_of_ble_eq_true rfl) hR.2⟩ rfl (Nat.le_of_ble_eq_true rfl) dX4_stride_22 q00 ?_
        refine q_if_eq (tgt := 41) C dX4_stride_25 (by decide) (fun c7 => ?_) (fun c7 => ?_)
        · replace hF := ift c7 hF
          refine q_aload_n C 1 dX4_stride_41 rfl rfl ?_
          refine q_aload_n C 1 dX4_stride_42 rfl rfl ?_
          refine q_aload_n C 1 dX4_stride_43 rfl rfl ?_
          obtain ⟨q8, h9, hF⟩ := bnd hF
          try dsimp only at hF
          refine q_callVl C [] (c_X10_cellsToAsk l D ad ca kz C.2.2.2.2.2.2.1 _ ha1 _ _ h9) tw_727 gm_X10_cellsToAsk ha1.1 (pe_9 ha1.2) rfl ⟨rfl, rfl⟩ ⟨Nat.le_trans (Nat.le_of_ble_eq_true rfl) hR.1, Nat.le_trans (Nat.le_of_ble_eq_true rfl) hR.2⟩ rfl (Nat.le_of_ble_eq_true rfl) dX4_stride_44 q00 ?_
          obtain ⟨q10, h11, hF⟩ := bnd hF
          try dsimp only at hF
          refine q_callVi C [.long q8.1] (c_X10_towards l D ad ca kz C.2.2.2.2.2.2.1 _ ha1 _ _ _ h11) tw_797 gm_X10_towards ha1.1 (pe_9 ha1.2) rfl ⟨rfl, rfl⟩ ⟨Nat.le_trans (Nat.le_of_ble_eq_true rfl) hR.1, Nat.le_trans (Nat.le_of_ble_eq_true rfl) hR.2⟩ rfl (Nat.le_of_ble_eq_true rfl) dX4_stride_47 q00 ?_
          refine qs_9_2 C ha1 tw_167 dX4_stride_50 ?_
          refine q_aload_n C 1 dX4_stride_53 rfl rfl ?_
          refine qg_9_11 C ha1 tw_200 dX4_stride_54 ?_
          refine q_aload_n C 1 dX4_stride_57 rfl rfl ?_
          refine qg_9_2 C ha1 tw_167 dX4_stride_58 ?_
          refine q_dup2 C dX4_stride_61 rfl rfl ?_
          obtain ⟨g12, hF⟩ := grd hF
          refine q_iald C (pkW ha1).2.2.2.2 (vp_of g12) dX4_stride_62 ?_
          refine q_iconst (v := 1) C dX4_stride_63 (by decide) ?_
          refine q_iadd C dX4_stride_64 ?_
          refine q_iast C (pkW ha1).2.2.2.2 (vp_of g12) dX4_stride_65 ?_
          refine q_aload_n C 1 dX4_stride_66 rfl rfl ?_
          obtain ⟨q13, h14, hF⟩ := bnd hF
          try dsimp only at hF
          refine q_callVv C [] (c_X10_askWhoIsHere l D ad ca kz C.2.2.2.2.2.2.1 _ ha1 _ _ h14) tw_804 gm_X10_askWhoIsHere ha1.1 (pe_9 ha1.2) rfl ⟨rfl, rfl⟩ ⟨Nat.le_trans (Nat.le_of_ble_eq_true rfl) hR.1, Nat.le_trans (Nat.le_of_ble_eq_true rfl) hR.2⟩ rfl (Nat.le_of_ble_eq_true rfl) dX4_stride_67 q00 ?_
          refine q_aload_n C 1 dX4_stride_70 rfl rfl ?_
          refine q_dup C dX4_stride_71 rfl ?_
          refine qg_9_3 C ha1 tw_172 dX4_stride_72 ?_
          refine q_iconst (v := 1) C dX4_stride_75 (by decide) ?_
          refine q_iadd C dX4_stride_76 ?_
          refine qs_9_3 C ha1 tw_172 dX4_stride_77 ?_
          refine q_iinc C 4 [(4, .int (x4 + 1)), (0, .ref (ad (7))), (1, .ref (ad (a1))), (2, .int x2), (3, .int x3)] dX4_stride_80 rfl rfl (by decide) rfl ?_
          refine q_goto (tgt := 3) C dX4_stride_83 (by decide) ?_
          refine q_sub [1, 2, 3, 4, 0] rfl ?_
          exact ih _ _ _ _ hF
        · replace hF := ife c7 hF
          refine q_aload_n C 1 dX4_stride_28 rfl rfl ?_
          refine q_aload_n C 0 dX4_stride_29 rfl rfl ?_
          refine q_aload_n C 1 dX4_stride_30 rfl rfl ?_
          refine q_iload_n C 2 dX4_stride_31 rfl rfl ?_
          obtain ⟨q15, h16, hF⟩ := bnd hF
          try dsimp only at hF
          refine q_callVi C [.ref (ad (a1)), .int x2] (c_X4_favourite l D ad ca kz C.2.2.2.2.2.2.1 _ ha1 _ _ _ h16) tw_723 gm_X4_favourite pi_7.1 (pe_3 pi_7.2) rfl ⟨rfl, rfl⟩ ⟨Nat.le_trans (Nat.le_of_ble_eq_true rfl) hR.1, Nat.le_trans (Nat.le_of_ble_eq_true rfl) hR.2⟩ rfl (Nat.le_of_ble_eq_true rfl) dX4_stride_32 q00 ?_
          refine qs_9_2 C ha1 tw_167 dX4_stride_35 ?_
          refine q_goto (tgt := 53) C dX4_stride_38 (by decide) ?_
          refine q_aload_n C 1 dX4_stride_53 rfl rfl ?_
          refine qg_9_11 C ha1 tw_200 dX4_stride_54 ?_
          refine q_aload_n C 1 dX4_stride_57 rfl rfl ?_
          refine qg_9_2 C ha1 tw_167 dX4_stride_58 ?_
          refine q_dup2 C dX4_stride_61 rfl rfl ?_
          obtain ⟨g17, hF⟩ := grd hF
          refine q_iald C (pkW ha1).2.2.2.2 (vp_of g17) dX4_stride_62 ?_
          refine q_iconst (v := 1) C dX4_stride_63 (by decide) ?_
          refine q_iadd C dX4_stride_64 ?_
          refine q_iast C (pkW ha1).2.2.2.2 (vp_of g17) dX4_stride_65 ?_
          refine q_aload_n C 1 dX4_stride_66 rfl rfl ?_
          obtain ⟨q18, h19, hF⟩ := bnd hF
          try dsimp only at hF
          refine q_callVv C [] (c_X10_askWhoIsHere l D ad ca kz C.2.2.2.2.2.2.1 _ ha1 _ _ h19) tw_804 gm_X10_askWhoIsHere ha1.1 (pe_9 ha1.2) rfl ⟨rfl, rfl⟩ ⟨Nat.le_trans (Nat.le_of_ble_eq_true rfl) hR.1, Nat.le_trans (Nat.le_of_ble_eq_true rfl) hR.2⟩ rfl (Nat.le_of_ble_eq_true rfl) dX4_stride_67 q00 ?_
          refine q_aload_n C 1 dX4_stride_70 rfl rfl ?_
          refine q_dup C dX4_stride_71 rfl ?_
          refine qg_9_3 C ha1 tw_172 dX4_stride_72 ?_
          refine q_iconst (v := 1) C dX4_stride_75 (by decide) ?_
          refine q_iadd C dX4_stride_76 ?_
          refine qs_9_3 C ha1 tw_172 dX4_stride_77 ?_
          refine q_iinc C 4 [(4, .int (x4 + 1)), (0, .ref (ad (7))), (1, .ref (ad (a1))), (2, .int x2), (3, .int x3)] dX4_stride_80 rfl rfl (by decide) rfl ?_
          refine q_goto (tgt := 3) C dX4_stride_83 (by decide) ?_
          refine q_sub [1, 2, 3, 4, 0] rfl ?_
          exact ih _ _ _ _ hF
set_option maxHeartbeats 4000000 in
set_option maxRecDepth 100000 in
theorem c_X4_stride (l : Launch) (D : va_G) (ad : Nat → Nat) (ca : Nat → ClassId) (kz : Nat → Nat) (hJ : pInj ad) (n : Nat) {a1 : Nat} (ha1 : pis a1 9) (a2 : Int32) (a3 : Int32) (σ : PS) (out : PS) (hF : F_X4_stride n a1 a2 a3 σ = some out) : Met l yX4_stride (Cond.code yX4_stride cX4_stride 5 (Option.none : Option Jvm.ClassFile.FieldType) :: gw_tbl) { frames := 5, cells := 0, slots := 0, locals := 130 } (va_Pc [.ref (ad (7)), .ref (ad (a1)), .int a2, .int a3] (pU D ad ca kz σ)) (pQv D ad ca out) 0 0 (pAD ad) := by
  refine q_entry (own := "AskedCamp$RuleBook") hJ (by decide) rfl (Nat.le_of_ble_eq_true rfl) (fun p e s m below meth c C hr hlk => ?_)
  refine q_lv [(0, .ref (ad (7))), (1, .ref (ad (a1))), (2, .int a2), (3, .int a3)] rfl ?_
  rw [F_X4_stride] at hF
  refine q_iconst (v := 0) C dX4_stride_0 (by decide) ?_
  refine q_istore C [(4, .int 0), (0, .ref (ad (7))), (1, .ref (ad (a1))), (2, .int a2), (3, .int a3)] dX4_stride_1 (by decide) rfl ?_
  obtain ⟨o20, h21, hF⟩ := bnd hF
  try dsimp only at hF
  refine q_sub [1, 2, 3, 4, 0] rfl ?_
  refine l_X4_stride_3 C ⟨Nat.le_of_ble_eq_true rfl, Nat.le_of_ble_eq_true rfl⟩ ha1 o20 ?_ n _ _ _ _ h21
  exact q_vret C hr hlk dX4_stride_86 hF
-- X2_after
def F_X2_after (n : Nat) (a1 : Nat) (a2 : Int32) (σ : PS) : Option (Nat × PS) := (F_X10_copyFrom n 217 (a1 + 7) σ).bind (fun q1 => (F_X4_stride n 217 (q1.1 a1 5) a2 q1).bind (fun q3 => some (217, q3)))
theorem gm_X2_after : gM "AskedCamp$Foresight" yX2_after (Cond.code yX2_after cX2_after 3 (Option.some (Jvm.ClassFile.FieldType.object "AskedCamp$World"))) 2 := ⟨by decide +kernel, tw_840, tw_841, tw_9, tw_842⟩
set_option maxHeartbeats 4000000 in
set_option maxRecDepth 100000 in
theorem c_X2_after (l : Launch) (D : va_G) (ad : Nat → Nat) (ca : Nat → ClassId) (kz : Nat → Nat) (hJ : pInj ad) (n : Nat) {a1 : Nat} (ha1 : pis a1 5) (a2 : Int32) (σ : PS) (out : Nat × PS) (hF : F_X2_after n a1 a2 σ = some out) : Met l yX2_after (Cond.code yX2_after cX2_after 3 (Option.some (Jvm.ClassFile.FieldType.object "AskedCamp$World")) :: gw_tbl) { frames := 6, cells := 0, slots := 0, locals := 154 } (va_Pc [.ref (ad (216)), .ref (ad (a1)), .int a2] (pU D ad ca kz σ)) (pQr D ad ca out) 0 0 (pAD ad) := by
  refine q_entry (own := "AskedCamp$Foresight") hJ (by decide) rfl (Nat.le_of_ble_eq_true rfl) (fun p e s m below meth c C hr hlk => ?_)
  refine q_lv [(0, .ref (ad (216))), (1, .ref (ad (a1))), (2, .int a2)] rfl ?_
  rw [F_X2_after] at hF
  refine q_aload_n C 0 dX2_after_0 rfl rfl ?_
  refine qg_2_0 C pi_216 tw_293 dX2_after_1 ?_
  refine q_aload_n C 1 dX2_after_4 rfl rfl ?_
  refine qg_5_1 C ha1 tw_231 dX2_after_5 ?_
  obtain ⟨q1, h2, hF⟩ := bnd hF
  try dsimp only at hF
  refine q_callVv C [.ref (ad (a1 + 7))] (c_X10_copyFrom l D ad ca kz C.2.2.2.2.2.2.1 _ pi_217 (pkS ha1).2.1 _ _ h2) tw_843 gm_X10_copyFrom pi_217.1 (pe_9 pi_217.2) rfl ⟨rfl, rfl⟩ ⟨Nat.le_of_ble_eq_true rfl, Nat.le_of_ble_eq_true rfl⟩ rfl (Nat.le_of_ble_eq_true rfl) dX2_after_8 q00 ?_
  refine q_aload_n C 0 dX2_after_11 rfl rfl ?_
  refine qg_2_1 C pi_216 tw_295 dX2_after_12 ?_
  refine q_aload_n C 0 dX2_after_15 rfl rfl ?_
  refine qg_2_0 C pi_216 tw_293 dX2_after_16 ?_
  refine q_aload_n C 1 dX2_after_19 rfl rfl ?_
  refine qg_5_5 C ha1 tw_241 dX2_after_20 ?_
  refine q_iload_n C 2 dX2_after_23 rfl rfl ?_
  obtain ⟨q3, h4, hF⟩ := bnd hF
  try dsimp only at hF
  refine q_callVv C [.ref (ad (217)), .int (q1.1 a1 5), .int a2] (c_X4_stride l D ad ca kz C.2.2.2.2.2.2.1 _ pi_217 _ _ _ _ h4) tw_844 gm_X4_stride pi_7.1 (pe_3 pi_7.2) rfl ⟨rfl, rfl⟩ ⟨Nat.le_of_ble_eq_true rfl, Nat.le_of_ble_eq_true rfl⟩ rfl (Nat.le_of_ble_eq_true rfl) dX2_after_24 q00 ?_
  refine q_aload_n C 0 dX2_after_27 rfl rfl ?_
  refine qg_2_0 C pi_216 tw_293 dX2_after_28 ?_
  exact q_aret C hr hlk dX2_after_31 hF
theorem F_X2_after_id {n : Nat} {a1 : Nat} {a2 : Int32} {σ : PS} {q : Nat × PS} (h : F_X2_after n a1 a2 σ = some q) : pis q.1 9 := by
  rw [F_X2_after] at h
  obtain ⟨_, _, h⟩ := bnd h
  try dsimp only at h
  obtain ⟨_, _, h⟩ := bnd h
  try dsimp only at h
  cases h
  exact pi_217
-- X11_ahead
def F_X11_ahead (n : Nat) (a1 : Int32) (a2 : Int32) (a3 : Int32) (σ : PS) : Option (Int32 × PS) := (F_X10_isPitched n 25 σ).bind (fun q1 => (if q1.1 = 0 then some ((-1 : Int32), q1.2) else (if a2 < 0 then some ((-1 : Int32), q1.2) else (if (100 : Int32) < a2 then some ((-1 : Int32), q1.2) else (if a3 < 0 then some ((-1 : Int32), q1.2) else (if a3 ≤ (2 : Int32) then (if a3 = 0 then (F_X2_after n 18 a2 q1.2).bind (fun q9 => (if a3 = 0 then some ((q9.2.1 q9.1 2), q9.2) else (if a3 = (1 : Int32) then (if 0 ≤ a1 ∧ a1.toNatClampNeg < 6 then some ((q9.2.1 (q9.1 + 3) a1.toNatClampNeg), q9.2) else none) else (if 0 ≤ a1 ∧ a1.toNatClampNeg < 6 then some ((q9.2.1 (q9.1 + 4) a1.toNatClampNeg), q9.2) else none)))) else (F_X10_hasTent n 25 a1 q1.2).bind (fun q15 => (if q15.1 = 0 then some ((-1 : Int32), q15.2) else (F_X2_after n 18 a2 q15.2).bind (fun q18 => (if a3 = 0 then some ((q18.2.1 q18.1 2), q18.2) else (if a3 = (1 : Int32) then (if 0 ≤ a1 ∧ a1.toNatClampNeg < 6 then some ((q18.2.1 (q18.1 + 3) a1.toNatClampNeg), q18.2) else none) else (if 0 ≤ a1 ∧ a1.toNatClampNeg < 6 then some ((q18.2.1 (q18.1 + 4) a1.toNatClampNeg), q18.2) else none))))))) else some ((-1 : Int32), q1.2)))))))
theorem gm_X11_ahead : gM "AskedCamp" yX11_ahead (Cond.code yX11_ahead cX11_ahead 6 (Option.some Jvm.ClassFile.FieldType.int)) 3 := ⟨by decide +kernel, tw_836, tw_837, tw_1, tw_838⟩
set_option maxHeartbeats 4000000 in
set_option maxRecDepth 100000 in
theorem c_X11_ahead (l : Launch) (D : va_G) (ad : Nat → Nat) (ca : Nat → ClassId) (kz : Nat → Nat) (hJ : pInj ad) (n : Nat) (a1 : Int32) (a2 : Int32) (a3 : Int32) (σ : PS) (out : Int32 × PS) (hF : F_X11_ahead n a1 a2 a3 σ = some out) : Met l yX11_ahead (Cond.code yX11_ahead cX11_ahead 6 (Option.some Jvm.ClassFile.FieldType.int) :: gw_tbl) { frames := 7, cells := 0, slots := 0, locals := 176 } (va_Pc [.ref (ad (0)), .int a1, .int a2, .int a3] (pU D ad ca kz σ)) (pQi D ad ca out) 0 0 (pAD ad) := by
  refine q_entry (own := "AskedCamp") hJ (by decide) rfl (Nat.le_of_ble_eq_true rfl) (fun p e s m below meth c C hr hlk => ?_)
  refine q_lv [(0, .ref (ad (0))), (1, .int a1), (2, .int a2), (3, .int a3)] rfl ?_
  rw [F_X11_ahead] at hF
  refine q_aload_n C 0 dX11_ahead_0 rfl rfl ?_
  refine qg_10_4 C pi_0 tw_384 dX11_ahead_1 ?_
  refine qg_5_1 C pi_18 tw_232 dX11_ahead_4 ?_
  refine q_astore C [(4, .ref (ad (25))), (0, .ref (ad (0))), (1, .int a1), (2, .int a2), (3, .int a3)] dX11_ahead_7 (by decide) rfl ?_
  refine q_aload C 0 dX11_ahead_9 rfl ?_
  obtain ⟨q1, h2, hF⟩ := bnd hF
  try dsimp only at hF
  refine q_callVi C [] (c_X10_isPitched l D ad ca kz C.2.2.2.2.2.2.1 _ pi_25 _ _ h2) tw_687 gm_X10_isPitched pi_25.1 (pe_9 pi_25.2) rfl ⟨rfl, rfl⟩ ⟨Nat.le_of_ble_eq_true rfl, Nat.le_of_ble_eq_true rfl⟩ rfl (Nat.le_of_ble_eq_true rfl) dX11_ahead_11 q00 ?_
  refine q_if_eq (tgt := 36) C dX11_ahead_14 (by decide) (fun c3 => ?_) (fun c3 => ?_)
  · replace hF := ift c3 hF
    refine q_iconst (v := -1) C dX11_ahead_36 (by decide) ?_
    exact q_iret C hr hlk dX11_ahead_37 hF
  · replace hF := ife c3 hF
    refine q_iload_n C 3 dX11_ahead_17 rfl rfl ?_
    refine q_if_lt (tgt := 36) C dX11_ahead_18 (by decide) (fun c4 => ?_) (fun c4 => ?_)
    · replace hF := ift c4 hF
      refine q_iconst (v := -1) C dX11_ahead_36 (by decide) ?_
      exact q_iret C hr hlk dX11_ahead_37 hF
    · replace hF := ife c4 hF
      refine q_iload_n C 3 dX11_ahead_21 rfl rfl ?_
      refine q_bipush (v := 100) C dX11_ahead_22 (by decide) ?_
      refine q_icmp_gt (tgt := 36) C dX11_ahead_24 (by decide) (fun c5 => ?_) (fun c5 => ?_)
      · replace hF := ift c5 hF
        refine q_iconst (v := -1) C dX11_ahead_36 (by decide) ?_
        exact q_iret C hr hlk dX11_ahead_37 hF
      · replace hF := ife c5 hF
        refine q_iload_n C 4 dX11_ahead_27 rfl rfl ?_
        refine q_if_lt (tgt := 36) C dX11_ahead_28 (by decide) (fun c6 => ?_) (fun c6 => ?_)
        · replace hF := ift c6 hF
          refine q_iconst (v := -1) C dX11_ahead_36 (by decide) ?_
          exact q_iret C hr hlk dX11_ahead_37 hF
        · replace hF := ife c6 hF
          refine q_iload_n C 4 dX11_ahead_31 rfl rfl ?_
          refine q_iconst (v := 2) C dX11_ahead_32 (by decide) ?_
          refine q_icmp_le (tgt := 38) C dX11_ahead_33 (by decide) (fun c7 => ?_) (fun c7 => ?_)
          · replace hF := ift c7 hF
            refine q_iload_n C 4 dX11_ahead_38 rfl rfl ?_
            refine q_if_eq (tgt := 53) C dX11_ahead_39 (by decide) (fun c8 => ?_) (fun c8 => ?_)
            · replace hF := ift c8 hF
              refine q_aload_n C 1 dX11_ahead_53 rfl rfl ?_
              refine qg_10_7 C pi_0 tw_387 dX11_ahead_54 ?_
              refine q_aload_n C 1 dX11_ahead_57 rfl rfl ?_
              refine qg_10_4 C pi_0 tw_384 dX11_ahead_58 ?_
              refine q_iload_n C 3 dX11_ahead_61 rfl rfl ?_
              obtain ⟨q9, h10, hF⟩ := bnd hF
              try dsimp only at hF
              refine q_callVr C [.ref (ad (18)), .int a2] (c_X2_after l D ad ca kz C.2.2.2.2.2.2.1 _ pi_18 _ _ _ h10) tw_839 gm_X2_after pi_216.1 (pe_2 pi_216.2) rfl ⟨rfl, rfl⟩ ⟨Nat.le_of_ble_eq_true rfl, Nat.le_of_ble_eq_true rfl⟩ rfl (Nat.le_of_ble_eq_true rfl) dX11_ahead_62 q00 ?_
              refine q_astore C [(5, .ref (ad (q9.1))), (4, .ref (ad (25))), (0, .ref (ad (0))), (1, .int a1), (2, .int a2), (3, .int a3)] dX11_ahead_65 (by decide) rfl ?_
              refine q_iload_n C 5 dX11_ahead_67 rfl rfl ?_
              refine q_if_ne (tgt := 77) C dX11_ahead_68 (by decide) (fun c11 => ?_) (fun c11 => ?_)
              · replace hF := ife c11 hF
                refine q_iload_n C 5 dX11_ahead_77 rfl rfl ?_
                refine q_iconst (v := 1) C dX11_ahead_78 (by decide) ?_
                refine q_icmp_ne (tgt := 92) C dX11_ahead_79 (by decide) (fun c12 => ?_) (fun c12 => ?_)
                · replace hF := ife c12 hF
                  refine q_aload C 0 dX11_ahead_92 rfl ?_
                  refine qg_9_10 C (F_X2_after_id h10) tw_198 dX11_ahead_94 ?_
                  refine q_iload_n C 3 dX11_ahead_97 rfl rfl ?_
                  obtain ⟨g13, hF⟩ := grd hF
                  refine q_iald C (pkW (F_X2_after_id h10)).2.2.2.1 (vp_of g13) dX11_ahead_98 ?_
                  exact q_iret C hr hlk dX11_ahead_99 hF
                · replace hF := ift c12 hF
                  refine q_aload C 0 dX11_ahead_82 rfl ?_
                  refine qg_9_9 C (F_X2_after_id h10) tw_195 dX11_ahead_84 ?_
                  refine q_iload_n C 3 dX11_ahead_87 rfl rfl ?_
                  obtain ⟨g14, hF⟩ := grd hF
                  refine q_iald C (pkW (F_X2_after_id h10)).2.2.1 (vp_of g14) dX11_ahead_88 ?_
                  refine q_goto (tgt := 99) C dX11_ahead_89 (by decide) ?_
                  exact q_iret C hr hlk dX11_ahead_99 hF
              · replace hF := ift c11 hF
                refine q_aload C 0 dX11_ahead_71 rfl ?_
                refine qg_9_2 C (F_X2_after_id h10) tw_169 dX11_ahead_73 ?_
                exact q_iret C hr hlk dX11_ahead_76 hF
            · replace hF := ife c8 hF
              refine q_aload C 0 dX11_ahead_42 rfl ?_
              refine q_iload_n C 2 dX11_ahead_44 rfl rfl ?_
              obtain ⟨q15, h16, hF⟩ := bnd hF
              try dsimp only at hF
              refine q_callVi C [.int a1] (c_X10_hasTent l D ad ca kz C.2.2.2.2.2.2.1 _ pi_25 _ _ _ h16) tw_663 gm_X10_hasTent pi_25.1 (pe_9 pi_25.2) rfl ⟨rfl, rfl⟩ ⟨Nat.le_of_ble_eq_true rfl, Nat.le_of_ble_eq_true rfl⟩ rfl (Nat.le_of_ble_eq_true rfl) dX11_ahead_45 q00 ?_
              refine q_if_ne (tgt := 53) C dX11_ahead_48 (by decide) (fun c17 => ?_) (fun c17 => ?_)
              · replace hF := ife c17 hF
                refine q_aload_n C 1 dX11_ahead_53 rfl rfl ?_
                refine qg_10_7 C pi_0 tw_387 dX11_ahead_54 ?_
                refine q_aload_n C 1 dX11_ahead_57 rfl rfl ?_
                refine qg_10_4 C pi_0 tw_384 dX11_ahead_58 ?_
                refine q_iload_n C 3 dX11_ahead_61 rfl rfl ?_
                obtain ⟨q18, h19, hF⟩ := bnd hF
                try dsimp only at hF
                refine q_callVr C [.ref (ad (18)), .int a2] (c_X2_after l D ad ca kz C.2.2.2.2.2.2.1 _ pi_18 _ _ _ h19) tw_839 gm_X2_after pi_216.1 (pe_2 pi_216.2) rfl ⟨rfl, rfl⟩ ⟨Nat.le_of_ble_eq_true rfl, Nat.le_of_ble_eq_true rfl⟩ rfl (Nat.le_of_ble_eq_true rfl) dX11_ahead_62 q00 ?_
                refine q_astore C [(5, .ref (ad (q18.1))), (4, .ref (ad (25))), (0, .ref (ad (0))), (1, .int a1), (2, .int a2), (3, .int a3)] dX11_ahead_65 (by decide) rfl ?_
                refine q_iload_n C 5 dX11_ahead_67 rfl rfl ?_
                refine q_if_ne (tgt := 77) C dX11_ahead_68 (by decide) (fun c20 => ?_) (fun c20 => ?_)
                · replace hF := ife c20 hF
                  refine q_iload_n C 5 dX11_ahead_77 rfl rfl ?_
                  refine q_iconst (v := 1) C dX11_ahead_78 (by decide) ?_
                  refine q_icmp_ne (tgt := 92) C dX11_ahead_79 (by decide) (fun c21 => ?_) (fun c21 => ?_)
                  · replace hF := ife c21 hF
                    refine q_aload C 0 dX11_ahead_92 rfl ?_
                    refine qg_9_10 C (F_X2_after_id h19) tw_198 dX11_ahead_94 ?_
                    refine q_iload_n C 3 dX11_ahead_97 rfl rfl ?_
                    obtain ⟨g22, hF⟩ := grd hF
                    refine q_iald C (pkW (F_X2_after_id h19)).2.2.2.1 (vp_of g22) dX11_ahead_98 ?_
                    exact q_iret C hr hlk dX11_ahead_99 hF
                  · replace hF := ift c21 hF
                    refine q_aload C 0 dX11_ahead_82 rfl ?_
                    refine qg_9_9 C (F_X2_after_id h19) tw_195 dX11_ahead_84 ?_
                    refine q_iload_n C 3 dX11_ahead_87 rfl rfl ?_
                    obtain ⟨g23, hF⟩ := grd hF
                    refine q_iald C (pkW (F_X2_after_id h19)).2.2.1 (vp_of g23) dX11_ahead_88 ?_
                    refine q_goto (tgt := 99) C dX11_ahead_89 (by decide) ?_
                    exact q_iret C hr hlk dX11_ahead_99 hF
                · replace hF := ift c20 hF
                  refine q_aload C 0 dX11_ahead_71 rfl ?_
                  refine qg_9_2 C (F_X2_after_id h19) tw_169 dX11_ahead_73 ?_
                  exact q_iret C hr hlk dX11_ahead_76 hF
              · replace hF := ift c17 hF
                refine q_iconst (v := -1) C dX11_ahead_51 (by decide) ?_
                exact q_iret C hr hlk dX11_ahead_52 hF
          · replace hF := ife c7 hF
            refine q_iconst (v := -1) C dX11_ahead_36 (by decide) ?_
            exact q_iret C hr hlk dX11_ahead_37 hF
-- X6_copyFrom
def L_X6_copyFrom_24 (n : Nat) (i : Nat) (a1 : Nat) : Nat → Int32 → PS → Option (PS)
  | 0, _, _ => none
  | k + 1, x2, σ => (if (10 : Int32) ≤ x2 then some σ else (if 0 ≤ x2 ∧ x2.toNatClampNeg < 10 then L_X6_copyFrom_24 n i a1 k (x2 + 1) (psI (psI σ (i + 13) x2.toNatClampNeg (σ.1 (a1 + 13) x2.toNatClampNeg)) (i + 14) x2.toNatClampNeg ((psI σ (i + 13) x2.toNatClampNeg (σ.1 (a1 + 13) x2.toNatClampNeg)).1 (a1 + 14) x2.toNatClampNeg)) else none))
def F_X6_copyFrom (n : Nat) (i : Nat) (a1 : Nat) (σ : PS) : Option (PS) := (F_X10_copyFrom n (i + 1) (a1 + 1) σ).bind (fun q1 => (F_X10_copyFrom n (i + 7) (a1 + 7) q1).bind (fun q3 => (L_X6_copyFrom_24 n i a1 n (0 : Int32) q3).bind (fun o7 => some (psI (psI (psI o7 i 4 (o7.1 a1 4)) i 5 ((psI o7 i 4 (o7.1 a1 4)).1 a1 5)) i 6 ((psI (psI o7 i 4 (o7.1 a1 4)) i 5 ((psI o7 i 4 (o7.1 a1 4)).1 a1 5)).1 a1 6)))))
theorem gm_X6_copyFrom : gM "AskedCamp$Scene" yX6_copyFrom (Cond.code yX6_copyFrom cX6_copyFrom 3 (Option.none : Option Jvm.ClassFile.FieldType)) 1 := ⟨by decide +kernel, tw_1039, tw_1040, tw_6, tw_1041⟩
set_option maxHeartbeats 4000000 in
set_option maxRecDepth 100000 in
theorem l_X6_copyFrom_24 {p : Program} {l : Launch} {e : Env} {R : Room} {s : State} {m : MethodId} {args : Array Value} {below : List Frame} {meth : Method} {c : Code} {D : va_G} {ad : Nat → Nat} {ca : Nat → ClassId} {kz : Nat → Nat} {Q : State → Prop} (C : pC p s m args c cX6_copyFrom "AskedCamp$Scene" 3 D ad ca kz) (hR : 2 ≤ R.frames ∧ 102 ≤ R.locals) {n : Nat} {i : Nat} {a1 : Nat} (hi : pis i 5) (ha1 : pis a1 5) (o : PS) (hx0 : PW p l e R s m args below meth c 3 D ad ca 0 0 Q (o) 60 [(0, .ref (ad (i))), (1, .ref (ad (a1)))] []) : ∀ (k : Nat) (x2 : Int32) (σ : PS), L_X6_copyFrom_24 n i a1 k x2 σ = some o → PW p l e R s m args below meth c 3 D ad ca 0 0 Q σ 24 [(0, .ref (ad (i))), (1, .ref (ad (a1))), (2, .int x2)] [] := by
  intro k
  induction k with
  | zero => intro x2 σ hF; exact nomatch (show (none : Option (PS)) = some o from hF)
  | succ k ih =>
    intro x2 σ hF
    rw [L_X6_copyFrom_24] at hF
    refine q_iload_n C 2 dX6_copyFrom_24 rfl rfl ?_
    refine q_bipush (v := 10) C dX6_copyFrom_25 (by decide) ?_
    refine q_icmp_ge (tgt := 60) C dX6_copyFrom_27 (by decide) (fun c5 => ?_) (fun c5 => ?_)
    · replace hF := ift c5 hF
      cases hF
      refine q_sub [0, 1] rfl ?_
      exact hx0
    · replace hF := ife c5 hF
      refine q_aload_n C 0 dX6_copyFrom_30 rfl rfl ?_
      refine qg_5_2 C hi tw_233 dX6_copyFrom_31 ?_
      refine q_iload_n C 2 dX6_copyFrom_34 rfl rfl ?_
      refine q_aload_n C 1 dX6_copyFrom_35 rfl rfl ?_
      refine qg_5_2 C ha1 tw_233 dX6_copyFrom_36 ?_
      refine q_iload_n C 2 dX6_copyFrom_39 rfl rfl ?_
      obtain ⟨g6, hF⟩ := grd hF
      refine q_iald C (pkS ha1).2.2.1 (vp_of g6) dX6_copyFrom_40 ?_
      refine q_iast C (pkS hi).2.2.1 (vp_of g6) dX6_copyFrom_41 ?_
      refine q_aload_n C 0 dX6_copyFrom_42 rfl rfl ?_
      refine qg_5_3 C hi tw_235 dX6_copyFrom_43 ?_
      refine q_iload_n C 2 dX6_copyFrom_46 rfl rfl ?_
      refine q_aload_n C 1 dX6_copyFrom_47 rfl rfl ?_
      refine qg_5_3 C ha1 tw_235 dX6_copyFrom_48 ?_
      refine q_iload_n C 2 dX6_copyFrom_51 rfl rfl ?_
      refine q_iald C (pkS ha1).2.2.2 (vp_of g6) dX6_copyFrom_52 ?_
      refine q_iast C (pkS hi).2.2.2 (vp_of g6) dX6_copyFrom_53 ?_
      refine q_iinc C 2 [(2, .int (x2 + 1)), (0, .ref (ad (i))), (1, .ref (ad (a1)))] dX6_copyFrom_54 rfl rfl (by decide) rfl ?_
      refine q_goto (tgt := 24) C dX6_copyFrom_57 (by decide) ?_
      refine q_sub [1, 2, 0] rfl ?_
      exact ih _ _ hF
set_option maxHeartbeats 4000000 in
set_option maxRecDepth 100000 in
theorem c_X6_copyFrom (l : Launch) (D : va_G) (ad : Nat → Nat) (ca : Nat → ClassId) (kz : Nat → Nat) (hJ : pInj ad) (n : Nat) {i : Nat} {a1 : Nat} (hi : pis i 5) (ha1 : pis a1 5) (σ : PS) (out : PS) (hF : F_X6_copyFrom n i a1 σ = some out) : Met l yX6_copyFrom (Cond.code yX6_copyFrom cX6_copyFrom 3 (Option.none : Option Jvm.ClassFile.FieldType) :: gw_tbl) { frames := 2, cells := 0, slots := 0, locals := 102 } (va_Pc [.ref (ad (i)), .ref (ad (a1))] (pU D ad ca kz σ)) (pQv D ad ca out) 0 0 (pAD ad) := by
  refine q_entry (own := "AskedCamp$Scene") hJ (by decide) rfl (Nat.le_of_ble_eq_true rfl) (fun p e s m below meth c C hr hlk => ?_)
  refine q_lv [(0, .ref (ad (i))), (1, .ref (ad (a1)))] rfl ?_
  rw [F_X6_copyFrom] at hF
  refine q_aload_n C 0 dX6_copyFrom_0 rfl rfl ?_
  refine qg_5_0 C hi tw_227 dX6_copyFrom_1 ?_
  refine q_aload_n C 1 dX6_copyFrom_4 rfl rfl ?_
  refine qg_5_0 C ha1 tw_227 dX6_copyFrom_5 ?_
  obtain ⟨q1, h2, hF⟩ := bnd hF
  try dsimp only at hF
  refine q_callVv C [.ref (ad (a1 + 1))] (c_X10_copyFrom l D ad ca kz C.2.2.2.2.2.2.1 _ (pkS hi).1 (pkS ha1).1 _ _ h2) tw_1042 gm_X10_copyFrom (pkS hi).1.1 (pe_9 (pkS hi).1.2) rfl ⟨rfl, rfl⟩ ⟨Nat.le_of_ble_eq_true rfl, Nat.le_of_ble_eq_true rfl⟩ rfl (Nat.le_of_ble_eq_true rfl) dX6_copyFrom_8 q00 ?_
  refine q_aload_n C 0 dX6_copyFrom_11 rfl rfl ?_
  refine qg_5_1 C hi tw_230 dX6_copyFrom_12 ?_
  refine q_aload_n C 1 dX6_copyFrom_15 rfl rfl ?_
  refine qg_5_1 C ha1 tw_230 dX6_copyFrom_16 ?_
  obtain ⟨q3, h4, hF⟩ := bnd hF
  try dsimp only at hF
  refine q_callVv C [.ref (ad (a1 + 7))] (c_X10_copyFrom l D ad ca kz C.2.2.2.2.2.2.1 _ (pkS hi).2.1 (pkS ha1).2.1 _ _ h4) tw_1042 gm_X10_copyFrom (pkS hi).2.1.1 (pe_9 (pkS hi).2.1.2) rfl ⟨rfl, rfl⟩ ⟨Nat.le_of_ble_eq_true rfl, Nat.le_of_ble_eq_true rfl⟩ rfl (Nat.le_of_ble_eq_true rfl) dX6_copyFrom_19 q00 ?_
  refine q_iconst (v := 0) C dX6_copyFrom_22 (by decide) ?_
  refine q_istore_n C [(2, .int 0), (0, .ref (ad (i))), (1, .ref (ad (a1)))] dX6_copyFrom_23 rfl (by decide) rfl ?_
  obtain ⟨o7, h8, hF⟩ := bnd hF
  try dsimp only at hF
  refine q_sub [1, 2, 0] rfl ?_
  refine l_X6_copyFrom_24 C ⟨Nat.le_of_ble_eq_true rfl, Nat.le_of_ble_eq_true rfl⟩ hi ha1 o7 ?_ n _ _ h8
  refine q_aload_n C 0 dX6_copyFrom_60 rfl rfl ?_
  refine q_aload_n C 1 dX6_copyFrom_61 rfl rfl ?_
  refine qg_5_4 C ha1 tw_237 dX6_copyFrom_62 ?_
  refine qs_5_4 C hi tw_237 dX6_copyFrom_65 ?_
  refine q_aload_n C 0 dX6_copyFrom_68 rfl rfl ?_
  refine q_aload_n C 1 dX6_copyFrom_69 rfl rfl ?_
  refine qg_5_5 C ha1 tw_240 dX6_copyFrom_70 ?_
  refine qs_5_5 C hi tw_240 dX6_copyFrom_73 ?_
  refine q_aload_n C 0 dX6_copyFrom_76 rfl rfl ?_
  refine q_aload_n C 1 dX6_copyFrom_77 rfl rfl ?_
  refine qg_5_6 C ha1 tw_243 dX6_copyFrom_78 ?_
  refine qs_5_6 C hi tw_243 dX6_copyFrom_81 ?_
  exact q_vret C hr hlk dX6_copyFrom_84 hF
-- X11_back
def F_X11_back (n : Nat) (a1 : Int32) (σ : PS) : Option (Int32 × PS) := (if a1 < 0 then some ((-1 : Int32), σ) else (if (4 : Int32) ≤ a1 then some ((-1 : Int32), σ) else (if 0 ≤ a1 ∧ a1.toNatClampNeg < 4 then (if (σ.1 (34 + 15 * a1.toNatClampNeg) 7) = 0 then some ((-1 : Int32), σ) else (F_X6_copyFrom n 18 (34 + 15 * a1.toNatClampNeg) σ).bind (fun q5 => (F_X0_forget n q5).bind (fun q7 => some ((q7.1 25 3), q7)))) else none)))
theorem gm_X11_back : gM "AskedCamp" yX11_back (Cond.code yX11_back cX11_back 2 (Option.some Jvm.ClassFile.FieldType.int)) 1 := ⟨by decide +kernel, tw_1044, tw_1045, tw_1, tw_1046⟩
set_option maxHeartbeats 4000000 in
set_option maxRecDepth 100000 in
theorem c_X11_back (l : Launch) (D : va_G) (ad : Nat → Nat) (ca : Nat → ClassId) (kz : Nat → Nat) (hJ : pInj ad) (n : Nat) (a1 : Int32) (σ : PS) (out : Int32 × PS) (hF : F_X11_back n a1 σ = some out) : Met l yX11_back (Cond.code yX11_back cX11_back 2 (Option.some Jvm.ClassFile.FieldType.int) :: gw_tbl) { frames := 3, cells := 0, slots := 0, locals := 124 } (va_Pc [.ref (ad (0)), .int a1] (pU D ad ca kz σ)) (pQi D ad ca out) 0 0 (pAD ad) := by
  refine q_entry (own := "AskedCamp") hJ (by decide) rfl (Nat.le_of_ble_eq_true rfl) (fun p e s m below meth c C hr hlk => ?_)
  refine q_lv [(0, .ref (ad (0))), (1, .int a1)] rfl ?_
  rw [F_X11_back] at hF
  refine q_iload_n C 1 dX11_back_0 rfl rfl ?_
  refine q_if_lt (tgt := 21) C dX11_back_1 (by decide) (fun c1 => ?_) (fun c1 => ?_)
  · replace hF := ift c1 hF
    refine q_iconst (v := -1) C dX11_back_21 (by decide) ?_
    exact q_iret C hr hlk dX11_back_22 hF
  · replace hF := ife c1 hF
    refine q_iload_n C 1 dX11_back_4 rfl rfl ?_
    refine q_iconst (v := 4) C dX11_back_5 (by decide) ?_
    refine q_icmp_ge (tgt := 21) C dX11_back_6 (by decide) (fun c2 => ?_) (fun c2 => ?_)
    · replace hF := ift c2 hF
      refine q_iconst (v := -1) C dX11_back_21 (by decide) ?_
      exact q_iret C hr hlk dX11_back_22 hF
    · replace hF := ife c2 hF
      refine q_aload_n C 0 dX11_back_9 rfl rfl ?_
      refine qg_10_5 C pi_0 tw_385 dX11_back_10 ?_
      refine q_iload_n C 1 dX11_back_13 rfl rfl ?_
      obtain ⟨g3, hF⟩ := grd hF
      refine q_aald25 C pa_33 (vp_of g3) dX11_back_14 ?_
      refine qg_5_7 C (pk25 (vp_lt (vp_of g3))) tw_246 dX11_back_15 ?_
      refine q_if_ne (tgt := 23) C dX11_back_18 (by decide) (fun c4 => ?_) (fun c4 => ?_)
      · replace hF := ife c4 hF
        refine q_aload_n C 0 dX11_back_23 rfl rfl ?_
        refine qg_10_4 C pi_0 tw_384 dX11_back_24 ?_
        refine q_aload_n C 0 dX11_back_27 rfl rfl ?_
        refine qg_10_5 C pi_0 tw_385 dX11_back_28 ?_
        refine q_iload_n C 1 dX11_back_31 rfl rfl ?_
        refine q_aald25 C pa_33 (vp_of g3) dX11_back_32 ?_
        obtain ⟨q5, h6, hF⟩ := bnd hF
        try dsimp only at hF
        refine q_callVv C [.ref (ad (34 + 15 * a1.toNatClampNeg))] (c_X6_copyFrom l D ad ca kz C.2.2.2.2.2.2.1 _ pi_18 (pk25 (vp_lt (vp_of g3))) _ _ h6) tw_1038 gm_X6_copyFrom pi_18.1 (pe_5 pi_18.2) rfl ⟨rfl, rfl⟩ ⟨Nat.le_of_ble_eq_true rfl, Nat.le_of_ble_eq_true rfl⟩ rfl (Nat.le_of_ble_eq_true rfl) dX11_back_33 q00 ?_
        refine q_aload_n C 0 dX11_back_36 rfl rfl ?_
        refine qg_10_6 C pi_0 tw_386 dX11_back_37 ?_
        obtain ⟨q7, h8, hF⟩ := bnd hF
        try dsimp only at hF
        refine q_callVv C [] (c_X0_forget l D ad ca kz C.2.2.2.2.2.2.1 _ _ _ h8) tw_542 gm_X0_forget pi_94.1 (pe_0 pi_94.2) rfl ⟨rfl, rfl⟩ ⟨Nat.le_of_ble_eq_true rfl, Nat.le_of_ble_eq_true rfl⟩ rfl (Nat.le_of_ble_eq_true rfl) dX11_back_40 q00 ?_
        refine q_aload_n C 0 dX11_back_43 rfl rfl ?_
        refine qg_10_4 C pi_0 tw_384 dX11_back_44 ?_
        refine qg_5_1 C pi_18 tw_232 dX11_back_47 ?_
        refine qg_9_3 C pi_25 tw_173 dX11_back_50 ?_
        exact q_iret C hr hlk dX11_back_53 hF
      · replace hF := ift c4 hF
        refine q_iconst (v := -1) C dX11_back_21 (by decide) ?_
        exact q_iret C hr hlk dX11_back_22 hF
-- X11_bush
def F_X11_bush (n : Nat) (a1 : Int32) (σ : PS) : Option (Int32 × PS) := (F_X10_hasCell n 25 a1 σ).bind (fun q1 => (if q1.1 = 0 then some ((-1 : Int32), q1.2) else (F_X0_keep n 25 q1.2).bind (fun q4 => (F_X10_isFree n 25 a1 (psJ q4 25 6 ((q4.2 25 6) ^^^ ((1 : Int64) <<< (a1.toInt64 &&& 63))))).bind (fun q6 => (if q6.1 = 0 then some ((1 : Int32), q6.2) else some ((0 : Int32), q6.2))))))
theorem gm_X11_bush : gM "AskedCamp" yX11_bush (Cond.code yX11_bush cX11_bush 3 (Option.some Jvm.ClassFile.FieldType.int)) 1 := ⟨by decide +kernel, tw_824, tw_825, tw_1, tw_826⟩
set_option maxHeartbeats 4000000 in
set_option maxRecDepth 100000 in
theorem c_X11_bush (l : Launch) (D : va_G) (ad : Nat → Nat) (ca : Nat → ClassId) (kz : Nat → Nat) (hJ : pInj ad) (n : Nat) (a1 : Int32) (σ : PS) (out : Int32 × PS) (hF : F_X11_bush n a1 σ = some out) : Met l yX11_bush (Cond.code yX11_bush cX11_bush 3 (Option.some Jvm.ClassFile.FieldType.int) :: gw_tbl) { frames := 3, cells := 0, slots := 0, locals := 123 } (va_Pc [.ref (ad (0)), .int a1] (pU D ad ca kz σ)) (pQi D ad ca out) 0 0 (pAD ad) := by
  refine q_entry (own := "AskedCamp") hJ (by decide) rfl (Nat.le_of_ble_eq_true rfl) (fun p e s m below meth c C hr hlk => ?_)
  refine q_lv [(0, .ref (ad (0))), (1, .int a1)] rfl ?_
  rw [F_X11_bush] at hF
  refine q_aload_n C 0 dX11_bush_0 rfl rfl ?_
  refine qg_10_4 C pi_0 tw_384 dX11_bush_1 ?_
  refine qg_5_1 C pi_18 tw_232 dX11_bush_4 ?_
  refine q_astore_n C [(2, .ref (ad (25))), (0, .ref (ad (0))), (1, .int a1)] dX11_bush_7 rfl (by decide) rfl ?_
  refine q_aload_n C 0 dX11_bush_8 rfl rfl ?_
  refine q_iload_n C 2 dX11_bush_9 rfl rfl ?_
  obtain ⟨q1, h2, hF⟩ := bnd hF
  try dsimp only at hF
  refine q_callVi C [.int a1] (c_X10_hasCell l D ad ca kz C.2.2.2.2.2.2.1 _ pi_25 _ _ _ h2) tw_671 gm_X10_hasCell pi_25.1 (pe_9 pi_25.2) rfl ⟨rfl, rfl⟩ ⟨Nat.le_of_ble_eq_true rfl, Nat.le_of_ble_eq_true rfl⟩ rfl (Nat.le_of_ble_eq_true rfl) dX11_bush_10 q00 ?_
  refine q_if_ne (tgt := 18) C dX11_bush_13 (by decide) (fun c3 => ?_) (fun c3 => ?_)
  · replace hF := ife c3 hF
    refine q_aload_n C 1 dX11_bush_18 rfl rfl ?_
    refine qg_10_6 C pi_0 tw_386 dX11_bush_19 ?_
    refine q_aload_n C 0 dX11_bush_22 rfl rfl ?_
    obtain ⟨q4, h5, hF⟩ := bnd hF
    try dsimp only at hF
    refine q_callVv C [.ref (ad (25))] (c_X0_keep l D ad ca kz C.2.2.2.2.2.2.1 _ pi_25 _ _ h5) tw_709 gm_X0_keep pi_94.1 (pe_0 pi_94.2) rfl ⟨rfl, rfl⟩ ⟨Nat.le_of_ble_eq_true rfl, Nat.le_of_ble_eq_true rfl⟩ rfl (Nat.le_of_ble_eq_true rfl) dX11_bush_23 q00 ?_
    refine q_aload_n C 0 dX11_bush_26 rfl rfl ?_
    refine q_dup C dX11_bush_27 rfl ?_
    refine qg_9_6 C pi_25 tw_186 dX11_bush_28 ?_
    refine q_lconst (v := 1) C dX11_bush_31 (by decide) ?_
    refine q_iload_n C 2 dX11_bush_32 rfl rfl ?_
    refine q_lshl C dX11_bush_33 ?_
    refine q_lxor C dX11_bush_34 ?_
    refine qs_9_6 C pi_25 tw_186 dX11_bush_35 ?_
    refine q_aload_n C 0 dX11_bush_38 rfl rfl ?_
    refine q_iload_n C 2 dX11_bush_39 rfl rfl ?_
    obtain ⟨q6, h7, hF⟩ := bnd hF
    try dsimp only at hF
    refine q_callVi C [.int a1] (c_X10_isFree l D ad ca kz C.2.2.2.2.2.2.1 _ pi_25 _ _ _ h7) tw_675 gm_X10_isFree pi_25.1 (pe_9 pi_25.2) rfl ⟨rfl, rfl⟩ ⟨Nat.le_of_ble_eq_true rfl, Nat.le_of_ble_eq_true rfl⟩ rfl (Nat.le_of_ble_eq_true rfl) dX11_bush_40 q00 ?_
    refine q_if_eq (tgt := 50) C dX11_bush_43 (by decide) (fun c8 => ?_) (fun c8 => ?_)
    · replace hF := ift c8 hF
      refine q_iconst (v := 1) C dX11_bush_50 (by decide) ?_
      exact q_iret C hr hlk dX11_bush_51 hF
    · replace hF := ife c8 hF
      refine q_iconst (v := 0) C dX11_bush_46 (by decide) ?_
      refine q_goto (tgt := 51) C dX11_bush_47 (by decide) ?_
      exact q_iret C hr hlk dX11_bush_51 hF
  · replace hF := ift c3 hF
    refine q_iconst (v := -1) C dX11_bush_16 (by decide) ?_
    exact q_iret C hr hlk dX11_bush_17 hF
-- X9_fail
def F_X9_fail (n : Nat) (a1 : Int32) (a2 : Int32) (σ : PS) : Option (PS) := (if (σ.1 1 5) = 0 then some (psI σ 1 5 (((1 : Int32) + ((8 : Int32) * a1)) + a2)) else some σ)
theorem gm_X9_fail : gM "AskedCamp$Tape" yX9_fail (Cond.code yX9_fail cX9_fail 3 (Option.none : Option Jvm.ClassFile.FieldType)) 2 := ⟨by decide +kernel, tw_511, tw_512, tw_2, tw_513⟩
set_option maxHeartbeats 4000000 in
set_option maxRecDepth 100000 in
theorem c_X9_fail (l : Launch) (D : va_G) (ad : Nat → Nat) (ca : Nat → ClassId) (kz : Nat → Nat) (hJ : pInj ad) (n : Nat) (a1 : Int32) (a2 : Int32) (σ : PS) (out : PS) (hF : F_X9_fail n a1 a2 σ = some out) : Met l yX9_fail (Cond.code yX9_fail cX9_fail 3 (Option.none : Option Jvm.ClassFile.FieldType) :: gw_tbl) { frames := 0, cells := 0, slots := 0, locals := 0 } (va_Pc [.ref (ad (1)), .int a1, .int a2] (pU D ad ca kz σ)) (pQv D ad ca out) 0 0 (pAD ad) := by
  refine q_entry (own := "AskedCamp$Tape") hJ (by decide) rfl (Nat.le_of_ble_eq_true rfl) (fun p e s m below meth c C hr hlk => ?_)
  refine q_lv [(0, .ref (ad (1))), (1, .int a1), (2, .int a2)] rfl ?_
  rw [F_X9_fail] at hF
  refine q_aload_n C 0 dX9_fail_0 rfl rfl ?_
  refine qg_8_5 C pi_1 tw_50 dX9_fail_1 ?_
  refine q_if_ne (tgt := 19) C dX9_fail_4 (by decide) (fun c1 => ?_) (fun c1 => ?_)
  · replace hF := ife c1 hF
    exact q_vret C hr hlk dX9_fail_19 hF
  · replace hF := ift c1 hF
    refine q_aload_n C 0 dX9_fail_7 rfl rfl ?_
    refine q_iconst (v := 1) C dX9_fail_8 (by decide) ?_
    refine q_bipush (v := 8) C dX9_fail_9 (by decide) ?_
    refine q_iload_n C 1 dX9_fail_11 rfl rfl ?_
    refine q_imul C dX9_fail_12 ?_
    refine q_iadd C dX9_fail_13 ?_
    refine q_iload_n C 2 dX9_fail_14 rfl rfl ?_
    refine q_iadd C dX9_fail_15 ?_
    refine qs_8_5 C pi_1 tw_50 dX9_fail_16 ?_
    exact q_vret C hr hlk dX9_fail_19 hF
-- X9_peek
def L_X9_peek_0 (n : Nat) : Nat → PS → Option (PS)
  | 0, _ => none
  | k + 1, σ => (if (σ.1 1 1) ≤ (σ.1 1 2) then some σ else (if 0 ≤ (σ.1 1 2) ∧ (σ.1 1 2).toNatClampNeg < 400 then (if (σ.1 2 ((σ.1 1 2).toNatClampNeg)) = (32 : Int32) then L_X9_peek_0 n k (psI σ 1 2 ((σ.1 1 2) + (1 : Int32))) else some σ) else none))
def F_X9_peek (n : Nat) (σ : PS) : Option (Int32 × PS) := (L_X9_peek_0 n n σ).bind (fun o4 => (if (o4.1 1 1) ≤ (o4.1 1 2) then some ((-1 : Int32), o4) else (if 0 ≤ (o4.1 1 2) ∧ (o4.1 1 2).toNatClampNeg < 400 then some (((o4.1 2 ((o4.1 1 2).toNatClampNeg)) &&& (255 : Int32)), o4) else none)))
theorem gm_X9_peek : gM "AskedCamp$Tape" yX9_peek (Cond.code yX9_peek cX9_peek 1 (Option.some Jvm.ClassFile.FieldType.int)) 0 := ⟨by decide +kernel, tw_452, tw_453, tw_2, tw_454⟩
set_option maxHeartbeats 4000000 in
set_option maxRecDepth 100000 in
theorem l_X9_peek_0 {p : Program} {l : Launch} {e : Env} {R : Room} {s : State} {m : MethodId} {args : Array Value} {below : List Frame} {meth : Method} {c : Code} {D : va_G} {ad : Nat → Nat} {ca : Nat → ClassId} {kz : Nat → Nat} {Q : State → Prop} (C : pC p s m args c cX9_peek "AskedCamp$Tape" 1 D ad ca kz) (hR : 0 ≤ R.frames ∧ 0 ≤ R.locals) {n : Nat} (o : PS) (hx0 : PW p l e R s m args below meth c 1 D ad ca 0 0 Q (o) 38 [(0, .ref (ad (1)))] []) : ∀ (k : Nat) (σ : PS), L_X9_peek_0 n k σ = some o → PW p l e R s m args below meth c 1 D ad ca 0 0 Q σ 0 [(0, .ref (ad (1)))] [] := by
  intro k
  induction k with
  | zero => intro σ hF; exact nomatch (show (none : Option (PS)) = some o from hF)
  | succ k ih =>
    intro σ hF
    rw [L_X9_peek_0] at hF
    refine q_aload_n C 0 dX9_peek_0 rfl rfl ?_
    refine qg_8_2 C pi_1 tw_41 dX9_peek_1 ?_
    refine q_aload_n C 0 dX9_peek_4 rfl rfl ?_
    refine qg_8_1 C pi_1 tw_38 dX9_peek_5 ?_
    refine q_icmp_ge (tgt := 38) C dX9_peek_8 (by decide) (fun c1 => ?_) (fun c1 => ?_)
    · replace hF := ift c1 hF
      cases hF
      refine q_sub [0] rfl ?_
      exact hx0
    · replace hF := ife c1 hF
      refine q_aload_n C 0 dX9_peek_11 rfl rfl ?_
      refine qg_8_0 C pi_1 tw_36 dX9_peek_12 ?_
      refine q_aload_n C 0 dX9_peek_15 rfl rfl ?_
      refine qg_8_2 C pi_1 tw_41 dX9_peek_16 ?_
      obtain ⟨g2, hF⟩ := grd hF
      refine q_bald C pa_2 (vp_of g2) dX9_peek_19 ?_
      refine q_bipush (v := 32) C dX9_peek_20 (by decide) ?_
      refine q_icmp_ne (tgt := 38) C dX9_peek_22 (by decide) (fun c3 => ?_) (fun c3 => ?_)
      · replace hF := ife c3 hF
        cases hF
        refine q_sub [0] rfl ?_
        exact hx0
      · replace hF := ift c3 hF
        refine q_aload_n C 0 dX9_peek_25 rfl rfl ?_
        refine q_dup C dX9_peek_26 rfl ?_
        refine qg_8_2 C pi_1 tw_41 dX9_peek_27 ?_
        refine q_iconst (v := 1) C dX9_peek_30 (by decide) ?_
        refine q_iadd C dX9_peek_31 ?_
        refine qs_8_2 C pi_1 tw_41 dX9_peek_32 ?_
        refine q_goto (tgt := 0) C dX9_peek_35 (by decide) ?_
        refine q_sub [0] rfl ?_
        exact ih _ hF
set_option maxHeartbeats 4000000 in
set_option maxRecDepth 100000 in
theorem c_X9_peek (l : Launch) (D : va_G) (ad : Nat → Nat) (ca : Nat → ClassId) (kz : Nat → Nat) (hJ : pInj ad) (n : Nat) (σ : PS) (out : Int32 × PS) (hF : F_X9_peek n σ = some out) : Met l yX9_peek (Cond.code yX9_peek cX9_peek 1 (Option.some Jvm.ClassFile.FieldType.int) :: gw_tbl) { frames := 0, cells := 0, slots := 0, locals := 0 } (va_Pc [.ref (ad (1))] (pU D ad ca kz σ)) (pQi D ad ca out) 0 0 (pAD ad) := by
  refine q_entry (own := "AskedCamp$Tape") hJ (by decide) rfl (Nat.le_of_ble_eq_true rfl) (fun p e s m below meth c C hr hlk => ?_)
  refine q_lv [(0, .ref (ad (1)))] rfl ?_
  rw [F_X9_peek] at hF
  obtain ⟨o4, h5, hF⟩ := bnd hF
  try dsimp only at hF
  refine q_sub [0] rfl ?_
  refine l_X9_peek_0 C ⟨Nat.le_of_ble_eq_true rfl, Nat.le_of_ble_eq_true rfl⟩ o4 ?_ n _ h5
  refine q_aload_n C 0 dX9_peek_38 rfl rfl ?_
  refine qg_8_2 C pi_1 tw_41 dX9_peek_39 ?_
  refine q_aload_n C 0 dX9_peek_42 rfl rfl ?_
  refine qg_8_1 C pi_1 tw_38 dX9_peek_43 ?_
  refine q_icmp_ge (tgt := 65) C dX9_peek_46 (by decide) (fun c6 => ?_) (fun c6 => ?_)
  · replace hF := ift c6 hF
    refine q_iconst (v := -1) C dX9_peek_65 (by decide) ?_
    exact q_iret C hr hlk dX9_peek_66 hF
  · replace hF := ife c6 hF
    refine q_aload_n C 0 dX9_peek_49 rfl rfl ?_
    refine qg_8_0 C pi_1 tw_36 dX9_peek_50 ?_
    refine q_aload_n C 0 dX9_peek_53 rfl rfl ?_
    refine qg_8_2 C pi_1 tw_41 dX9_peek_54 ?_
    obtain ⟨g7, hF⟩ := grd hF
    refine q_bald C pa_2 (vp_of g7) dX9_peek_57 ?_
    refine q_sipush (v := 255) C dX9_peek_58 (by decide) ?_
    refine q_iand C dX9_peek_61 ?_
    refine q_goto (tgt := 66) C dX9_peek_62 (by decide) ?_
    exact q_iret C hr hlk dX9_peek_66 hF
-- X9_takeNumber
def L_X9_takeNumber_18 (n : Nat) : Nat → Int32 → Int32 → PS → Option (Int32 × Int32 × PS)
  | 0, _, _, _ => none
  | k + 1, x1, x2, σ => (if (σ.1 1 1) ≤ (σ.1 1 2) then some (x1, x2, σ) else (if 0 ≤ (σ.1 1 2) ∧ (σ.1 1 2).toNatClampNeg < 400 then (if (σ.1 2 ((σ.1 1 2).toNatClampNeg)) < (48 : Int32) then some (x1, x2, σ) else (if (57 : Int32) < (σ.1 2 ((σ.1 1 2).toNatClampNeg)) then some (x1, x2, σ) else (if (5 : Int32) ≤ ((σ.1 1 2) - (σ.1 1 3)) then L_X9_takeNumber_18 n k x1 x2 (psI σ 1 2 ((σ.1 1 2) + (1 : Int32))) else L_X9_takeNumber_18 n k x1 x2 (psI (psI σ 1 4 ((((σ.1 1 4) * (10 : Int32)) + (σ.1 2 ((σ.1 1 2).toNatClampNeg))) - (48 : Int32))) 1 2 (((psI σ 1 4 ((((σ.1 1 4) * (10 : Int32)) + (σ.1 2 ((σ.1 1 2).toNatClampNeg))) - (48 : Int32))).1 1 2) + (1 : Int32)))))) else none))
def F_X9_takeNumber (n : Nat) (a1 : Int32) (a2 : Int32) (σ : PS) : Option (Int32 × PS) := (F_X9_peek n σ).bind (fun q1 => (L_X9_takeNumber_18 n n a1 a2 (psI (psI q1.2 1 3 (q1.2.1 1 2)) 1 4 (0 : Int32))).bind (fun o8 => (if (o8.2.2.1 1 2) = (o8.2.2.1 1 3) then (F_X9_fail n (o8.2.2.1 1 3) (0 : Int32) o8.2.2).bind (fun q24 => (if (q24.1 1 5) = 0 then some ((1 : Int32), q24) else some ((0 : Int32), q24))) else (if (5 : Int32) < ((o8.2.2.1 1 2) - (o8.2.2.1 1 3)) then (F_X9_fail n (o8.2.2.1 1 3) (1 : Int32) o8.2.2).bind (fun q12 => (if (q12.1 1 5) = 0 then some ((1 : Int32), q12) else some ((0 : Int32), q12))) else (if (o8.2.2.1 1 4) < o8.1 then (F_X9_fail n (o8.2.2.1 1 3) (1 : Int32) o8.2.2).bind (fun q16 => (if (q16.1 1 5) = 0 then some ((1 : Int32), q16) else some ((0 : Int32), q16))) else (if (o8.2.2.1 1 4) ≤ o8.2.1 then (if (o8.2.2.1 1 5) = 0 then some ((1 : Int32), o8.2.2) else some ((0 : Int32), o8.2.2)) else (F_X9_fail n (o8.2.2.1 1 3) (1 : Int32) o8.2.2).bind (fun q21 => (if (q21.1 1 5) = 0 then some ((1 : Int32), q21) else some ((0 : Int32), q21)))))))))
theorem gm_X9_takeNumber : gM "AskedCamp$Tape" yX9_takeNumber (Cond.code yX9_takeNumber cX9_takeNumber 3 (Option.some Jvm.ClassFile.FieldType.boolean)) 2 := ⟨by decide +kernel, tw_519, tw_520, tw_2, tw_521⟩
set_option maxHeartbeats 4000000 in
set_option maxRecDepth 100000 in
theorem l_X9_takeNumber_18 {p : Program} {l : Launch} {e : Env} {R : Room} {s : State} {m : MethodId} {args : Array Value} {below : List Frame} {meth : Method} {c : Code} {D : va_G} {ad : Nat → Nat} {ca : Nat → ClassId} {kz : Nat → Nat} {Q : State → Prop} (C : pC p s m args c cX9_takeNumber "AskedCamp$Tape" 3 D ad ca kz) (hR : 1 ≤ R.frames ∧ 22 ≤ R.locals) {n : Nat} (o : Int32 × Int32 × PS) (hx0 : PW p l e R s m args below meth c 3 D ad ca 0 0 Q (o.2.2) 107 [(0, .ref (ad (1))), (1, .int o.1), (2, .int o.2.1)] []) : ∀ (k : Nat) (x1 : Int32) (x2 : Int32) (σ : PS), L_X9_takeNumber_18 n k x1 x2 σ = some o → PW p l e R s m args below meth c 3 D ad ca 0 0 Q σ 18 [(0, .ref (ad (1))), (1, .int x1), (2, .int x2)] [] := by
  intro k
  induction k with
  | zero => intro x1 x2 σ hF; exact nomatch (show (none : Option (Int32 × Int32 × PS)) = some o from hF)
  | succ k ih =>
    intro x1 x2 σ hF
    rw [L_X9_takeNumber_18] at hF
    refine q_aload_n C 0 dX9_takeNumber_18 rfl rfl ?_
    refine qg_8_2 C pi_1 tw_41 dX9_takeNumber_19 ?_
    refine q_aload_n C 0 dX9_takeNumber_22 rfl rfl ?_
    refine qg_8_1 C pi_1 tw_38 dX9_takeNumber_23 ?_
    refine q_icmp_ge (tgt := 107) C dX9_takeNumber_26 (by decide) (fun c3 => ?_) (fun c3 => ?_)
    · replace hF := ift c3 hF
      cases hF
      refine q_sub [0, 1, 2] rfl ?_
      exact hx0
    · replace hF := ife c3 hF
      refine q_aload_n C 0 dX9_takeNumber_29 rfl rfl ?_
      refine qg_8_0 C pi_1 tw_36 dX9_takeNumber_30 ?_
      refine q_aload_n C 0 dX9_takeNumber_33 rfl rfl ?_
      refine qg_8_2 C pi_1 tw_41 dX9_takeNumber_34 ?_
      obtain ⟨g4, hF⟩ := grd hF
      refine q_bald C pa_2 (vp_of g4) dX9_takeNumber_37 ?_
      refine q_bipush (v := 48) C dX9_takeNumber_38 (by decide) ?_
      refine q_icmp_lt (tgt := 107) C dX9_takeNumber_40 (by decide) (fun c5 => ?_) (fun c5 => ?_)
      · replace hF := ift c5 hF
        cases hF
        refine q_sub [0, 1, 2] rfl ?_
        exact hx0
      · replace hF := ife c5 hF
        refine q_aload_n C 0 dX9_takeNumber_43 rfl rfl ?_
        refine qg_8_0 C pi_1 tw_36 dX9_takeNumber_44 ?_
        refine q_aload_n C 0 dX9_takeNumber_47 rfl rfl ?_
        refine qg_8_2 C pi_1 tw_41 dX9_takeNumber_48 ?_
        refine q_bald C pa_2 (vp_of g4) dX9_takeNumber_51 ?_
        refine q_bipush (v := 57) C dX9_takeNumber_52 (by decide) ?_
        refine q_icmp_gt (tgt := 107) C dX9_takeNumber_54 (by decide) (fun c6 => ?_) (fun c6 => ?_)
        · replace hF := ift c6 hF
          cases hF
          refine q_sub [0, 1, 2] rfl ?_
          exact hx0
        · replace hF := ife c6 hF
          refine q_aload_n C 0 dX9_takeNumber_57 rfl rfl ?_
          refine qg_8_2 C pi_1 tw_41 dX9_takeNumber_58 ?_
          refine q_aload_n C 0 dX9_takeNumber_61 rfl rfl ?_
          refine qg_8_3 C pi_1 tw_45 dX9_takeNumber_62 ?_
          refine q_isub C dX9_takeNumber_65 ?_
          refine q_iconst (v := 5) C dX9_takeNumber_66 (by decide) ?_
          refine q_icmp_ge (tgt := 94) C dX9_takeNumber_67 (by decide) (fun c7 => ?_) (fun c7 => ?_)
          · replace hF := ift c7 hF
            refine q_aload_n C 0 dX9_takeNumber_94 rfl rfl ?_
            refine q_dup C dX9_takeNumber_95 rfl ?_
            refine qg_8_2 C pi_1 tw_41 dX9_takeNumber_96 ?_
            refine q_iconst (v := 1) C dX9_takeNumber_99 (by decide) ?_
            refine q_iadd C dX9_takeNumber_100 ?_
            refine qs_8_2 C pi_1 tw_41 dX9_takeNumber_101 ?_
            refine q_goto (tgt := 18) C dX9_takeNumber_104 (by decide) ?_
            refine q_sub [0, 1, 2] rfl ?_
            exact ih _ _ _ hF
          · replace hF := ife c7 hF
            refine q_aload_n C 0 dX9_takeNumber_70 rfl rfl ?_
            refine q_aload_n C 0 dX9_takeNumber_71 rfl rfl ?_
            refine qg_8_4 C pi_1 tw_47 dX9_takeNumber_72 ?_
            refine q_bipush (v := 10) C dX9_takeNumber_75 (by decide) ?_
            refine q_imul C dX9_takeNumber_77 ?_
            refine q_aload_n C 0 dX9_takeNumber_78 rfl rfl ?_
            refine qg_8_0 C pi_1 tw_36 dX9_takeNumber_79 ?_
            refine q_aload_n C 0 dX9_takeNumber_82 rfl rfl ?_
            refine qg_8_2 C pi_1 tw_41 dX9_takeNumber_83 ?_
            refine q_bald C pa_2 (vp_of g4) dX9_takeNumber_86 ?_
            refine q_iadd C dX9_takeNumber_87 ?_
            refine q_bipush (v := 48) C dX9_takeNumber_88 (by decide) ?_
            refine q_isub C dX9_takeNumber_90 ?_
            refine qs_8_4 C pi_1 tw_47 dX9_takeNumber_91 ?_
            refine q_aload_n C 0 dX9_takeNumber_94 rfl rfl ?_
            refine q_dup C dX9_takeNumber_95 rfl ?_
            refine qg_8_2 C pi_1 tw_41 dX9_takeNumber_96 ?_
            refine q_iconst (v := 1) C dX9_takeNumber_99 (by decide) ?_
            refine q_iadd C dX9_takeNumber_100 ?_
            refine qs_8_2 C pi_1 tw_41 dX9_takeNumber_101 ?_
            refine q_goto (tgt := 18) C dX9_takeNumber_104 (by decide) ?_
            refine q_sub [0, 1, 2] rfl ?_
            exact ih _ _ _ hF
set_option maxHeartbeats 4000000 in
set_option maxRecDepth 100000 in
theorem c_X9_takeNumber (l : Launch) (D : va_G) (ad : Nat → Nat) (ca : Nat → ClassId) (kz : Nat → Nat) (hJ : pInj ad) (n : Nat) (a1 : Int32) (a2 : Int32) (σ : PS) (out : Int32 × PS) (hF : F_X9_takeNumber n a1 a2 σ = some out) : Met l yX9_takeNumber (Cond.code yX9_takeNumber cX9_takeNumber 3 (Option.some Jvm.ClassFile.FieldType.boolean) :: gw_tbl) { frames := 1, cells := 0, slots := 0, locals := 22 } (va_Pc [.ref (ad (1)), .int a1, .int a2] (pU D ad ca kz σ)) (pQi D ad ca out) 0 0 (pAD ad) := by
  refine q_entry (own := "AskedCamp$Tape") hJ (by decide) rfl (Nat.le_of_ble_eq_true rfl) (fun p e s m below meth c C hr hlk => ?_)
  refine q_lv [(0, .ref (ad (1))), (1, .int a1), (2, .int a2)] rfl ?_
  rw [F_X9_takeNumber] at hF
  refine q_aload_n C 0 dX9_takeNumber_0 rfl rfl ?_
  obtain ⟨q1, h2, hF⟩ := bnd hF
  try dsimp only at hF
  refine q_callVi C [] (c_X9_peek l D ad ca kz C.2.2.2.2.2.2.1 _ _ _ h2) tw_451 gm_X9_peek pi_1.1 (pe_8 pi_1.2) rfl ⟨rfl, rfl⟩ ⟨Nat.le_of_ble_eq_true rfl, Nat.le_of_ble_eq_true rfl⟩ rfl (Nat.le_of_ble_eq_true rfl) dX9_takeNumber_1 q00 ?_
  refine q_pop C dX9_takeNumber_4 rfl ?_
  refine q_aload_n C 0 dX9_takeNumber_5 rfl rfl ?_
  refine q_aload_n C 0 dX9_takeNumber_6 rfl rfl ?_
  refine qg_8_2 C pi_1 tw_41 dX9_takeNumber_7 ?_
  refine qs_8_3 C pi_1 tw_45 dX9_takeNumber_10 ?_
  refine q_aload_n C 0 dX9_takeNumber_13 rfl rfl ?_
  refine q_iconst (v := 0) C dX9_takeNumber_14 (by decide) ?_
  refine qs_8_4 C pi_1 tw_47 dX9_takeNumber_15 ?_
  obtain ⟨o8, h9, hF⟩ := bnd hF
  try dsimp only at hF
  refine q_sub [0, 1, 2] rfl ?_
  refine l_X9_takeNumber_18 C ⟨Nat.le_of_ble_eq_true rfl, Nat.le_of_ble_eq_true rfl⟩ o8 ?_ n _ _ _ h9
  refine q_aload_n C 0 dX9_takeNumber_107 rfl rfl ?_
  refine qg_8_2 C pi_1 tw_41 dX9_takeNumber_108 ?_
  refine q_aload_n C 0 dX9_takeNumber_111 rfl rfl ?_
  refine qg_8_3 C pi_1 tw_45 dX9_takeNumber_112 ?_
  refine q_icmp_ne (tgt := 130) C dX9_takeNumber_115 (by decide) (fun c10 => ?_) (fun c10 => ?_)
  · replace hF := ife c10 hF
    refine q_aload_n C 0 dX9_takeNumber_130 rfl rfl ?_
    refine qg_8_2 C pi_1 tw_41 dX9_takeNumber_131 ?_
    refine q_aload_n C 0 dX9_takeNumber_134 rfl rfl ?_
    refine qg_8_3 C pi_1 tw_45 dX9_takeNumber_135 ?_
    refine q_isub C dX9_takeNumber_138 ?_
    refine q_iconst (v := 5) C dX9_takeNumber_139 (by decide) ?_
    refine q_icmp_gt (tgt := 159) C dX9_takeNumber_140 (by decide) (fun c11 => ?_) (fun c11 => ?_)
    · replace hF := ift c11 hF
      refine q_aload_n C 0 dX9_takeNumber_159 rfl rfl ?_
      refine q_aload_n C 0 dX9_takeNumber_160 rfl rfl ?_
      refine qg_8_3 C pi_1 tw_45 dX9_takeNumber_161 ?_
      refine q_iconst (v := 1) C dX9_takeNumber_164 (by decide) ?_
      obtain ⟨q12, h13, hF⟩ := bnd hF
      try dsimp only at hF
      refine q_callVv C [.int (o8.2.2.1 1 3), .int 1] (c_X9_fail l D ad ca kz C.2.2.2.2.2.2.1 _ _ _ _ _ h13) tw_522 gm_X9_fail pi_1.1 (pe_8 pi_1.2) rfl ⟨rfl, rfl⟩ ⟨Nat.le_of_ble_eq_true rfl, Nat.le_of_ble_eq_true rfl⟩ rfl (Nat.le_of_ble_eq_true rfl) dX9_takeNumber_165 q00 ?_
      refine q_aload_n C 0 dX9_takeNumber_168 rfl rfl ?_
      refine qg_8_5 C pi_1 tw_50 dX9_takeNumber_169 ?_
      refine q_if_ne (tgt := 179) C dX9_takeNumber_172 (by decide) (fun c14 => ?_) (fun c14 => ?_)
      · replace hF := ife c14 hF
        refine q_iconst (v := 0) C dX9_takeNumber_179 (by decide) ?_
        exact q_zret C hr hlk dX9_takeNumber_180 (by decide) hF
      · replace hF := ift c14 hF
        refine q_iconst (v := 1) C dX9_takeNumber_175 (by decide) ?_
        refine q_goto (tgt := 180) C dX9_takeNumber_176 (by decide) ?_
        exact q_zret C hr hlk dX9_takeNumber_180 (by decide) hF
    · replace hF := ife c11 hF
      refine q_aload_n C 0 dX9_takeNumber_143 rfl rfl ?_
      refine qg_8_4 C pi_1 tw_47 dX9_takeNumber_144 ?_
      refine q_iload_n C 1 dX9_takeNumber_147 rfl rfl ?_
      refine q_icmp_lt (tgt := 159) C dX9_takeNumber_148 (by decide) (fun c15 => ?_) (fun c15 => ?_)
      · replace hF := ift c15 hF
        refine q_aload_n C 0 dX9_takeNumber_159 rfl rfl ?_
        refine q_aload_n C 0 dX9_takeNumber_160 rfl rfl ?_
        refine qg_8_3 C pi_1 tw_45 dX9_takeNumber_161 ?_
        refine q_iconst (v := 1) C dX9_takeNumber_164 (by decide) ?_
        obtain ⟨q16, h17, hF⟩ := bnd hF
        try dsimp only at hF
        refine q_callVv C [.int (o8.2.2.1 1 3), .int 1] (c_X9_fail l D ad ca kz C.2.2.2.2.2.2.1 _ _ _ _ _ h17) tw_522 gm_X9_fail pi_1.1 (pe_8 pi_1.2) rfl ⟨rfl, rfl⟩ ⟨Nat.le_of_ble_eq_true rfl, Nat.le_of_ble_eq_true rfl⟩ rfl (Nat.le_of_ble_eq_true rfl) dX9_takeNumber_165 q00 ?_
        refine q_aload_n C 0 dX9_takeNumber_168 rfl rfl ?_
        refine qg_8_5 C pi_1 tw_50 dX9_takeNumber_169 ?_
        refine q_if_ne (tgt := 179) C dX9_takeNumber_172 (by decide) (fun c18 => ?_) (fun c18 => ?_)
        · replace hF := ife c18 hF
          refine q_iconst (v := 0) C dX9_takeNumber_179 (by decide) ?_
          exact q_zret C hr hlk dX9_takeNumber_180 (by decide) hF
        · replace hF := ift c18 hF
          refine q_iconst (v := 1) C dX9_takeNumber_175 (by decide) ?_
          refine q_goto (tgt := 180) C dX9_takeNumber_176 (by decide) ?_
          exact q_zret C hr hlk dX9_takeNumber_180 (by decide) hF
      · replace hF := ife c15 hF
        refine q_aload_n C 0 dX9_takeNumber_151 rfl rfl ?_
        refine qg_8_4 C pi_1 tw_47 dX9_takeNumber_152 ?_
        refine q_iload_n C 2 dX9_takeNumber_155 rfl rfl ?_
        refine q_icmp_le (tgt := 168) C dX9_takeNumber_156 (by decide) (fun c19 => ?_) (fun c19 => ?_)
        · replace hF := ift c19 hF
          refine q_aload_n C 0 dX9_takeNumber_168 rfl rfl ?_
          refine qg_8_5 C pi_1 tw_50 dX9_takeNumber_169 ?_
          refine q_if_ne (tgt := 179) C dX9_takeNumber_172 (by decide) (fun c20 => ?_) (fun c20 => ?_)
          · replace hF := ife c20 hF
            refine q_iconst (v := 0) C dX9_takeNumber_179 (by decide) ?_
            exact q_zret C hr hlk dX9_takeNumber_180 (by decide) hF
          · replace hF := ift c20 hF
            refine q_iconst (v := 1) C dX9_takeNumber_175 (by decide) ?_
            refine q_goto (tgt := 180) C dX9_takeNumber_176 (by decide) ?_
            exact q_zret C hr hlk dX9_takeNumber_180 (by decide) hF
        · replace hF := ife c19 hF
          refine q_aload_n C 0 dX9_takeNumber_159 rfl rfl ?_
          refine q_aload_n C 0 dX9_takeNumber_160 rfl rfl ?_
          refine qg_8_3 C pi_1 tw_45 dX9_takeNumber_161 ?_
          refine q_iconst (v := 1) C dX9_takeNumber_164 (by decide) ?_
          obtain ⟨q21, h22, hF⟩ := bnd hF
          try dsimp only at hF
          refine q_callVv C [.int (o8.2.2.1 1 3), .int 1] (c_X9_fail l D ad ca kz C.2.2.2.2.2.2.1 _ _ _ _ _ h22) tw_522 gm_X9_fail pi_1.1 (pe_8 pi_1.2) rfl ⟨rfl, rfl⟩ ⟨Nat.le_of_ble_eq_true rfl, Nat.le_of_ble_eq_true rfl⟩ rfl (Nat.le_of_ble_eq_true rfl) dX9_takeNumber_165 q00 ?_
          refine q_aload_n C 0 dX9_takeNumber_168 rfl rfl ?_
          refine qg_8_5 C pi_1 tw_50 dX9_takeNumber_169 ?_
          refine q_if_ne (tgt := 179) C dX9_takeNumber_172 (by decide) (fun c23 => ?_) (fun c23 => ?_)
          · replace hF := ife c23 hF
            refine q_iconst (v := 0) C dX9_takeNumber_179 (by decide) ?_
            exact q_zret C hr hlk dX9_takeNumber_180 (by decide) hF
          · replace hF := ift c23 hF
            refine q_iconst (v := 1) C dX9_takeNumber_175 (by decide) ?_
            refine q_goto (tgt := 180) C dX9_takeNumber_176 (by decide) ?_
            exact q_zret C hr hlk dX9_takeNumber_180 (by decide) hF
  · replace hF := ift c10 hF
    refine q_aload_n C 0 dX9_takeNumber_118 rfl rfl ?_
    refine q_aload_n C 0 dX9_takeNumber_119 rfl rfl ?_
    refine qg_8_3 C pi_1 tw_45 dX9_takeNumber_120 ?_
    refine q_iconst (v := 0) C dX9_takeNumber_123 (by decide) ?_
    obtain ⟨q24, h25, hF⟩ := bnd hF
    try dsimp only at hF
    refine q_callVv C [.int (o8.2.2.1 1 3), .int 0] (c_X9_fail l D ad ca kz C.2.2.2.2.2.2.1 _ _ _ _ _ h25) tw_522 gm_X9_fail pi_1.1 (pe_8 pi_1.2) rfl ⟨rfl, rfl⟩ ⟨Nat.le_of_ble_eq_true rfl, Nat.le_of_ble_eq_true rfl⟩ rfl (Nat.le_of_ble_eq_true rfl) dX9_takeNumber_124 q00 ?_
    refine q_goto (tgt := 168) C dX9_takeNumber_127 (by decide) ?_
    refine q_aload_n C 0 dX9_takeNumber_168 rfl rfl ?_
    refine qg_8_5 C pi_1 tw_50 dX9_takeNumber_169 ?_
    refine q_if_ne (tgt := 179) C dX9_takeNumber_172 (by decide) (fun c26 => ?_) (fun c26 => ?_)
    · replace hF := ife c26 hF
      refine q_iconst (v := 0) C dX9_takeNumber_179 (by decide) ?_
      exact q_zret C hr hlk dX9_takeNumber_180 (by decide) hF
    · replace hF := ift c26 hF
      refine q_iconst (v := 1) C dX9_takeNumber_175 (by decide) ?_
      refine q_goto (tgt := 180) C dX9_takeNumber_176 (by decide) ?_
      exact q_zret C hr hlk dX9_takeNumber_180 (by decide) hF
-- X1_readSquare
def F_X1_readSquare (n : Nat) (a1 : Nat) (σ : PS) : Option (PS) := (F_X9_takeNumber n (2 : Int32) (6 : Int32) σ).bind (fun q1 => (if q1.1 = 0 then some q1.2 else (F_X9_takeNumber n (0 : Int32) (((psI (psI q1.2 a1 0 (q1.2.1 1 4)) a1 1 (((psI q1.2 a1 0 (q1.2.1 1 4)).1 1 4) * ((psI q1.2 a1 0 (q1.2.1 1 4)).1 1 4))).1 a1 1) - (1 : Int32)) (psI (psI q1.2 a1 0 (q1.2.1 1 4)) a1 1 (((psI q1.2 a1 0 (q1.2.1 1 4)).1 1 4) * ((psI q1.2 a1 0 (q1.2.1 1 4)).1 1 4)))).bind (fun q4 => (if q4.1 = 0 then some q4.2 else some (psI q4.2 a1 2 (q4.2.1 1 4))))))
theorem gm_X1_readSquare : gM "AskedCamp$CampReader" yX1_readSquare (Cond.code yX1_readSquare cX1_readSquare 2 (Option.none : Option Jvm.ClassFile.FieldType)) 1 := ⟨by decide +kernel, tw_516, tw_p1, tw_3, tw_517⟩
set_option maxHeartbeats 4000000 in
set_option maxRecDepth 100000 in
theorem c_X1_readSquare (l : Launch) (D : va_G) (ad : Nat → Nat) (ca : Nat → ClassId) (kz : Nat → Nat) (hJ : pInj ad) (n : Nat) {a1 : Nat} (ha1 : pis a1 9) (σ : PS) (out : PS) (hF : F_X1_readSquare n a1 σ = some out) : Met l yX1_readSquare (Cond.code yX1_readSquare cX1_readSquare 2 (Option.none : Option Jvm.ClassFile.FieldType) :: gw_tbl) { frames := 2, cells := 0, slots := 0, locals := 44 } (va_Pc [.ref (ad (3)), .ref (ad (a1))] (pU D ad ca kz σ)) (pQv D ad ca out) 0 0 (pAD ad) := by
  refine q_entry (own := "AskedCamp$CampReader") hJ (by decide) rfl (Nat.le_of_ble_eq_true rfl) (fun p e s m below meth c C hr hlk => ?_)
  refine q_lv [(0, .ref (ad (3))), (1, .ref (ad (a1)))] rfl ?_
  rw [F_X1_readSquare] at hF
  refine q_aload_n C 0 dX1_readSquare_0 rfl rfl ?_
  refine qg_1_0 C pi_3 tw_72 dX1_readSquare_1 ?_
  refine q_iconst (v := 2) C dX1_readSquare_4 (by decide) ?_
  refine q_bipush (v := 6) C dX1_readSquare_5 (by decide) ?_
  obtain ⟨q1, h2, hF⟩ := bnd hF
  try dsimp only at hF
  refine q_callVi C [.int 2, .int 6] (c_X9_takeNumber l D ad ca kz C.2.2.2.2.2.2.1 _ _ _ _ _ h2) tw_518 gm_X9_takeNumber pi_1.1 (pe_8 pi_1.2) rfl ⟨rfl, rfl⟩ ⟨Nat.le_of_ble_eq_true rfl, Nat.le_of_ble_eq_true rfl⟩ rfl (Nat.le_of_ble_eq_true rfl) dX1_readSquare_7 q00 ?_
  refine q_if_ne (tgt := 14) C dX1_readSquare_10 (by decide) (fun c3 => ?_) (fun c3 => ?_)
  · replace hF := ife c3 hF
    refine q_aload_n C 1 dX1_readSquare_14 rfl rfl ?_
    refine q_aload_n C 0 dX1_readSquare_15 rfl rfl ?_
    refine qg_1_0 C pi_3 tw_72 dX1_readSquare_16 ?_
    refine qg_8_4 C pi_1 tw_46 dX1_readSquare_19 ?_
    refine qs_9_0 C ha1 tw_157 dX1_readSquare_22 ?_
    refine q_aload_n C 1 dX1_readSquare_25 rfl rfl ?_
    refine q_aload_n C 0 dX1_readSquare_26 rfl rfl ?_
    refine qg_1_0 C pi_3 tw_72 dX1_readSquare_27 ?_
    refine qg_8_4 C pi_1 tw_46 dX1_readSquare_30 ?_
    refine q_aload_n C 0 dX1_readSquare_33 rfl rfl ?_
    refine qg_1_0 C pi_3 tw_72 dX1_readSquare_34 ?_
    refine qg_8_4 C pi_1 tw_46 dX1_readSquare_37 ?_
    refine q_imul C dX1_readSquare_40 ?_
    refine qs_9_1 C ha1 tw_161 dX1_readSquare_41 ?_
    refine q_aload_n C 0 dX1_readSquare_44 rfl rfl ?_
    refine qg_1_0 C pi_3 tw_72 dX1_readSquare_45 ?_
    refine q_iconst (v := 0) C dX1_readSquare_48 (by decide) ?_
    refine q_aload_n C 1 dX1_readSquare_49 rfl rfl ?_
    refine qg_9_1 C ha1 tw_161 dX1_readSquare_50 ?_
    refine q_iconst (v := 1) C dX1_readSquare_53 (by decide) ?_
    refine q_isub C dX1_readSquare_54 ?_
    obtain ⟨q4, h5, hF⟩ := bnd hF
    try dsimp only at hF
    refine q_callVi C [.int 0, .int (((psI (psI q1.2 a1 0 (q1.2.1 1 4)) a1 1 (((psI q1.2 a1 0 (q1.2.1 1 4)).1 1 4) * ((psI q1.2 a1 0 (q1.2.1 1 4)).1 1 4))).1 a1 1) - (1 : Int32))] (c_X9_takeNumber l D ad ca kz C.2.2.2.2.2.2.1 _ _ _ _ _ h5) tw_518 gm_X9_takeNumber pi_1.1 (pe_8 pi_1.2) rfl ⟨rfl, rfl⟩ ⟨Nat.le_of_ble_eq_true rfl, Nat.le_of_ble_eq_true rfl⟩ rfl (Nat.le_of_ble_eq_true rfl) dX1_readSquare_55 q00 ?_
    refine q_if_eq (tgt := 72) C dX1_readSquare_58 (by decide) (fun c6 => ?_) (fun c6 => ?_)
    · replace hF := ift c6 hF
      exact q_vret C hr hlk dX1_readSquare_72 hF
    · replace hF := ife c6 hF
      refine q_aload_n C 1 dX1_readSquare_61 rfl rfl ?_
      refine q_aload_n C 0 dX1_readSquare_62 rfl rfl ?_
      refine qg_1_0 C pi_3 tw_72 dX1_readSquare_63 ?_
      refine qg_8_4 C pi_1 tw_46 dX1_readSquare_66 ?_
      refine qs_9_2 C ha1 tw_166 dX1_readSquare_69 ?_
      exact q_vret C hr hlk dX1_readSquare_72 hF
  · replace hF := ift c3 hF
    exact q_vret C hr hlk dX1_readSquare_13 hF
-- X1_readTent
def F_X1_readTent (n : Nat) (a1 : Nat) (σ : PS) : Option (PS) := (F_X9_takeNumber n (0 : Int32) ((σ.1 a1 1) - (1 : Int32)) σ).bind (fun q1 => (if q1.1 = 0 then some q1.2 else (F_X9_takeNumber n (0 : Int32) (20 : Int32) q1.2).bind (fun q4 => (if q4.1 = 0 then some q4.2 else (F_X10_addTent n a1 (q1.2.1 1 4) (q4.2.1 1 4) q4.2).bind (fun q7 => some q7)))))
theorem gm_X1_readTent : gM "AskedCamp$CampReader" yX1_readTent (Cond.code yX1_readTent cX1_readTent 3 (Option.none : Option Jvm.ClassFile.FieldType)) 1 := ⟨by decide +kernel, tw_525, tw_p2, tw_3, tw_526⟩
set_option maxHeartbeats 4000000 in
set_option maxRecDepth 100000 in
theorem c_X1_readTent (l : Launch) (D : va_G) (ad : Nat → Nat) (ca : Nat → ClassId) (kz : Nat → Nat) (hJ : pInj ad) (n : Nat) {a1 : Nat} (ha1 : pis a1 9) (σ : PS) (out : PS) (hF : F_X1_readTent n a1 σ = some out) : Met l yX1_readTent (Cond.code yX1_readTent cX1_readTent 3 (Option.none : Option Jvm.ClassFile.FieldType) :: gw_tbl) { frames := 2, cells := 0, slots := 0, locals := 44 } (va_Pc [.ref (ad (3)), .ref (ad (a1))] (pU D ad ca kz σ)) (pQv D ad ca out) 0 0 (pAD ad) := by
  refine q_entry (own := "AskedCamp$CampReader") hJ (by decide) rfl (Nat.le_of_ble_eq_true rfl) (fun p e s m below meth c C hr hlk => ?_)
  refine q_lv [(0, .ref (ad (3))), (1, .ref (ad (a1)))] rfl ?_
  rw [F_X1_readTent] at hF
  refine q_aload_n C 0 dX1_readTent_0 rfl rfl ?_
  refine qg_1_0 C pi_3 tw_72 dX1_readTent_1 ?_
  refine q_iconst (v := 0) C dX1_readTent_4 (by decide) ?_
  refine q_aload_n C 1 dX1_readTent_5 rfl rfl ?_
  refine qg_9_1 C ha1 tw_161 dX1_readTent_6 ?_
  refine q_iconst (v := 1) C dX1_readTent_9 (by decide) ?_
  refine q_isub C dX1_readTent_10 ?_
  obtain ⟨q1, h2, hF⟩ := bnd hF
  try dsimp only at hF
  refine q_callVi C [.int 0, .int ((σ.1 a1 1) - (1 : Int32))] (c_X9_takeNumber l D ad ca kz C.2.2.2.2.2.2.1 _ _ _ _ _ h2) tw_518 gm_X9_takeNumber pi_1.1 (pe_8 pi_1.2) rfl ⟨rfl, rfl⟩ ⟨Nat.le_of_ble_eq_true rfl, Nat.le_of_ble_eq_true rfl⟩ rfl (Nat.le_of_ble_eq_true rfl) dX1_readTent_11 q00 ?_
  refine q_if_ne (tgt := 18) C dX1_readTent_14 (by decide) (fun c3 => ?_) (fun c3 => ?_)
  · replace hF := ife c3 hF
    refine q_aload_n C 0 dX1_readTent_18 rfl rfl ?_
    refine qg_1_0 C pi_3 tw_72 dX1_readTent_19 ?_
    refine qg_8_4 C pi_1 tw_46 dX1_readTent_22 ?_
    refine q_istore_n C [(2, .int (q1.2.1 1 4)), (0, .ref (ad (3))), (1, .ref (ad (a1)))] dX1_readTent_25 rfl (by decide) rfl ?_
    refine q_aload_n C 1 dX1_readTent_26 rfl rfl ?_
    refine qg_1_0 C pi_3 tw_72 dX1_readTent_27 ?_
    refine q_iconst (v := 0) C dX1_readTent_30 (by decide) ?_
    refine q_bipush (v := 20) C dX1_readTent_31 (by decide) ?_
    obtain ⟨q4, h5, hF⟩ := bnd hF
    try dsimp only at hF
    refine q_callVi C [.int 0, .int 20] (c_X9_takeNumber l D ad ca kz C.2.2.2.2.2.2.1 _ _ _ _ _ h5) tw_518 gm_X9_takeNumber pi_1.1 (pe_8 pi_1.2) rfl ⟨rfl, rfl⟩ ⟨Nat.le_of_ble_eq_true rfl, Nat.le_of_ble_eq_true rfl⟩ rfl (Nat.le_of_ble_eq_true rfl) dX1_readTent_33 q00 ?_
    refine q_if_eq (tgt := 51) C dX1_readTent_36 (by decide) (fun c6 => ?_) (fun c6 => ?_)
    · replace hF := ift c6 hF
      exact q_vret C hr hlk dX1_readTent_51 hF
    · replace hF := ife c6 hF
      refine q_aload_n C 2 dX1_readTent_39 rfl rfl ?_
      refine q_iload_n C 0 dX1_readTent_40 rfl rfl ?_
      refine q_aload_n C 1 dX1_readTent_41 rfl rfl ?_
      refine qg_1_0 C pi_3 tw_72 dX1_readTent_42 ?_
      refine qg_8_4 C pi_1 tw_46 dX1_readTent_45 ?_
      obtain ⟨q7, h8, hF⟩ := bnd hF
      try dsimp only at hF
      refine q_callVv C [.int (q1.2.1 1 4), .int (q4.2.1 1 4)] (c_X10_addTent l D ad ca kz C.2.2.2.2.2.2.1 _ ha1 _ _ _ _ h8) tw_527 gm_X10_addTent ha1.1 (pe_9 ha1.2) rfl ⟨rfl, rfl⟩ ⟨Nat.le_of_ble_eq_true rfl, Nat.le_of_ble_eq_true rfl⟩ rfl (Nat.le_of_ble_eq_true rfl) dX1_readTent_48 q00 ?_
      exact q_vret C hr hlk dX1_readTent_51 hF
  · replace hF := ift c3 hF
    exact q_vret C hr hlk dX1_readTent_17 hF
-- X9_takeWord
def L_X9_takeWord_13 (n : Nat) : Nat → PS → Option (PS)
  | 0, _ => none
  | k + 1, σ => (if (σ.1 1 1) ≤ (σ.1 1 2) then some σ else (if 0 ≤ (σ.1 1 2) ∧ (σ.1 1 2).toNatClampNeg < 400 then (if (σ.1 2 ((σ.1 1 2).toNatClampNeg)) < (97 : Int32) then some σ else (if (122 : Int32) < (σ.1 2 ((σ.1 1 2).toNatClampNeg)) then some σ else L_X9_takeWord_13 n k (psI σ 1 2 ((σ.1 1 2) + (1 : Int32))))) else none))
def F_X9_takeWord (n : Nat) (σ : PS) : Option (PS) := (F_X9_peek n σ).bind (fun q1 => (L_X9_takeWord_13 n n (psI q1.2 1 3 (q1.2.1 1 2))).bind (fun o7 => some o7))
theorem gm_X9_takeWord : gM "AskedCamp$Tape" yX9_takeWord (Cond.code yX9_takeWord cX9_takeWord 1 (Option.none : Option Jvm.ClassFile.FieldType)) 0 := ⟨by decide +kernel, tw_448, tw_449, tw_2, tw_450⟩
set_option maxHeartbeats 4000000 in
set_option maxRecDepth 100000 in
theorem l_X9_takeWord_13 {p : Program} {l : Launch} {e : Env} {R : Room} {s : State} {m : MethodId} {args : Array Value} {below : List Frame} {meth : Method} {c : Code} {D : va_G} {ad : Nat → Nat} {ca : Nat → ClassId} {kz : Nat → Nat} {Q : State → Prop} (C : pC p s m args c cX9_takeWord "AskedCamp$Tape" 1 D ad ca kz) (hR : 1 ≤ R.frames ∧ 20 ≤ R.locals) {n : Nat} (o : PS) (hx0 : PW p l e R s m args below meth c 1 D ad ca 0 0 Q (o) 65 [] []) : ∀ (k : Nat) (σ : PS), L_X9_takeWord_13 n k σ = some o → PW p l e R s m args below meth c 1 D ad ca 0 0 Q σ 13 [(0, .ref (ad (1)))] [] := by
  intro k
  induction k with
  | zero => intro σ hF; exact nomatch (show (none : Option (PS)) = some o from hF)
  | succ k ih =>
    intro σ hF
    rw [L_X9_takeWord_13] at hF
    refine q_aload_n C 0 dX9_takeWord_13 rfl rfl ?_
    refine qg_8_2 C pi_1 tw_41 dX9_takeWord_14 ?_
    refine q_aload_n C 0 dX9_takeWord_17 rfl rfl ?_
    refine qg_8_1 C pi_1 tw_38 dX9_takeWord_18 ?_
    refine q_icmp_ge (tgt := 65) C dX9_takeWord_21 (by decide) (fun c3 => ?_) (fun c3 => ?_)
    · replace hF := ift c3 hF
      cases hF
      refine q_sub [] rfl ?_
      exact hx0
    · replace hF := ife c3 hF
      refine q_aload_n C 0 dX9_takeWord_24 rfl rfl ?_
      refine qg_8_0 C pi_1 tw_36 dX9_takeWord_25 ?_
      refine q_aload_n C 0 dX9_takeWord_28 rfl rfl ?_
      refine qg_8_2 C pi_1 tw_41 dX9_takeWord_29 ?_
      obtain ⟨g4, hF⟩ := grd hF
      refine q_bald C pa_2 (vp_of g4) dX9_takeWord_32 ?_
      refine q_bipush (v := 97) C dX9_takeWord_33 (by decide) ?_
      refine q_icmp_lt (tgt := 65) C dX9_takeWord_35 (by decide) (fun c5 => ?_) (fun c5 => ?_)
      · replace hF := ift c5 hF
        cases hF
        refine q_sub [] rfl ?_
        exact hx0
      · replace hF := ife c5 hF
        refine q_aload_n C 0 dX9_takeWord_38 rfl rfl ?_
        refine qg_8_0 C pi_1 tw_36 dX9_takeWord_39 ?_
        refine q_aload_n C 0 dX9_takeWord_42 rfl rfl ?_
        refine qg_8_2 C pi_1 tw_41 dX9_takeWord_43 ?_
        refine q_bald C pa_2 (vp_of g4) dX9_takeWord_46 ?_
        refine q_bipush (v := 122) C dX9_takeWord_47 (by decide) ?_
        refine q_icmp_gt (tgt := 65) C dX9_takeWord_49 (by decide) (fun c6 => ?_) (fun c6 => ?_)
        · replace hF := ift c6 hF
          cases hF
          refine q_sub [] rfl ?_
          exact hx0
        · replace hF := ife c6 hF
          refine q_aload_n C 0 dX9_takeWord_52 rfl rfl ?_
          refine q_dup C dX9_takeWord_53 rfl ?_
          refine qg_8_2 C pi_1 tw_41 dX9_takeWord_54 ?_
          refine q_iconst (v := 1) C dX9_takeWord_57 (by decide) ?_
          refine q_iadd C dX9_takeWord_58 ?_
          refine qs_8_2 C pi_1 tw_41 dX9_takeWord_59 ?_
          refine q_goto (tgt := 13) C dX9_takeWord_62 (by decide) ?_
          refine q_sub [0] rfl ?_
          exact ih _ hF
set_option maxHeartbeats 4000000 in
set_option maxRecDepth 100000 in
theorem c_X9_takeWord (l : Launch) (D : va_G) (ad : Nat → Nat) (ca : Nat → ClassId) (kz : Nat → Nat) (hJ : pInj ad) (n : Nat) (σ : PS) (out : PS) (hF : F_X9_takeWord n σ = some out) : Met l yX9_takeWord (Cond.code yX9_takeWord cX9_takeWord 1 (Option.none : Option Jvm.ClassFile.FieldType) :: gw_tbl) { frames := 1, cells := 0, slots := 0, locals := 20 } (va_Pc [.ref (ad (1))] (pU D ad ca kz σ)) (pQv D ad ca out) 0 0 (pAD ad) := by
  refine q_entry (own := "AskedCamp$Tape") hJ (by decide) rfl (Nat.le_of_ble_eq_true rfl) (fun p e s m below meth c C hr hlk => ?_)
  refine q_lv [(0, .ref (ad (1)))] rfl ?_
  rw [F_X9_takeWord] at hF
  refine q_aload_n C 0 dX9_takeWord_0 rfl rfl ?_
  obtain ⟨q1, h2, hF⟩ := bnd hF
  try dsimp only at hF
  refine q_callVi C [] (c_X9_peek l D ad ca kz C.2.2.2.2.2.2.1 _ _ _ h2) tw_451 gm_X9_peek pi_1.1 (pe_8 pi_1.2) rfl ⟨rfl, rfl⟩ ⟨Nat.le_of_ble_eq_true rfl, Nat.le_of_ble_eq_true rfl⟩ rfl (Nat.le_of_ble_eq_true rfl) dX9_takeWord_1 q00 ?_
  refine q_pop C dX9_takeWord_4 rfl ?_
  refine q_aload_n C 0 dX9_takeWord_5 rfl rfl ?_
  refine q_aload_n C 0 dX9_takeWord_6 rfl rfl ?_
  refine qg_8_2 C pi_1 tw_41 dX9_takeWord_7 ?_
  refine qs_8_3 C pi_1 tw_45 dX9_takeWord_10 ?_
  obtain ⟨o7, h8, hF⟩ := bnd hF
  try dsimp only at hF
  refine q_sub [0] rfl ?_
  refine l_X9_takeWord_13 C ⟨Nat.le_of_ble_eq_true rfl, Nat.le_of_ble_eq_true rfl⟩ o7 ?_ n _ h8
  exact q_vret C hr hlk dX9_takeWord_65 hF
-- X9_wordIs
def L_X9_wordIs_20 (n : Nat) (a1 : Nat) : Nat → Int32 → PS → Option (Nat × PS)
  | 0, _, _ => none
  | k + 1, x2, σ => (if (pslen a1 >>> (0 &&& 31)) ≤ x2 then some (1, σ) else (if 0 ≤ ((σ.1 1 3) + x2) ∧ ((σ.1 1 3) + x2).toNatClampNeg < 400 then (if 0 ≤ x2 ∧ x2.toNatClampNeg < pLen.getD a1 0 then (if (σ.1 2 (((σ.1 1 3) + x2).toNatClampNeg)) = (pschr a1 x2) then L_X9_wordIs_20 n a1 k (x2 + 1) σ else some (0, σ)) else none) else none))
def F_X9_wordIs (n : Nat) (a1 : Nat) (σ : PS) : Option (Int32 × PS) := (if ((σ.1 1 2) - (σ.1 1 3)) = (pslen a1 >>> (0 &&& 31)) then (L_X9_wordIs_20 n a1 n (0 : Int32) σ).bind (fun o6 => (if o6.1 = 0 then some ((0 : Int32), o6.2) else some ((1 : Int32), o6.2))) else some ((0 : Int32), σ))
theorem gm_X9_wordIs : gM "AskedCamp$Tape" yX9_wordIs (Cond.code yX9_wordIs cX9_wordIs 3 (Option.some Jvm.ClassFile.FieldType.boolean)) 1 := ⟨by decide +kernel, tw_457, tw_458, tw_2, tw_459⟩
set_option maxHeartbeats 4000000 in
set_option maxRecDepth 100000 in
theorem l_X9_wordIs_20 {p : Program} {l : Launch} {e : Env} {R : Room} {s : State} {m : MethodId} {args : Array Value} {below : List Frame} {meth : Method} {c : Code} {D : va_G} {ad : Nat → Nat} {ca : Nat → ClassId} {kz : Nat → Nat} {Q : State → Prop} (C : pC p s m args c cX9_wordIs "AskedCamp$Tape" 3 D ad ca kz) (hR : 4 ≤ R.frames ∧ 87 ≤ R.locals) {n : Nat} {a1 : Nat} (ha1 : a1 < 19) (o : Nat × PS) (hx0 : o.1 = 0 → PW p l e R s m args below meth c 3 D ad ca 0 0 Q (o.2) 47 [] []) (hx1 : o.1 = 1 → PW p l e R s m args below meth c 3 D ad ca 0 0 Q (o.2) 55 [] []) : ∀ (k : Nat) (x2 : Int32) (σ : PS), L_X9_wordIs_20 n a1 k x2 σ = some o → PW p l e R s m args below meth c 3 D ad ca 0 0 Q σ 20 [(0, .ref (ad (1))), (1, .ref (kz (10 + a1))), (2, .int x2)] [] := by
  intro k
  induction k with
  | zero => intro x2 σ hF; exact nomatch (show (none : Option (Nat × PS)) = some o from hF)
  | succ k ih =>
    intro x2 σ hF
    rw [L_X9_wordIs_20] at hF
    refine q_iload_n C 2 dX9_wordIs_20 rfl rfl ?_
    refine q_aload_n C 1 dX9_wordIs_21 rfl rfl ?_
    refine q_strlen C ha1 tw_460 rfl ⟨Nat.le_trans (Nat.le_of_ble_eq_true rfl) hR.1, Nat.le_trans (Nat.le_of_ble_eq_true rfl) hR.2⟩ (Nat.le_of_ble_eq_true rfl) dX9_wordIs_22 ?_
    refine q_icmp_ge (tgt := 55) C dX9_wordIs_25 (by decide) (fun c2 => ?_) (fun c2 => ?_)
    · replace hF := ift c2 hF
      cases hF
      refine q_sub [] rfl ?_
      exact hx1 rfl
    · replace hF := ife c2 hF
      refine q_aload_n C 0 dX9_wordIs_28 rfl rfl ?_
      refine qg_8_0 C pi_1 tw_36 dX9_wordIs_29 ?_
      refine q_aload_n C 0 dX9_wordIs_32 rfl rfl ?_
      refine qg_8_3 C pi_1 tw_45 dX9_wordIs_33 ?_
      refine q_iload_n C 2 dX9_wordIs_36 rfl rfl ?_
      refine q_iadd C dX9_wordIs_37 ?_
      obtain ⟨g3, hF⟩ := grd hF
      refine q_bald C pa_2 (vp_of g3) dX9_wordIs_38 ?_
      refine q_aload_n C 1 dX9_wordIs_39 rfl rfl ?_
      refine q_iload_n C 2 dX9_wordIs_40 rfl rfl ?_
      obtain ⟨g4, hF⟩ := grd hF
      refine q_strchr C ha1 tw_470 g4 rfl ⟨Nat.le_trans (Nat.le_of_ble_eq_true rfl) hR.1, Nat.le_trans (Nat.le_of_ble_eq_true rfl) hR.2⟩ (Nat.le_of_ble_eq_true rfl) dX9_wordIs_41 ?_
      refine q_icmp_eq (tgt := 49) C dX9_wordIs_44 (by decide) (fun c5 => ?_) (fun c5 => ?_)
      · replace hF := ift c5 hF
        refine q_iinc C 2 [(2, .int (x2 + 1)), (0, .ref (ad (1))), (1, .ref (kz (10 + a1)))] dX9_wordIs_49 rfl rfl (by decide) rfl ?_
        refine q_goto (tgt := 20) C dX9_wordIs_52 (by decide) ?_
        refine q_sub [1, 2, 0] rfl ?_
        exact ih _ _ hF
      · replace hF := ife c5 hF
        cases hF
        refine q_sub [] rfl ?_
        exact hx0 rfl
set_option maxHeartbeats 4000000 in
set_option maxRecDepth 100000 in
theorem c_X9_wordIs (l : Launch) (D : va_G) (ad : Nat → Nat) (ca : Nat → ClassId) (kz : Nat → Nat) (hJ : pInj ad) (n : Nat) {a1 : Nat} (ha1 : a1 < 19) (σ : PS) (out : Int32 × PS) (hF : F_X9_wordIs n a1 σ = some out) : Met l yX9_wordIs (Cond.code yX9_wordIs cX9_wordIs 3 (Option.some Jvm.ClassFile.FieldType.boolean) :: gw_tbl) { frames := 4, cells := 0, slots := 0, locals := 87 } (va_Pc [.ref (ad (1)), .ref (kz (10 + a1))] (pU D ad ca kz σ)) (pQi D ad ca out) 0 0 (pAD ad) := by
  refine q_entry (own := "AskedCamp$Tape") hJ (by decide) rfl (Nat.le_of_ble_eq_true rfl) (fun p e s m below meth c C hr hlk => ?_)
  refine q_lv [(0, .ref (ad (1))), (1, .ref (kz (10 + a1)))] rfl ?_
  rw [F_X9_wordIs] at hF
  refine q_aload_n C 0 dX9_wordIs_0 rfl rfl ?_
  refine qg_8_2 C pi_1 tw_41 dX9_wordIs_1 ?_
  refine q_aload_n C 0 dX9_wordIs_4 rfl rfl ?_
  refine qg_8_3 C pi_1 tw_45 dX9_wordIs_5 ?_
  refine q_isub C dX9_wordIs_8 ?_
  refine q_aload_n C 1 dX9_wordIs_9 rfl rfl ?_
  refine q_strlen C ha1 tw_460 rfl ⟨Nat.le_of_ble_eq_true rfl, Nat.le_of_ble_eq_true rfl⟩ (Nat.le_of_ble_eq_true rfl) dX9_wordIs_10 ?_
  refine q_icmp_eq (tgt := 18) C dX9_wordIs_13 (by decide) (fun c1 => ?_) (fun c1 => ?_)
  · replace hF := ift c1 hF
    refine q_iconst (v := 0) C dX9_wordIs_18 (by decide) ?_
    refine q_istore_n C [(2, .int 0), (0, .ref (ad (1))), (1, .ref (kz (10 + a1)))] dX9_wordIs_19 rfl (by decide) rfl ?_
    obtain ⟨o6, h7, hF⟩ := bnd hF
    try dsimp only at hF
    refine q_sub [1, 2, 0] rfl ?_
    refine l_X9_wordIs_20 C ⟨Nat.le_of_ble_eq_true rfl, Nat.le_of_ble_eq_true rfl⟩ ha1 o6 (fun eo6_0 => ?_) (fun eo6_1 => ?_) n _ _ h7
    · -- exit 0
      replace hF := ift eo6_0 hF
      refine q_iconst (v := 0) C dX9_wordIs_47 (by decide) ?_
      exact q_zret C hr hlk dX9_wordIs_48 (by decide) hF
    · -- exit 1
      replace hF := ife (by rw [eo6_1]; decide) hF
      refine q_iconst (v := 1) C dX9_wordIs_55 (by decide) ?_
      exact q_zret C hr hlk dX9_wordIs_56 (by decide) hF
  · replace hF := ife c1 hF
    refine q_iconst (v := 0) C dX9_wordIs_16 (by decide) ?_
    exact q_zret C hr hlk dX9_wordIs_17 (by decide) hF
-- X1_readClause
def J_X1_readClause_127 (n : Nat) (a1 : Nat) (x3 : Int32) (x4 : Int32) (σ : PS) : Option (PS) := (if x3 = 0 then (if x4 = 0 then (F_X9_takeNumber n (0 : Int32) ((σ.1 a1 1) - (1 : Int32)) σ).bind (fun q16 => (if q16.1 = 0 then some q16.2 else some (psJ q16.2 a1 6 ((q16.2.2 a1 6) ||| ((1 : Int64) <<< ((q16.2.1 1 4).toInt64 &&& 63)))))) else (F_X1_readTent n a1 σ).bind (fun q19 => some q19)) else (F_X1_readSquare n a1 σ).bind (fun q21 => some q21))
def J_X1_readClause_90 (n : Nat) (a1 : Nat) (x3 : Int32) (x4 : Int32) (y0 : Int32) (σ : PS) : Option (PS) := (if y0 = 0 then (if x4 = 0 then J_X1_readClause_127 n a1 x3 x4 σ else (if (σ.1 a1 5) < (6 : Int32) then J_X1_readClause_127 n a1 x3 x4 σ else (F_X9_fail n (σ.1 1 3) (4 : Int32) σ).bind (fun q24 => some q24))) else (F_X9_fail n (σ.1 1 3) (4 : Int32) σ).bind (fun q11 => some q11))
def J_X1_readClause_65 (n : Nat) (a1 : Nat) (x2 : Int32) (x3 : Int32) (x4 : Int32) (σ : PS) : Option (PS) := (if x2 = (1 : Int32) then (if x3 = (1 : Int32) then (if x2 ≤ (40 : Int32) then J_X1_readClause_90 n a1 x3 x4 (0 : Int32) σ else J_X1_readClause_90 n a1 x3 x4 (1 : Int32) σ) else J_X1_readClause_90 n a1 x3 x4 (1 : Int32) σ) else (if x3 = (0 : Int32) then (if x2 ≤ (40 : Int32) then J_X1_readClause_90 n a1 x3 x4 (0 : Int32) σ else J_X1_readClause_90 n a1 x3 x4 (1 : Int32) σ) else J_X1_readClause_90 n a1 x3 x4 (1 : Int32) σ))
def F_X1_readClause (n : Nat) (a1 : Nat) (a2 : Int32) (σ : PS) : Option (PS) := (F_X9_takeWord n σ).bind (fun q1 => (F_X9_wordIs n 0 q1).bind (fun q3 => (F_X9_wordIs n 1 q3.2).bind (fun q5 => (if q3.1 = 0 then (if q5.1 = 0 then (F_X9_wordIs n 2 q5.2).bind (fun q30 => (if q30.1 = 0 then (F_X9_fail n (q30.2.1 1 3) (0 : Int32) q30.2).bind (fun q33 => some q33) else J_X1_readClause_65 n a1 a2 q3.1 q5.1 q30.2)) else J_X1_readClause_65 n a1 a2 q3.1 q5.1 q5.2) else J_X1_readClause_65 n a1 a2 q3.1 q5.1 q5.2))))
theorem gm_X1_readClause : gM "AskedCamp$CampReader" yX1_readClause (Cond.code yX1_readClause cX1_readClause 6 (Option.none : Option Jvm.ClassFile.FieldType)) 2 := ⟨by decide +kernel, tw_445, tw_p0, tw_3, tw_446⟩
set_option maxHeartbeats 4000000 in
set_option maxRecDepth 100000 in
theorem j_X1_readClause_127 {p : Program} {l : Launch} {e : Env} {R : Room} {s : State} {m : MethodId} {args : Array Value} {below : List Frame} {meth : Method} {c : Code} {D : va_G} {ad : Nat → Nat} {ca : Nat → ClassId} {kz : Nat → Nat} (C : pC p s m args c cX1_readClause "AskedCamp$CampReader" 6 D ad ca kz) (hr : meth.sig.returnType = (Option.none : Option Jvm.ClassFile.FieldType)) (hlk : meth.locks = false) (hR : 5 ≤ R.frames ∧ 109 ≤ R.locals) {n : Nat} {a1 : Nat} (ha1 : pis a1 9) (x3 : Int32) (x4 : Int32) (σ : PS) (out : PS) (hF : J_X1_readClause_127 n a1 x3 x4 σ = some out) : PW p l e R s m args below meth c 6 D ad ca 0 0 (MQ below (pQv D ad ca out) args s 0 0 (pAD ad)) σ 127 [(0, .ref (ad (3))), (1, .ref (ad (a1))), (3, .int x3), (4, .int x4)] [] := by
  rw [J_X1_readClause_127] at hF
  refine q_iload_n C 2 dX1_readClause_127 rfl rfl ?_
  refine q_if_eq (tgt := 139) C dX1_readClause_128 (by decide) (fun c14 => ?_) (fun c14 => ?_)
  · replace hF := ift c14 hF
    refine q_iload C 3 dX1_readClause_139 rfl ?_
    refine q_if_eq (tgt := 152) C dX1_readClause_141 (by decide) (fun c15 => ?_) (fun c15 => ?_)
    · replace hF := ift c15 hF
      refine q_aload_n C 0 dX1_readClause_152 rfl rfl ?_
      refine qg_1_0 C pi_3 tw_72 dX1_readClause_153 ?_
      refine q_iconst (v := 0) C dX1_readClause_156 (by decide) ?_
      refine q_aload_n C 1 dX1_readClause_157 rfl rfl ?_
      refine qg_9_1 C ha1 tw_161 dX1_readClause_158 ?_
      refine q_iconst (v := 1) C dX1_readClause_161 (by decide) ?_
      refine q_isub C dX1_readClause_162 ?_
      obtain ⟨q16, h17, hF⟩ := bnd hF
      try dsimp only at hF
      refine q_callVi C [.int 0, .int ((σ.1 a1 1) - (1 : Int32))] (c_X9_takeNumber l D ad ca kz C.2.2.2.2.2.2.1 _ _ _ _ _ h17) tw_518 gm_X9_takeNumber pi_1.1 (pe_8 pi_1.2) rfl ⟨rfl, rfl⟩ ⟨Nat.le_trans (Nat.le_of_ble_eq_true rfl) hR.1, Nat.le_trans (Nat.le_of_ble_eq_true rfl) hR.2⟩ rfl (Nat.le_of_ble_eq_true rfl) dX1_readClause_163 q00 ?_
      refine q_if_eq (tgt := 187) C dX1_readClause_166 (by decide) (fun c18 => ?_) (fun c18 => ?_)
      · replace hF := ift c18 hF
        exact q_vret C hr hlk dX1_readClause_187 hF
      · replace hF := ife c18 hF
        refine q_aload_n C 1 dX1_readClause_169 rfl rfl ?_
        refine q_dup C dX1_readClause_170 rfl ?_
        refine qg_9_6 C ha1 tw_184 dX1_readClause_171 ?_
        refine q_lconst (v := 1) C dX1_readClause_174 (by decide) ?_
        refine q_aload_n C 0 dX1_readClause_175 rfl rfl ?_
        refine qg_1_0 C pi_3 tw_72 dX1_readClause_176 ?_
        refine qg_8_4 C pi_1 tw_46 dX1_readClause_179 ?_
        refine q_lshl C dX1_readClause_182 ?_
        refine q_lor C dX1_readClause_183 ?_
        refine qs_9_6 C ha1 tw_184 dX1_readClause_184 ?_
        exact q_vret C hr hlk dX1_readClause_187 hF
    · replace hF := ife c15 hF
      refine q_aload_n C 0 dX1_readClause_144 rfl rfl ?_
      refine q_aload_n C 1 dX1_readClause_145 rfl rfl ?_
      obtain ⟨q19, h20, hF⟩ := bnd hF
      try dsimp only at hF
      refine q_callVv C [.ref (ad (a1))] (c_X1_readTent l D ad ca kz C.2.2.2.2.2.2.1 _ ha1 _ _ h20) tw_523 gm_X1_readTent pi_3.1 (pe_1 pi_3.2) rfl ⟨rfl, rfl⟩ ⟨Nat.le_trans (Nat.le_of_ble_eq_true rfl) hR.1, Nat.le_trans (Nat.le_of_ble_eq_true rfl) hR.2⟩ rfl (Nat.le_of_ble_eq_true rfl) dX1_readClause_146 q00 ?_
      refine q_goto (tgt := 187) C dX1_readClause_149 (by decide) ?_
      exact q_vret C hr hlk dX1_readClause_187 hF
  · replace hF := ife c14 hF
    refine q_aload_n C 0 dX1_readClause_131 rfl rfl ?_
    refine q_aload_n C 1 dX1_readClause_132 rfl rfl ?_
    obtain ⟨q21, h22, hF⟩ := bnd hF
    try dsimp only at hF
    refine q_callVv C [.ref (ad (a1))] (c_X1_readSquare l D ad ca kz C.2.2.2.2.2.2.1 _ ha1 _ _ h22) tw_514 gm_X1_readSquare pi_3.1 (pe_1 pi_3.2) rfl ⟨rfl, rfl⟩ ⟨Nat.le_trans (Nat.le_of_ble_eq_true rfl) hR.1, Nat.le_trans (Nat.le_of_ble_eq_true rfl) hR.2⟩ rfl (Nat.le_of_ble_eq_true rfl) dX1_readClause_133 q00 ?_
    refine q_goto (tgt := 187) C dX1_readClause_136 (by decide) ?_
    exact q_vret C hr hlk dX1_readClause_187 hF
set_option maxHeartbeats 4000000 in
set_option maxRecDepth 100000 in
theorem j_X1_readClause_90 {p : Program} {l : Launch} {e : Env} {R : Room} {s : State} {m : MethodId} {args : Array Value} {below : List Frame} {meth : Method} {c : Code} {D : va_G} {ad : Nat → Nat} {ca : Nat → ClassId} {kz : Nat → Nat} (C : pC p s m args c cX1_readClause "AskedCamp$CampReader" 6 D ad ca kz) (hr : meth.sig.returnType = (Option.none : Option Jvm.ClassFile.FieldType)) (hlk : meth.locks = false) (hR : 5 ≤ R.frames ∧ 109 ≤ R.locals) {n : Nat} {a1 : Nat} (ha1 : pis a1 9) (x3 : Int32) (x4 : Int32) (y0 : Int32) (σ : PS) (out : PS) (hF : J_X1_readClause_90 n a1 x3 x4 y0 σ = some out) : PW p l e R s m args below meth c 6 D ad ca 0 0 (MQ below (pQv D ad ca out) args s 0 0 (pAD ad)) σ 90 [(0, .ref (ad (3))), (1, .ref (ad (a1))), (3, .int x3), (4, .int x4)] [.int y0] := by
  rw [J_X1_readClause_90] at hF
  refine q_istore C [(5, .int y0), (0, .ref (ad (3))), (1, .ref (ad (a1))), (3, .int x3), (4, .int x4)] dX1_readClause_90 (by decide) rfl ?_
  refine q_iload C 0 dX1_readClause_92 rfl ?_
  refine q_if_ne (tgt := 111) C dX1_readClause_94 (by decide) (fun c10 => ?_) (fun c10 => ?_)
  · replace hF := ife c10 hF
    refine q_aload_n C 1 dX1_readClause_111 rfl rfl ?_
    refine qg_1_0 C pi_3 tw_72 dX1_readClause_112 ?_
    refine q_aload_n C 1 dX1_readClause_115 rfl rfl ?_
    refine qg_1_0 C pi_3 tw_72 dX1_readClause_116 ?_
    refine qg_8_3 C pi_1 tw_44 dX1_readClause_119 ?_
    refine q_iconst (v := 4) C dX1_readClause_122 (by decide) ?_
    obtain ⟨q11, h12, hF⟩ := bnd hF
    try dsimp only at hF
    refine q_callVv C [.int (σ.1 1 3), .int 4] (c_X9_fail l D ad ca kz C.2.2.2.2.2.2.1 _ _ _ _ _ h12) tw_510 gm_X9_fail pi_1.1 (pe_8 pi_1.2) rfl ⟨rfl, rfl⟩ ⟨Nat.le_trans (Nat.le_of_ble_eq_true rfl) hR.1, Nat.le_trans (Nat.le_of_ble_eq_true rfl) hR.2⟩ rfl (Nat.le_of_ble_eq_true rfl) dX1_readClause_123 q00 ?_
    exact q_vret C hr hlk dX1_readClause_126 hF
  · replace hF := ift c10 hF
    refine q_iload C 4 dX1_readClause_97 rfl ?_
    refine q_if_eq (tgt := 127) C dX1_readClause_99 (by decide) (fun c13 => ?_) (fun c13 => ?_)
    · replace hF := ift c13 hF
      refine q_sub [1, 2, 3, 4] rfl ?_
      exact j_X1_readClause_127 C hr hlk ⟨hR.1, hR.2⟩ ha1 _ _ _ _ hF
    · replace hF := ife c13 hF
      refine q_aload_n C 2 dX1_readClause_102 rfl rfl ?_
      refine qg_9_5 C ha1 tw_179 dX1_readClause_103 ?_
      refine q_bipush (v := 6) C dX1_readClause_106 (by decide) ?_
      refine q_icmp_lt (tgt := 127) C dX1_readClause_108 (by decide) (fun c23 => ?_) (fun c23 => ?_)
      · replace hF := ift c23 hF
        refine q_sub [1, 2, 3, 4] rfl ?_
        exact j_X1_readClause_127 C hr hlk ⟨hR.1, hR.2⟩ ha1 _ _ _ _ hF
      · replace hF := ife c23 hF
        refine q_aload_n C 1 dX1_readClause_111 rfl rfl ?_
        refine qg_1_0 C pi_3 tw_72 dX1_readClause_112 ?_
        refine q_aload_n C 1 dX1_readClause_115 rfl rfl ?_
        refine qg_1_0 C pi_3 tw_72 dX1_readClause_116 ?_
        refine qg_8_3 C pi_1 tw_44 dX1_readClause_119 ?_
        refine q_iconst (v := 4) C dX1_readClause_122 (by decide) ?_
        obtain ⟨q24, h25, hF⟩ := bnd hF
        try dsimp only at hF
        refine q_callVv C [.int (σ.1 1 3), .int 4] (c_X9_fail l D ad ca kz C.2.2.2.2.2.2.1 _ _ _ _ _ h25) tw_510 gm_X9_fail pi_1.1 (pe_8 pi_1.2) rfl ⟨rfl, rfl⟩ ⟨Nat.le_trans (Nat.le_of_ble_eq_true rfl) hR.1, Nat.le_trans (Nat.le_of_ble_eq_true rfl) hR.2⟩ rfl (Nat.le_of_ble_eq_true rfl) dX1_readClause_123 q00 ?_
        exact q_vret C hr hlk dX1_readClause_126 hF
set_option maxHeartbeats 4000000 in
set_option maxRecDepth 100000 in
theorem j_X1_readClause_65 {p : Program} {l : Launch} {e : Env} {R : Room} {s : State} {m : MethodId} {args : Array Value} {below : List Frame} {meth : Method} {c : Code} {D : va_G} {ad : Nat → Nat} {ca : Nat → ClassId} {kz : Nat → Nat} (C : pC p s m args c cX1_readClause "AskedCamp$CampReader" 6 D ad ca kz) (hr : meth.sig.returnType = (Option.none : Option Jvm.ClassFile.FieldType)) (hlk : meth.locks = false) (hR : 5 ≤ R.frames ∧ 109 ≤ R.locals) {n : Nat} {a1 : Nat} (ha1 : pis a1 9) (x2 : Int32) (x3 : Int32) (x4 : Int32) (σ : PS) (out : PS) (hF : J_X1_readClause_65 n a1 x2 x3 x4 σ = some out) : PW p l e R s m args below meth c 6 D ad ca 0 0 (MQ below (pQv D ad ca out) args s 0 0 (pAD ad)) σ 65 [(0, .ref (ad (3))), (1, .ref (ad (a1))), (2, .int x2), (3, .int x3), (4, .int x4)] [] := by
  rw [J_X1_readClause_65] at hF
  refine q_iload_n C 3 dX1_readClause_65 rfl rfl ?_
  refine q_iload_n C 2 dX1_readClause_66 rfl rfl ?_
  refine q_iconst (v := 1) C dX1_readClause_67 (by decide) ?_
  refine q_icmp_ne (tgt := 75) C dX1_readClause_68 (by decide) (fun c8 => ?_) (fun c8 => ?_)
  · replace hF := ife c8 hF
    refine q_iconst (v := 0) C dX1_readClause_75 (by decide) ?_
    refine q_icmp_ne (tgt := 85) C dX1_readClause_76 (by decide) (fun c9 => ?_) (fun c9 => ?_)
    · replace hF := ife c9 hF
      refine q_iconst (v := 1) C dX1_readClause_85 (by decide) ?_
      refine q_goto (tgt := 90) C dX1_readClause_86 (by decide) ?_
      refine q_sub [0, 1, 3, 4] rfl ?_
      exact j_X1_readClause_90 C hr hlk ⟨hR.1, hR.2⟩ ha1 _ _ _ _ _ hF
    · replace hF := ift c9 hF
      refine q_iload_n C 2 dX1_readClause_79 rfl rfl ?_
      refine q_bipush (v := 40) C dX1_readClause_80 (by decide) ?_
      refine q_icmp_le (tgt := 89) C dX1_readClause_82 (by decide) (fun c26 => ?_) (fun c26 => ?_)
      · replace hF := ift c26 hF
        refine q_iconst (v := 0) C dX1_readClause_89 (by decide) ?_
        refine q_sub [0, 1, 3, 4] rfl ?_
        exact j_X1_readClause_90 C hr hlk ⟨hR.1, hR.2⟩ ha1 _ _ _ _ _ hF
      · replace hF := ife c26 hF
        refine q_iconst (v := 1) C dX1_readClause_85 (by decide) ?_
        refine q_goto (tgt := 90) C dX1_readClause_86 (by decide) ?_
        refine q_sub [0, 1, 3, 4] rfl ?_
        exact j_X1_readClause_90 C hr hlk ⟨hR.1, hR.2⟩ ha1 _ _ _ _ _ hF
  · replace hF := ift c8 hF
    refine q_iconst (v := 1) C dX1_readClause_71 (by decide) ?_
    refine q_goto (tgt := 76) C dX1_readClause_72 (by decide) ?_
    refine q_icmp_ne (tgt := 85) C dX1_readClause_76 (by decide) (fun c27 => ?_) (fun c27 => ?_)
    · replace hF := ife c27 hF
      refine q_iconst (v := 1) C dX1_readClause_85 (by decide) ?_
      refine q_goto (tgt := 90) C dX1_readClause_86 (by decide) ?_
      refine q_sub [0, 1, 3, 4] rfl ?_
      exact j_X1_readClause_90 C hr hlk ⟨hR.1, hR.2⟩ ha1 _ _ _ _ _ hF
    · replace hF := ift c27 hF
      refine q_iload_n C 2 dX1_readClause_79 rfl rfl ?_
      refine q_bipush (v := 40) C dX1_readClause_80 (by decide) ?_
      refine q_icmp_le (tgt := 89) C dX1_readClause_82 (by decide) (fun c28 => ?_) (fun c28 => ?_)
      · replace hF := ift c28 hF
        refine q_iconst (v := 0) C dX1_readClause_89 (by decide) ?_
        refine q_sub [0, 1, 3, 4] rfl ?_
        exact j_X1_readClause_90 C hr hlk ⟨hR.1, hR.2⟩ ha1 _ _ _ _ _ hF
      · replace hF := ife c28 hF
        refine q_iconst (v := 1) C dX1_readClause_85 (by decide) ?_
        refine q_goto (tgt := 90) C dX1_readClause_86 (by decide) ?_
        refine q_sub [0, 1, 3, 4] rfl ?_
        exact j_X1_readClause_90 C hr hlk ⟨hR.1, hR.2⟩ ha1 _ _ _ _ _ hF
set_option maxHeartbeats 4000000 in
set_option maxRecDepth 100000 in
theorem c_X1_readClause (l : Launch) (D : va_G) (ad : Nat → Nat) (ca : Nat → ClassId) (kz : Nat → Nat) (hJ : pInj ad) (n : Nat) {a1 : Nat} (ha1 : pis a1 9) (a2 : Int32) (σ : PS) (out : PS) (hF : F_X1_readClause n a1 a2 σ = some out) : Met l yX1_readClause (Cond.code yX1_readClause cX1_readClause 6 (Option.none : Option Jvm.ClassFile.FieldType) :: gw_tbl) { frames := 5, cells := 0, slots := 0, locals := 109 } (va_Pc [.ref (ad (3)), .ref (ad (a1)), .int a2] (pU D ad ca kz σ)) (pQv D ad ca out) 0 0 (pAD ad) := by
  refine q_entry (own := "AskedCamp$CampReader") hJ (by decide) rfl (Nat.le_of_ble_eq_true rfl) (fun p e s m below meth c C hr hlk => ?_)
  refine q_lv [(0, .ref (ad (3))), (1, .ref (ad (a1))), (2, .int a2)] rfl ?_
  rw [F_X1_readClause] at hF
  refine q_aload_n C 0 dX1_readClause_0 rfl rfl ?_
  refine qg_1_0 C pi_3 tw_72 dX1_readClause_1 ?_
  obtain ⟨q1, h2, hF⟩ := bnd hF
  try dsimp only at hF
  refine q_callVv C [] (c_X9_takeWord l D ad ca kz C.2.2.2.2.2.2.1 _ _ _ h2) tw_447 gm_X9_takeWord pi_1.1 (pe_8 pi_1.2) rfl ⟨rfl, rfl⟩ ⟨Nat.le_of_ble_eq_true rfl, Nat.le_of_ble_eq_true rfl⟩ rfl (Nat.le_of_ble_eq_true rfl) dX1_readClause_4 q00 ?_
  refine q_aload_n C 0 dX1_readClause_7 rfl rfl ?_
  refine qg_1_0 C pi_3 tw_72 dX1_readClause_8 ?_
  refine q_str0 C dX1_readClause_11 ?_
  obtain ⟨q3, h4, hF⟩ := bnd hF
  try dsimp only at hF
  refine q_callVi C [.ref (kz (10 + 0))] (c_X9_wordIs l D ad ca kz C.2.2.2.2.2.2.1 _ (by decide) _ _ h4) tw_456 gm_X9_wordIs pi_1.1 (pe_8 pi_1.2) rfl ⟨rfl, rfl⟩ ⟨Nat.le_of_ble_eq_true rfl, Nat.le_of_ble_eq_true rfl⟩ rfl (Nat.le_of_ble_eq_true rfl) dX1_readClause_13 q00 ?_
  refine q_istore_n C [(3, .int q3.1), (0, .ref (ad (3))), (1, .ref (ad (a1))), (2, .int a2)] dX1_readClause_16 rfl (by decide) rfl ?_
  refine q_aload_n C 1 dX1_readClause_17 rfl rfl ?_
  refine qg_1_0 C pi_3 tw_72 dX1_readClause_18 ?_
  refine q_str1 C dX1_readClause_21 ?_
  obtain ⟨q5, h6, hF⟩ := bnd hF
  try dsimp only at hF
  refine q_callVi C [.ref (kz (10 + 1))] (c_X9_wordIs l D ad ca kz C.2.2.2.2.2.2.1 _ (by decide) _ _ h6) tw_456 gm_X9_wordIs pi_1.1 (pe_8 pi_1.2) rfl ⟨rfl, rfl⟩ ⟨Nat.le_of_ble_eq_true rfl, Nat.le_of_ble_eq_true rfl⟩ rfl (Nat.le_of_ble_eq_true rfl) dX1_readClause_23 q00 ?_
  refine q_istore C [(4, .int q5.1), (3, .int q3.1), (0, .ref (ad (3))), (1, .ref (ad (a1))), (2, .int a2)] dX1_readClause_26 (by decide) rfl ?_
  refine q_iload_n C 1 dX1_readClause_28 rfl rfl ?_
  refine q_if_ne (tgt := 65) C dX1_readClause_29 (by decide) (fun c7 => ?_) (fun c7 => ?_)
  · replace hF := ife c7 hF
    refine q_sub [2, 3, 4, 1, 0] rfl ?_
    exact j_X1_readClause_65 C hr hlk ⟨Nat.le_of_ble_eq_true rfl, Nat.le_of_ble_eq_true rfl⟩ ha1 _ _ _ _ _ hF
  · replace hF := ift c7 hF
    refine q_iload C 0 dX1_readClause_32 rfl ?_
    refine q_if_ne (tgt := 65) C dX1_readClause_34 (by decide) (fun c29 => ?_) (fun c29 => ?_)
    · replace hF := ife c29 hF
      refine q_sub [2, 3, 4, 1, 0] rfl ?_
      exact j_X1_readClause_65 C hr hlk ⟨Nat.le_of_ble_eq_true rfl, Nat.le_of_ble_eq_true rfl⟩ ha1 _ _ _ _ _ hF
    · replace hF := ift c29 hF
      refine q_aload_n C 2 dX1_readClause_37 rfl rfl ?_
      refine qg_1_0 C pi_3 tw_72 dX1_readClause_38 ?_
      refine q_str2 C dX1_readClause_41 ?_
      obtain ⟨q30, h31, hF⟩ := bnd hF
      try dsimp only at hF
      refine q_callVi C [.ref (kz (10 + 2))] (c_X9_wordIs l D ad ca kz C.2.2.2.2.2.2.1 _ (by decide) _ _ h31) tw_456 gm_X9_wordIs pi_1.1 (pe_8 pi_1.2) rfl ⟨rfl, rfl⟩ ⟨Nat.le_of_ble_eq_true rfl, Nat.le_of_ble_eq_true rfl⟩ rfl (Nat.le_of_ble_eq_true rfl) dX1_readClause_43 q00 ?_
      refine q_if_ne (tgt := 65) C dX1_readClause_46 (by decide) (fun c32 => ?_) (fun c32 => ?_)
      · replace hF := ife c32 hF
        refine q_sub [2, 3, 4, 1, 0] rfl ?_
        exact j_X1_readClause_65 C hr hlk ⟨Nat.le_of_ble_eq_true rfl, Nat.le_of_ble_eq_true rfl⟩ ha1 _ _ _ _ _ hF
      · replace hF := ift c32 hF
        refine q_aload_n C 2 dX1_readClause_49 rfl rfl ?_
        refine qg_1_0 C pi_3 tw_72 dX1_readClause_50 ?_
        refine q_aload_n C 2 dX1_readClause_53 rfl rfl ?_
        refine qg_1_0 C pi_3 tw_72 dX1_readClause_54 ?_
        refine qg_8_3 C pi_1 tw_44 dX1_readClause_57 ?_
        refine q_iconst (v := 0) C dX1_readClause_60 (by decide) ?_
        obtain ⟨q33, h34, hF⟩ := bnd hF
        try dsimp only at hF
        refine q_callVv C [.int (q30.2.1 1 3), .int 0] (c_X9_fail l D ad ca kz C.2.2.2.2.2.2.1 _ _ _ _ _ h34) tw_510 gm_X9_fail pi_1.1 (pe_8 pi_1.2) rfl ⟨rfl, rfl⟩ ⟨Nat.le_of_ble_eq_true rfl, Nat.le_of_ble_eq_true rfl⟩ rfl (Nat.le_of_ble_eq_true rfl) dX1_readClause_61 q00 ?_
        exact q_vret C hr hlk dX1_readClause_64 hF
-- X9_startReading
def F_X9_startReading (n : Nat) (σ : PS) : Option (PS) := some (psI (psI (psI σ 1 2 (0 : Int32)) 1 3 (0 : Int32)) 1 5 (0 : Int32))
theorem gm_X9_startReading : gM "AskedCamp$Tape" yX9_startReading (Cond.code yX9_startReading cX9_startReading 1 (Option.none : Option Jvm.ClassFile.FieldType)) 0 := ⟨by decide +kernel, tw_440, tw_441, tw_2, tw_442⟩
set_option maxHeartbeats 4000000 in
set_option maxRecDepth 100000 in
theorem c_X9_startReading (l : Launch) (D : va_G) (ad : Nat → Nat) (ca : Nat → ClassId) (kz : Nat → Nat) (hJ : pInj ad) (n : Nat) (σ : PS) (out : PS) (hF : F_X9_startReading n σ = some out) : Met l yX9_startReading (Cond.code yX9_startReading cX9_startReading 1 (Option.none : Option Jvm.ClassFile.FieldType) :: gw_tbl) { frames := 0, cells := 0, slots := 0, locals := 0 } (va_Pc [.ref (ad (1))] (pU D ad ca kz σ)) (pQv D ad ca out) 0 0 (pAD ad) := by
  refine q_entry (own := "AskedCamp$Tape") hJ (by decide) rfl (Nat.le_of_ble_eq_true rfl) (fun p e s m below meth c C hr hlk => ?_)
  refine q_lv [(0, .ref (ad (1)))] rfl ?_
  rw [F_X9_startReading] at hF
  refine q_aload_n C 0 dX9_startReading_0 rfl rfl ?_
  refine q_iconst (v := 0) C dX9_startReading_1 (by decide) ?_
  refine qs_8_2 C pi_1 tw_41 dX9_startReading_2 ?_
  refine q_aload_n C 0 dX9_startReading_5 rfl rfl ?_
  refine q_iconst (v := 0) C dX9_startReading_6 (by decide) ?_
  refine qs_8_3 C pi_1 tw_45 dX9_startReading_7 ?_
  refine q_aload_n C 0 dX9_startReading_10 rfl rfl ?_
  refine q_iconst (v := 0) C dX9_startReading_11 (by decide) ?_
  refine qs_8_5 C pi_1 tw_50 dX9_startReading_12 ?_
  exact q_vret C hr hlk dX9_startReading_15 hF
-- X9_takeSemicolon
def F_X9_takeSemicolon (n : Nat) (σ : PS) : Option (Int32 × PS) := (if (σ.1 1 5) = 0 then (F_X9_peek n σ).bind (fun q2 => (if q2.1 = (59 : Int32) then some ((1 : Int32), psI q2.2 1 2 ((q2.2.1 1 2) + (1 : Int32))) else (if q2.1 = (-1 : Int32) then some ((0 : Int32), q2.2) else (F_X9_fail n (q2.2.1 1 2) (0 : Int32) q2.2).bind (fun q6 => some ((0 : Int32), q6))))) else some ((0 : Int32), σ))
theorem gm_X9_takeSemicolon : gM "AskedCamp$Tape" yX9_takeSemicolon (Cond.code yX9_takeSemicolon cX9_takeSemicolon 2 (Option.some Jvm.ClassFile.FieldType.boolean)) 0 := ⟨by decide +kernel, tw_532, tw_533, tw_2, tw_534⟩
set_option maxHeartbeats 4000000 in
set_option maxRecDepth 100000 in
theorem c_X9_takeSemicolon (l : Launch) (D : va_G) (ad : Nat → Nat) (ca : Nat → ClassId) (kz : Nat → Nat) (hJ : pInj ad) (n : Nat) (σ : PS) (out : Int32 × PS) (hF : F_X9_takeSemicolon n σ = some out) : Met l yX9_takeSemicolon (Cond.code yX9_takeSemicolon cX9_takeSemicolon 2 (Option.some Jvm.ClassFile.FieldType.boolean) :: gw_tbl) { frames := 1, cells := 0, slots := 0, locals := 22 } (va_Pc [.ref (ad (1))] (pU D ad ca kz σ)) (pQi D ad ca out) 0 0 (pAD ad) := by
  refine q_entry (own := "AskedCamp$Tape") hJ (by decide) rfl (Nat.le_of_ble_eq_true rfl) (fun p e s m below meth c C hr hlk => ?_)
  refine q_lv [(0, .ref (ad (1)))] rfl ?_
  rw [F_X9_takeSemicolon] at hF
  refine q_aload_n C 0 dX9_takeSemicolon_0 rfl rfl ?_
  refine qg_8_5 C pi_1 tw_50 dX9_takeSemicolon_1 ?_
  refine q_if_eq (tgt := 9) C dX9_takeSemicolon_4 (by decide) (fun c1 => ?_) (fun c1 => ?_)
  · replace hF := ift c1 hF
    refine q_aload_n C 0 dX9_takeSemicolon_9 rfl rfl ?_
    obtain ⟨q2, h3, hF⟩ := bnd hF
    try dsimp only at hF
    refine q_callVi C [] (c_X9_peek l D ad ca kz C.2.2.2.2.2.2.1 _ _ _ h3) tw_451 gm_X9_peek pi_1.1 (pe_8 pi_1.2) rfl ⟨rfl, rfl⟩ ⟨Nat.le_of_ble_eq_true rfl, Nat.le_of_ble_eq_true rfl⟩ rfl (Nat.le_of_ble_eq_true rfl) dX9_takeSemicolon_10 q00 ?_
    refine q_istore_n C [(1, .int q2.1), (0, .ref (ad (1)))] dX9_takeSemicolon_13 rfl (by decide) rfl ?_
    refine q_iload_n C 0 dX9_takeSemicolon_14 rfl rfl ?_
    refine q_bipush (v := 59) C dX9_takeSemicolon_15 (by decide) ?_
    refine q_icmp_ne (tgt := 32) C dX9_takeSemicolon_17 (by decide) (fun c4 => ?_) (fun c4 => ?_)
    · replace hF := ife c4 hF
      refine q_iload_n C 0 dX9_takeSemicolon_32 rfl rfl ?_
      refine q_iconst (v := -1) C dX9_takeSemicolon_33 (by decide) ?_
      refine q_icmp_eq (tgt := 46) C dX9_takeSemicolon_34 (by decide) (fun c5 => ?_) (fun c5 => ?_)
      · replace hF := ift c5 hF
        refine q_iconst (v := 0) C dX9_takeSemicolon_46 (by decide) ?_
        exact q_zret C hr hlk dX9_takeSemicolon_47 (by decide) hF
      · replace hF := ife c5 hF
        refine q_aload_n C 1 dX9_takeSemicolon_37 rfl rfl ?_
        refine q_aload_n C 1 dX9_takeSemicolon_38 rfl rfl ?_
        refine qg_8_2 C pi_1 tw_41 dX9_takeSemicolon_39 ?_
        refine q_iconst (v := 0) C dX9_takeSemicolon_42 (by decide) ?_
        obtain ⟨q6, h7, hF⟩ := bnd hF
        try dsimp only at hF
        refine q_callVv C [.int (q2.2.1 1 2), .int 0] (c_X9_fail l D ad ca kz C.2.2.2.2.2.2.1 _ _ _ _ _ h7) tw_522 gm_X9_fail pi_1.1 (pe_8 pi_1.2) rfl ⟨rfl, rfl⟩ ⟨Nat.le_of_ble_eq_true rfl, Nat.le_of_ble_eq_true rfl⟩ rfl (Nat.le_of_ble_eq_true rfl) dX9_takeSemicolon_43 q00 ?_
        refine q_iconst (v := 0) C dX9_takeSemicolon_46 (by decide) ?_
        exact q_zret C hr hlk dX9_takeSemicolon_47 (by decide) hF
    · replace hF := ift c4 hF
      refine q_aload_n C 1 dX9_takeSemicolon_20 rfl rfl ?_
      refine q_dup C dX9_takeSemicolon_21 rfl ?_
      refine qg_8_2 C pi_1 tw_41 dX9_takeSemicolon_22 ?_
      refine q_iconst (v := 1) C dX9_takeSemicolon_25 (by decide) ?_
      refine q_iadd C dX9_takeSemicolon_26 ?_
      refine qs_8_2 C pi_1 tw_41 dX9_takeSemicolon_27 ?_
      refine q_iconst (v := 1) C dX9_takeSemicolon_30 (by decide) ?_
      exact q_zret C hr hlk dX9_takeSemicolon_31 (by decide) hF
  · replace hF := ife c1 hF
    refine q_iconst (v := 0) C dX9_takeSemicolon_7 (by decide) ?_
    exact q_zret C hr hlk dX9_takeSemicolon_8 (by decide) hF
-- X1_read
def L_X1_read_13 (n : Nat) (a1 : Nat) : Nat → Int32 → PS → Option (Nat × PS)
  | 0, _, _ => none
  | k + 1, x2, σ => (if (41 : Int32) < x2 then some (1, σ) else (F_X1_readClause n a1 x2 σ).bind (fun q6 => (F_X9_takeSemicolon n q6).bind (fun q8 => (if q8.1 = 0 then some (0, q8.2) else L_X1_read_13 n a1 k (x2 + 1) q8.2))))
def F_X1_read (n : Nat) (a1 : Nat) (σ : PS) : Option (PS) := (F_X10_clear n a1 σ).bind (fun q1 => (F_X9_startReading n q1).bind (fun q3 => (L_X1_read_13 n a1 n (1 : Int32) q3).bind (fun o11 => (if o11.1 = 0 then some o11.2 else some o11.2))))
theorem gm_X1_read : gM "AskedCamp$CampReader" yX1_read (Cond.code yX1_read cX1_read 3 (Option.none : Option Jvm.ClassFile.FieldType)) 1 := ⟨by decide +kernel, tw_432, tw_433, tw_3, tw_434⟩
set_option maxHeartbeats 4000000 in
set_option maxRecDepth 100000 in
theorem l_X1_read_13 {p : Program} {l : Launch} {e : Env} {R : Room} {s : State} {m : MethodId} {args : Array Value} {below : List Frame} {meth : Method} {c : Code} {D : va_G} {ad : Nat → Nat} {ca : Nat → ClassId} {kz : Nat → Nat} {Q : State → Prop} (C : pC p s m args c cX1_read "AskedCamp$CampReader" 3 D ad ca kz) (hR : 6 ≤ R.frames ∧ 134 ≤ R.locals) {n : Nat} {a1 : Nat} (ha1 : pis a1 9) (o : Nat × PS) (hx0 : o.1 = 0 → PW p l e R s m args below meth c 3 D ad ca 0 0 Q (o.2) 35 [] []) (hx1 : o.1 = 1 → PW p l e R s m args below meth c 3 D ad ca 0 0 Q (o.2) 42 [] []) : ∀ (k : Nat) (x2 : Int32) (σ : PS), L_X1_read_13 n a1 k x2 σ = some o → PW p l e R s m args below meth c 3 D ad ca 0 0 Q σ 13 [(0, .ref (ad (3))), (1, .ref (ad (a1))), (2, .int x2)] [] := by
  intro k
  induction k with
  | zero => intro x2 σ hF; exact nomatch (show (none : Option (Nat × PS)) = some o from hF)
  | succ k ih =>
    intro x2 σ hF
    rw [L_X1_read_13] at hF
    refine q_iload_n C 2 dX1_read_13 rfl rfl ?_
    refine q_bipush (v := 41) C dX1_read_14 (by decide) ?_
    refine q_icmp_gt (tgt := 42) C dX1_read_16 (by decide) (fun c5 => ?_) (fun c5 => ?_)
    · replace hF := ift c5 hF
      cases hF
      refine q_sub [] rfl ?_
      exact hx1 rfl
    · replace hF := ife c5 hF
      refine q_aload_n C 0 dX1_read_19 rfl rfl ?_
      refine q_aload_n C 1 dX1_read_20 rfl rfl ?_
      refine q_iload_n C 2 dX1_read_21 rfl rfl ?_
      obtain ⟨q6, h7, hF⟩ := bnd hF
      try dsimp only at hF
      refine q_callVv C [.ref (ad (a1)), .int x2] (c_X1_readClause l D ad ca kz C.2.2.2.2.2.2.1 _ ha1 _ _ _ h7) tw_443 gm_X1_readClause pi_3.1 (pe_1 pi_3.2) rfl ⟨rfl, rfl⟩ ⟨Nat.le_trans (Nat.le_of_ble_eq_true rfl) hR.1, Nat.le_trans (Nat.le_of_ble_eq_true rfl) hR.2⟩ rfl (Nat.le_of_ble_eq_true rfl) dX1_read_22 q00 ?_
      refine q_aload_n C 0 dX1_read_25 rfl rfl ?_
      refine qg_1_0 C pi_3 tw_72 dX1_read_26 ?_
      obtain ⟨q8, h9, hF⟩ := bnd hF
      try dsimp only at hF
      refine q_callVi C [] (c_X9_takeSemicolon l D ad ca kz C.2.2.2.2.2.2.1 _ _ _ h9) tw_531 gm_X9_takeSemicolon pi_1.1 (pe_8 pi_1.2) rfl ⟨rfl, rfl⟩ ⟨Nat.le_trans (Nat.le_of_ble_eq_true rfl) hR.1, Nat.le_trans (Nat.le_of_ble_eq_true rfl) hR.2⟩ rfl (Nat.le_of_ble_eq_true rfl) dX1_read_29 q00 ?_
      refine q_if_ne (tgt := 36) C dX1_read_32 (by decide) (fun c10 => ?_) (fun c10 => ?_)
      · replace hF := ife c10 hF
        refine q_iinc C 2 [(2, .int (x2 + 1)), (0, .ref (ad (3))), (1, .ref (ad (a1)))] dX1_read_36 rfl rfl (by decide) rfl ?_
        refine q_goto (tgt := 13) C dX1_read_39 (by decide) ?_
        refine q_sub [1, 2, 0] rfl ?_
        exact ih _ _ hF
      · replace hF := ift c10 hF
        cases hF
        refine q_sub [] rfl ?_
        exact hx0 rfl
set_option maxHeartbeats 4000000 in
set_option maxRecDepth 100000 in
theorem c_X1_read (l : Launch) (D : va_G) (ad : Nat → Nat) (ca : Nat → ClassId) (kz : Nat → Nat) (hJ : pInj ad) (n : Nat) {a1 : Nat} (ha1 : pis a1 9) (σ : PS) (out : PS) (hF : F_X1_read n a1 σ = some out) : Met l yX1_read (Cond.code yX1_read cX1_read 3 (Option.none : Option Jvm.ClassFile.FieldType) :: gw_tbl) { frames := 6, cells := 0, slots := 0, locals := 134 } (va_Pc [.ref (ad (3)), .ref (ad (a1))] (pU D ad ca kz σ)) (pQv D ad ca out) 0 0 (pAD ad) := by
  refine q_entry (own := "AskedCamp$CampReader") hJ (by decide) rfl (Nat.le_of_ble_eq_true rfl) (fun p e s m below meth c C hr hlk => ?_)
  refine q_lv [(0, .ref (ad (3))), (1, .ref (ad (a1)))] rfl ?_
  rw [F_X1_read] at hF
  refine q_aload_n C 1 dX1_read_0 rfl rfl ?_
  obtain ⟨q1, h2, hF⟩ := bnd hF
  try dsimp only at hF
  refine q_callVv C [] (c_X10_clear l D ad ca kz C.2.2.2.2.2.2.1 _ ha1 _ _ h2) tw_435 gm_X10_clear ha1.1 (pe_9 ha1.2) rfl ⟨rfl, rfl⟩ ⟨Nat.le_of_ble_eq_true rfl, Nat.le_of_ble_eq_true rfl⟩ rfl (Nat.le_of_ble_eq_true rfl) dX1_read_1 q00 ?_
  refine q_aload_n C 0 dX1_read_4 rfl rfl ?_
  refine qg_1_0 C pi_3 tw_72 dX1_read_5 ?_
  obtain ⟨q3, h4, hF⟩ := bnd hF
  try dsimp only at hF
  refine q_callVv C [] (c_X9_startReading l D ad ca kz C.2.2.2.2.2.2.1 _ _ _ h4) tw_439 gm_X9_startReading pi_1.1 (pe_8 pi_1.2) rfl ⟨rfl, rfl⟩ ⟨Nat.le_of_ble_eq_true rfl, Nat.le_of_ble_eq_true rfl⟩ rfl (Nat.le_of_ble_eq_true rfl) dX1_read_8 q00 ?_
  refine q_iconst (v := 1) C dX1_read_11 (by decide) ?_
  refine q_istore_n C [(2, .int 1), (0, .ref (ad (3))), (1, .ref (ad (a1)))] dX1_read_12 rfl (by decide) rfl ?_
  obtain ⟨o11, h12, hF⟩ := bnd hF
  try dsimp only at hF
  refine q_sub [1, 2, 0] rfl ?_
  refine l_X1_read_13 C ⟨Nat.le_of_ble_eq_true rfl, Nat.le_of_ble_eq_true rfl⟩ ha1 o11 (fun eo11_0 => ?_) (fun eo11_1 => ?_) n _ _ h12
  · -- exit 0
    replace hF := ift eo11_0 hF
    exact q_vret C hr hlk dX1_read_35 hF
  · -- exit 1
    replace hF := ife (by rw [eo11_1]; decide) hF
    exact q_vret C hr hlk dX1_read_42 hF
-- X11_camp
def F_X11_camp (n : Nat) (σ : PS) : Option (Int32 × PS) := (F_X1_read n 217 σ).bind (fun q1 => (if ((psI q1 1 1 (0 : Int32)).1 1 5) = 0 then (F_X10_copyFrom n 19 217 (psI q1 1 1 (0 : Int32))).bind (fun q4 => (F_X10_copyFrom n 25 217 q4).bind (fun q6 => (F_X0_forget n (psI q6 18 4 (0 : Int32))).bind (fun q8 => some ((q8.1 217 5), q8)))) else some (((-2 : Int32) - ((psI q1 1 1 (0 : Int32)).1 1 5)), psI q1 1 1 (0 : Int32))))
theorem gm_X11_camp : gM "AskedCamp" yX11_camp (Cond.code yX11_camp cX11_camp 2 (Option.some Jvm.ClassFile.FieldType.int)) 0 := ⟨by decide +kernel, tw_428, tw_429, tw_1, tw_430⟩
set_option maxHeartbeats 4000000 in
set_option maxRecDepth 100000 in
theorem c_X11_camp (l : Launch) (D : va_G) (ad : Nat → Nat) (ca : Nat → ClassId) (kz : Nat → Nat) (hJ : pInj ad) (n : Nat) (σ : PS) (out : Int32 × PS) (hF : F_X11_camp n σ = some out) : Met l yX11_camp (Cond.code yX11_camp cX11_camp 2 (Option.some Jvm.ClassFile.FieldType.int) :: gw_tbl) { frames := 7, cells := 0, slots := 0, locals := 156 } (va_Pc [.ref (ad (0))] (pU D ad ca kz σ)) (pQi D ad ca out) 0 0 (pAD ad) := by
  refine q_entry (own := "AskedCamp") hJ (by decide) rfl (Nat.le_of_ble_eq_true rfl) (fun p e s m below meth c C hr hlk => ?_)
  refine q_lv [(0, .ref (ad (0)))] rfl ?_
  rw [F_X11_camp] at hF
  refine q_aload_n C 0 dX11_camp_0 rfl rfl ?_
  refine qg_10_7 C pi_0 tw_387 dX11_camp_1 ?_
  refine qg_2_0 C pi_216 tw_294 dX11_camp_4 ?_
  refine q_astore_n C [(1, .ref (ad (217))), (0, .ref (ad (0)))] dX11_camp_7 rfl (by decide) rfl ?_
  refine q_aload_n C 1 dX11_camp_8 rfl rfl ?_
  refine qg_10_1 C pi_0 tw_381 dX11_camp_9 ?_
  refine q_aload_n C 0 dX11_camp_12 rfl rfl ?_
  obtain ⟨q1, h2, hF⟩ := bnd hF
  try dsimp only at hF
  refine q_callVv C [.ref (ad (217))] (c_X1_read l D ad ca kz C.2.2.2.2.2.2.1 _ pi_217 _ _ h2) tw_431 gm_X1_read pi_3.1 (pe_1 pi_3.2) rfl ⟨rfl, rfl⟩ ⟨Nat.le_of_ble_eq_true rfl, Nat.le_of_ble_eq_true rfl⟩ rfl (Nat.le_of_ble_eq_true rfl) dX11_camp_13 q00 ?_
  refine q_aload_n C 1 dX11_camp_16 rfl rfl ?_
  refine qg_10_0 C pi_0 tw_380 dX11_camp_17 ?_
  refine q_iconst (v := 0) C dX11_camp_20 (by decide) ?_
  refine qs_8_1 C pi_1 tw_39 dX11_camp_21 ?_
  refine q_aload_n C 1 dX11_camp_24 rfl rfl ?_
  refine qg_10_0 C pi_0 tw_380 dX11_camp_25 ?_
  refine qg_8_5 C pi_1 tw_51 dX11_camp_28 ?_
  refine q_if_eq (tgt := 45) C dX11_camp_31 (by decide) (fun c3 => ?_) (fun c3 => ?_)
  · replace hF := ift c3 hF
    refine q_aload_n C 1 dX11_camp_45 rfl rfl ?_
    refine qg_10_4 C pi_0 tw_384 dX11_camp_46 ?_
    refine qg_5_0 C pi_18 tw_229 dX11_camp_49 ?_
    refine q_aload_n C 0 dX11_camp_52 rfl rfl ?_
    obtain ⟨q4, h5, hF⟩ := bnd hF
    try dsimp only at hF
    refine q_callVv C [.ref (ad (217))] (c_X10_copyFrom l D ad ca kz C.2.2.2.2.2.2.1 _ pi_19 pi_217 _ _ h5) tw_535 gm_X10_copyFrom pi_19.1 (pe_9 pi_19.2) rfl ⟨rfl, rfl⟩ ⟨Nat.le_of_ble_eq_true rfl, Nat.le_of_ble_eq_true rfl⟩ rfl (Nat.le_of_ble_eq_true rfl) dX11_camp_53 q00 ?_
    refine q_aload_n C 1 dX11_camp_56 rfl rfl ?_
    refine qg_10_4 C pi_0 tw_384 dX11_camp_57 ?_
    refine qg_5_1 C pi_18 tw_232 dX11_camp_60 ?_
    refine q_aload_n C 0 dX11_camp_63 rfl rfl ?_
    obtain ⟨q6, h7, hF⟩ := bnd hF
    try dsimp only at hF
    refine q_callVv C [.ref (ad (217))] (c_X10_copyFrom l D ad ca kz C.2.2.2.2.2.2.1 _ pi_25 pi_217 _ _ h7) tw_535 gm_X10_copyFrom pi_25.1 (pe_9 pi_25.2) rfl ⟨rfl, rfl⟩ ⟨Nat.le_of_ble_eq_true rfl, Nat.le_of_ble_eq_true rfl⟩ rfl (Nat.le_of_ble_eq_true rfl) dX11_camp_64 q00 ?_
    refine q_aload_n C 1 dX11_camp_67 rfl rfl ?_
    refine qg_10_4 C pi_0 tw_384 dX11_camp_68 ?_
    refine q_iconst (v := 0) C dX11_camp_71 (by decide) ?_
    refine qs_5_4 C pi_18 tw_239 dX11_camp_72 ?_
    refine q_aload_n C 1 dX11_camp_75 rfl rfl ?_
    refine qg_10_6 C pi_0 tw_386 dX11_camp_76 ?_
    obtain ⟨q8, h9, hF⟩ := bnd hF
    try dsimp only at hF
    refine q_callVv C [] (c_X0_forget l D ad ca kz C.2.2.2.2.2.2.1 _ _ _ h9) tw_542 gm_X0_forget pi_94.1 (pe_0 pi_94.2) rfl ⟨rfl, rfl⟩ ⟨Nat.le_of_ble_eq_true rfl, Nat.le_of_ble_eq_true rfl⟩ rfl (Nat.le_of_ble_eq_true rfl) dX11_camp_79 q00 ?_
    refine q_aload_n C 0 dX11_camp_82 rfl rfl ?_
    refine qg_9_5 C pi_217 tw_181 dX11_camp_83 ?_
    exact q_iret C hr hlk dX11_camp_86 hF
  · replace hF := ife c3 hF
    refine q_bipush (v := -2) C dX11_camp_34 (by decide) ?_
    refine q_aload_n C 1 dX11_camp_36 rfl rfl ?_
    refine qg_10_0 C pi_0 tw_380 dX11_camp_37 ?_
    refine qg_8_5 C pi_1 tw_51 dX11_camp_40 ?_
    refine q_isub C dX11_camp_43 ?_
    exact q_iret C hr hlk dX11_camp_44 hF
-- X11_cell
def F_X11_cell (n : Nat) (a1 : Int32) (a2 : Int32) (σ : PS) : Option (Int32 × PS) := (F_X10_hasCell n 25 a1 σ).bind (fun q1 => (if q1.1 = 0 then some ((-1 : Int32), q1.2) else (if a2 = (0 : Int32) then (F_X10_isFree n 25 a1 q1.2).bind (fun q5 => (if q5.1 = 0 then some ((1 : Int32), q5.2) else some ((0 : Int32), q5.2))) else (if a2 = (1 : Int32) then (if 0 ≤ a1 ∧ a1.toNatClampNeg < 36 then some ((q1.2.1 30 a1.toNatClampNeg), q1.2) else none) else (if a2 = (2 : Int32) then (F_X10_tentsOn n 25 a1 q1.2).bind (fun q11 => some (q11.1, q11.2)) else some ((-1 : Int32), q1.2))))))
theorem gm_X11_cell : gM "AskedCamp" yX11_cell (Cond.code yX11_cell cX11_cell 4 (Option.some Jvm.ClassFile.FieldType.int)) 2 := ⟨by decide +kernel, tw_668, tw_669, tw_1, tw_670⟩
set_option maxHeartbeats 4000000 in
set_option maxRecDepth 100000 in
theorem c_X11_cell (l : Launch) (D : va_G) (ad : Nat → Nat) (ca : Nat → ClassId) (kz : Nat → Nat) (hJ : pInj ad) (n : Nat) (a1 : Int32) (a2 : Int32) (σ : PS) (out : Int32 × PS) (hF : F_X11_cell n a1 a2 σ = some out) : Met l yX11_cell (Cond.code yX11_cell cX11_cell 4 (Option.some Jvm.ClassFile.FieldType.int) :: gw_tbl) { frames := 1, cells := 0, slots := 0, locals := 23 } (va_Pc [.ref (ad (0)), .int a1, .int a2] (pU D ad ca kz σ)) (pQi D ad ca out) 0 0 (pAD ad) := by
  refine q_entry (own := "AskedCamp") hJ (by decide) rfl (Nat.le_of_ble_eq_true rfl) (fun p e s m below meth c C hr hlk => ?_)
  refine q_lv [(0, .ref (ad (0))), (1, .int a1), (2, .int a2)] rfl ?_
  rw [F_X11_cell] at hF
  refine q_aload_n C 0 dX11_cell_0 rfl rfl ?_
  refine qg_10_4 C pi_0 tw_384 dX11_cell_1 ?_
  refine qg_5_1 C pi_18 tw_232 dX11_cell_4 ?_
  refine q_astore_n C [(3, .ref (ad (25))), (0, .ref (ad (0))), (1, .int a1), (2, .int a2)] dX11_cell_7 rfl (by decide) rfl ?_
  refine q_aload_n C 0 dX11_cell_8 rfl rfl ?_
  refine q_iload_n C 2 dX11_cell_9 rfl rfl ?_
  obtain ⟨q1, h2, hF⟩ := bnd hF
  try dsimp only at hF
  refine q_callVi C [.int a1] (c_X10_hasCell l D ad ca kz C.2.2.2.2.2.2.1 _ pi_25 _ _ _ h2) tw_671 gm_X10_hasCell pi_25.1 (pe_9 pi_25.2) rfl ⟨rfl, rfl⟩ ⟨Nat.le_of_ble_eq_true rfl, Nat.le_of_ble_eq_true rfl⟩ rfl (Nat.le_of_ble_eq_true rfl) dX11_cell_10 q00 ?_
  refine q_if_ne (tgt := 18) C dX11_cell_13 (by decide) (fun c3 => ?_) (fun c3 => ?_)
  · replace hF := ife c3 hF
    refine q_iload_n C 3 dX11_cell_18 rfl rfl ?_
    by_cases c4 : a2 = (0 : Int32)
    · replace hF := ift c4 hF
      refine q_tableIn (off := 25) (tgt := 44) C dX11_cell_19 (by rw [c4]; decide) (by rw [c4]; decide) (by rw [c4] <;> rfl) (by decide) ?_
      refine q_aload_n C 0 dX11_cell_44 rfl rfl ?_
      refine q_iload_n C 2 dX11_cell_45 rfl rfl ?_
      obtain ⟨q5, h6, hF⟩ := bnd hF
      try dsimp only at hF
      refine q_callVi C [.int a1] (c_X10_isFree l D ad ca kz C.2.2.2.2.2.2.1 _ pi_25 _ _ _ h6) tw_675 gm_X10_isFree pi_25.1 (pe_9 pi_25.2) rfl ⟨rfl, rfl⟩ ⟨Nat.le_of_ble_eq_true rfl, Nat.le_of_ble_eq_true rfl⟩ rfl (Nat.le_of_ble_eq_true rfl) dX11_cell_46 q00 ?_
      refine q_if_eq (tgt := 56) C dX11_cell_49 (by decide) (fun c7 => ?_) (fun c7 => ?_)
      · replace hF := ift c7 hF
        refine q_iconst (v := 1) C dX11_cell_56 (by decide) ?_
        exact q_iret C hr hlk dX11_cell_57 hF
      · replace hF := ife c7 hF
        refine q_iconst (v := 0) C dX11_cell_52 (by decide) ?_
        refine q_goto (tgt := 57) C dX11_cell_53 (by decide) ?_
        exact q_iret C hr hlk dX11_cell_57 hF
    replace hF := ife c4 hF
    by_cases c8 : a2 = (1 : Int32)
    · replace hF := ift c8 hF
      refine q_tableIn (off := 39) (tgt := 58) C dX11_cell_19 (by rw [c8]; decide) (by rw [c8]; decide) (by rw [c8] <;> rfl) (by decide) ?_
      refine q_aload_n C 0 dX11_cell_58 rfl rfl ?_
      refine qg_9_11 C pi_25 tw_201 dX11_cell_59 ?_
      refine q_iload_n C 2 dX11_cell_62 rfl rfl ?_
      obtain ⟨g9, hF⟩ := grd hF
      refine q_iald C pa_30 (vp_of g9) dX11_cell_63 ?_
      exact q_iret C hr hlk dX11_cell_64 hF
    replace hF := ife c8 hF
    by_cases c10 : a2 = (2 : Int32)
    · replace hF := ift c10 hF
      refine q_tableIn (off := 46) (tgt := 65) C dX11_cell_19 (by rw [c10]; decide) (by rw [c10]; decide) (by rw [c10] <;> rfl) (by decide) ?_
      refine q_aload_n C 0 dX11_cell_65 rfl rfl ?_
      refine q_iload_n C 2 dX11_cell_66 rfl rfl ?_
      obtain ⟨q11, h12, hF⟩ := bnd hF
      try dsimp only at hF
      refine q_callVi C [.int a1] (c_X10_tentsOn l D ad ca kz C.2.2.2.2.2.2.1 _ pi_25 _ _ _ h12) tw_679 gm_X10_tentsOn pi_25.1 (pe_9 pi_25.2) rfl ⟨rfl, rfl⟩ ⟨Nat.le_of_ble_eq_true rfl, Nat.le_of_ble_eq_true rfl⟩ rfl (Nat.le_of_ble_eq_true rfl) dX11_cell_67 q00 ?_
      exact q_iret C hr hlk dX11_cell_70 hF
    replace hF := ife c10 hF
    refine q_tableOut (tgt := 71) C dX11_cell_19 (by have ec4 := sw_ne c4; have ec8 := sw_ne c8; have ec10 := sw_ne c10; simp only [sw_lit] at ec4 ec8 ec10; omega) (by decide) ?_
    refine q_iconst (v := -1) C dX11_cell_71 (by decide) ?_
    exact q_iret C hr hlk dX11_cell_72 hF
  · replace hF := ift c3 hF
    refine q_iconst (v := -1) C dX11_cell_16 (by decide) ?_
    exact q_iret C hr hlk dX11_cell_17 hF
