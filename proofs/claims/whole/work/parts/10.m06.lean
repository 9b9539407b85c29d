-- X5_readSign
def F_X5_readSign (n : Nat) (σ : PS) : Option (Int32 × PS) := (if (σ.1 1 5) = 0 then (F_X9_peek n σ).bind (fun q2 => (F_X3_ofSign n q2.1 q2.2).bind (fun q4 => (if q4.1 = 0 then (F_X9_fail n (q2.2.1 1 2) (0 : Int32) q4.2).bind (fun q47 => some ((0 : Int32), q47)) else (if q4.1 = (-27 : Int32) then (if (0 : Int32) = 0 then (F_X5_countOne n (q2.2.1 1 2) (psI q4.2 1 2 ((q4.2.1 1 2) + (1 : Int32)))).bind (fun q9 => (if (0 : Int32) = 0 then some (q4.1, q9) else (if q4.1 = (-25 : Int32) then some ((-26 : Int32), q9) else some ((-28 : Int32), q9)))) else (F_X5_countOne n (q2.2.1 1 2) (psI (psI q4.2 1 2 ((q4.2.1 1 2) + (1 : Int32))) 1 2 (((psI q4.2 1 2 ((q4.2.1 1 2) + (1 : Int32))).1 1 2) + (1 : Int32)))).bind (fun q13 => (if (0 : Int32) = 0 then some (q4.1, q13) else (if q4.1 = (-25 : Int32) then some ((-26 : Int32), q13) else some ((-28 : Int32), q13))))) else (if ((psI q4.2 1 2 ((q4.2.1 1 2) + (1 : Int32))).1 1 1) ≤ ((psI q4.2 1 2 ((q4.2.1 1 2) + (1 : Int32))).1 1 2) then (if (0 : Int32) = 0 then (F_X5_countOne n (q2.2.1 1 2) (psI q4.2 1 2 ((q4.2.1 1 2) + (1 : Int32)))).bind (fun q19 => (if (0 : Int32) = 0 then some (q4.1, q19) else (if q4.1 = (-25 : Int32) then some ((-26 : Int32), q19) else some ((-28 : Int32), q19)))) else (F_X5_countOne n (q2.2.1 1 2) (psI (psI q4.2 1 2 ((q4.2.1 1 2) + (1 : Int32))) 1 2 (((psI q4.2 1 2 ((q4.2.1 1 2) + (1 : Int32))).1 1 2) + (1 : Int32)))).bind (fun q23 => (if (0 : Int32) = 0 then some (q4.1, q23) else (if q4.1 = (-25 : Int32) then some ((-26 : Int32), q23) else some ((-28 : Int32), q23))))) else (if 0 ≤ ((psI q4.2 1 2 ((q4.2.1 1 2) + (1 : Int32))).1 1 2) ∧ ((psI q4.2 1 2 ((q4.2.1 1 2) + (1 : Int32))).1 1 2).toNatClampNeg < 400 then (if ((psI q4.2 1 2 ((q4.2.1 1 2) + (1 : Int32))).1 2 (((psI q4.2 1 2 ((q4.2.1 1 2) + (1 : Int32))).1 1 2).toNatClampNeg)) = (61 : Int32) then (if (1 : Int32) = 0 then (F_X5_countOne n (q2.2.1 1 2) (psI q4.2 1 2 ((q4.2.1 1 2) + (1 : Int32)))).bind (fun q39 => (if (1 : Int32) = 0 then some (q4.1, q39) else (if q4.1 = (-25 : Int32) then some ((-26 : Int32), q39) else some ((-28 : Int32), q39)))) else (F_X5_countOne n (q2.2.1 1 2) (psI (psI q4.2 1 2 ((q4.2.1 1 2) + (1 : Int32))) 1 2 (((psI q4.2 1 2 ((q4.2.1 1 2) + (1 : Int32))).1 1 2) + (1 : Int32)))).bind (fun q43 => (if (1 : Int32) = 0 then some (q4.1, q43) else (if q4.1 = (-25 : Int32) then some ((-26 : Int32), q43) else some ((-28 : Int32), q43))))) else (if (0 : Int32) = 0 then (F_X5_countOne n (q2.2.1 1 2) (psI q4.2 1 2 ((q4.2.1 1 2) + (1 : Int32)))).bind (fun q30 => (if (0 : Int32) = 0 then some (q4.1, q30) else (if q4.1 = (-25 : Int32) then some ((-26 : Int32), q30) else some ((-28 : Int32), q30)))) else (F_X5_countOne n (q2.2.1 1 2) (psI (psI q4.2 1 2 ((q4.2.1 1 2) + (1 : Int32))) 1 2 (((psI q4.2 1 2 ((q4.2.1 1 2) + (1 : Int32))).1 1 2) + (1 : Int32)))).bind (fun q34 => (if (0 : Int32) = 0 then some (q4.1, q34) else (if q4.1 = (-25 : Int32) then some ((-26 : Int32), q34) else some ((-28 : Int32), q34)))))) else none)))))) else some ((0 : Int32), σ))
theorem gm_X5_readSign : gM "AskedCamp$RuleReader" yX5_readSign (Cond.code yX5_readSign cX5_readSign 5 (Option.some Jvm.ClassFile.FieldType.int)) 0 := ⟨by decide +kernel, tw_627, tw_p11, tw_4, tw_628⟩
set_option maxHeartbeats 4000000 in
set_option maxRecDepth 100000 in
theorem c_X5_readSign (l : Launch) (D : va_G) (ad : Nat → Nat) (ca : Nat → ClassId) (kz : Nat → Nat) (hJ : pInj ad) (n : Nat) (σ : PS) (out : Int32 × PS) (hF : F_X5_readSign n σ = some out) : Met l yX5_readSign (Cond.code yX5_readSign cX5_readSign 5 (Option.some Jvm.ClassFile.FieldType.int) :: gw_tbl) { frames := 2, cells := 0, slots := 0, locals := 43 } (va_Pc [.ref (ad (4))] (pU D ad ca kz σ)) (pQi D ad ca out) 0 0 (pAD ad) := by
  refine q_entry (own := "AskedCamp$RuleReader") hJ (by decide) rfl (Nat.le_of_ble_eq_true rfl) (fun p e s m below meth c C hr hlk => ?_)
  refine q_lv [(0, .ref (ad (4)))] rfl ?_
  rw [F_X5_readSign] at hF
  refine q_aload_n C 0 dX5_readSign_0 rfl rfl ?_
  refine qg_4_2 C pi_4 tw_86 dX5_readSign_1 ?_
  refine qg_8_5 C pi_1 tw_49 dX5_readSign_4 ?_
  refine q_if_eq (tgt := 12) C dX5_readSign_7 (by decide) (fun c1 => ?_) (fun c1 => ?_)
  · replace hF := ift c1 hF
    refine q_aload_n C 0 dX5_readSign_12 rfl rfl ?_
    refine qg_4_2 C pi_4 tw_86 dX5_readSign_13 ?_
    obtain ⟨q2, h3, hF⟩ := bnd hF
    try dsimp only at hF
    refine q_callVi C [] (c_X9_peek l D ad ca kz C.2.2.2.2.2.2.1 _ _ _ h3) tw_600 gm_X9_peek pi_1.1 (pe_8 pi_1.2) rfl ⟨rfl, rfl⟩ ⟨Nat.le_of_ble_eq_true rfl, Nat.le_of_ble_eq_true rfl⟩ rfl (Nat.le_of_ble_eq_true rfl) dX5_readSign_16 q00 ?_
    refine q_istore_n C [(1, .int q2.1), (0, .ref (ad (4)))] dX5_readSign_19 rfl (by decide) rfl ?_
    refine q_aload_n C 1 dX5_readSign_20 rfl rfl ?_
    refine qg_4_2 C pi_4 tw_86 dX5_readSign_21 ?_
    refine qg_8_2 C pi_1 tw_42 dX5_readSign_24 ?_
    refine q_istore_n C [(2, .int (q2.2.1 1 2)), (1, .int q2.1), (0, .ref (ad (4)))] dX5_readSign_27 rfl (by decide) rfl ?_
    refine q_iload_n C 1 dX5_readSign_28 rfl rfl ?_
    obtain ⟨q4, h5, hF⟩ := bnd hF
    try dsimp only at hF
    refine q_callSi C [.int q2.1] (c_X3_ofSign l D ad ca kz C.2.2.2.2.2.2.1 _ _ _ _ h5) tw_629 gm_X3_ofSign ⟨rfl, rfl⟩ ⟨Nat.le_of_ble_eq_true rfl, Nat.le_of_ble_eq_true rfl⟩ rfl (Nat.le_of_ble_eq_true rfl) dX5_readSign_29 q00 ?_
    refine q_istore_n C [(3, .int q4.1), (2, .int (q2.2.1 1 2)), (1, .int q2.1), (0, .ref (ad (4)))] dX5_readSign_32 rfl (by decide) rfl ?_
    refine q_iload_n C 0 dX5_readSign_33 rfl rfl ?_
    refine q_if_ne (tgt := 48) C dX5_readSign_34 (by decide) (fun c6 => ?_) (fun c6 => ?_)
    · replace hF := ife c6 hF
      refine q_aload_n C 3 dX5_readSign_48 rfl rfl ?_
      refine qg_4_2 C pi_4 tw_86 dX5_readSign_49 ?_
      refine q_dup C dX5_readSign_52 rfl ?_
      refine qg_8_2 C pi_1 tw_42 dX5_readSign_53 ?_
      refine q_iconst (v := 1) C dX5_readSign_56 (by decide) ?_
      refine q_iadd C dX5_readSign_57 ?_
      refine qs_8_2 C pi_1 tw_42 dX5_readSign_58 ?_
      refine q_iload_n C 0 dX5_readSign_61 rfl rfl ?_
      refine q_bipush (v := -27) C dX5_readSign_62 (by decide) ?_
      refine q_icmp_eq (tgt := 108) C dX5_readSign_64 (by decide) (fun c7 => ?_) (fun c7 => ?_)
      · replace hF := ift c7 hF
        refine q_iconst (v := 0) C dX5_readSign_108 (by decide) ?_
        refine q_istore C [(4, .int 0), (3, .int q4.1), (2, .int (q2.2.1 1 2)), (1, .int q2.1), (0, .ref (ad (4)))] dX5_readSign_109 (by decide) rfl ?_
        refine q_iload C 0 dX5_readSign_111 rfl ?_
        refine q_if_eq (tgt := 129) C dX5_readSign_113 (by decide) (fun c8 => ?_) (fun c8 => ?_)
        · replace hF := ift c8 hF
          refine q_aload_n C 4 dX5_readSign_129 rfl rfl ?_
          refine q_iload_n C 2 dX5_readSign_130 rfl rfl ?_
          obtain ⟨q9, h10, hF⟩ := bnd hF
          try dsimp only at hF
          refine q_callVv C [.int (q2.2.1 1 2)] (c_X5_countOne l D ad ca kz C.2.2.2.2.2.2.1 _ _ _ _ h10) tw_592 gm_X5_countOne pi_4.1 (pe_4 pi_4.2) rfl ⟨rfl, rfl⟩ ⟨Nat.le_of_ble_eq_true rfl, Nat.le_of_ble_eq_true rfl⟩ rfl (Nat.le_of_ble_eq_true rfl) dX5_readSign_131 q00 ?_
          refine q_iload C 0 dX5_readSign_134 rfl ?_
          refine q_if_ne (tgt := 141) C dX5_readSign_136 (by decide) (fun c11 => ?_) (fun c11 => ?_)
          · replace hF := ife c11 hF
            refine q_iload_n C 1 dX5_readSign_141 rfl rfl ?_
            refine q_bipush (v := -25) C dX5_readSign_142 (by decide) ?_
            refine q_icmp_ne (tgt := 152) C dX5_readSign_144 (by decide) (fun c12 => ?_) (fun c12 => ?_)
            · replace hF := ife c12 hF
              refine q_bipush (v := -28) C dX5_readSign_152 (by decide) ?_
              exact q_iret C hr hlk dX5_readSign_154 hF
            · replace hF := ift c12 hF
              refine q_bipush (v := -26) C dX5_readSign_147 (by decide) ?_
              refine q_goto (tgt := 154) C dX5_readSign_149 (by decide) ?_
              exact q_iret C hr hlk dX5_readSign_154 hF
          · replace hF := ift c11 hF
            refine q_iload_n C 1 dX5_readSign_139 rfl rfl ?_
            exact q_iret C hr hlk dX5_readSign_140 hF
        · replace hF := ife c8 hF
          refine q_aload_n C 4 dX5_readSign_116 rfl rfl ?_
          refine qg_4_2 C pi_4 tw_86 dX5_readSign_117 ?_
          refine q_dup C dX5_readSign_120 rfl ?_
          refine qg_8_2 C pi_1 tw_42 dX5_readSign_121 ?_
          refine q_iconst (v := 1) C dX5_readSign_124 (by decide) ?_
          refine q_iadd C dX5_readSign_125 ?_
          refine qs_8_2 C pi_1 tw_42 dX5_readSign_126 ?_
          refine q_aload_n C 4 dX5_readSign_129 rfl rfl ?_
          refine q_iload_n C 2 dX5_readSign_130 rfl rfl ?_
          obtain ⟨q13, h14, hF⟩ := bnd hF
          try dsimp only at hF
          refine q_callVv C [.int (q2.2.1 1 2)] (c_X5_countOne l D ad ca kz C.2.2.2.2.2.2.1 _ _ _ _ h14) tw_592 gm_X5_countOne pi_4.1 (pe_4 pi_4.2) rfl ⟨rfl, rfl⟩ ⟨Nat.le_of_ble_eq_true rfl, Nat.le_of_ble_eq_true rfl⟩ rfl (Nat.le_of_ble_eq_true rfl) dX5_readSign_131 q00 ?_
          refine q_iload C 0 dX5_readSign_134 rfl ?_
          refine q_if_ne (tgt := 141) C dX5_readSign_136 (by decide) (fun c15 => ?_) (fun c15 => ?_)
          · replace hF := ife c15 hF
            refine q_iload_n C 1 dX5_readSign_141 rfl rfl ?_
            refine q_bipush (v := -25) C dX5_readSign_142 (by decide) ?_
            refine q_icmp_ne (tgt := 152) C dX5_readSign_144 (by decide) (fun c16 => ?_) (fun c16 => ?_)
            · replace hF := ife c16 hF
              refine q_bipush (v := -28) C dX5_readSign_152 (by decide) ?_
              exact q_iret C hr hlk dX5_readSign_154 hF
            · replace hF := ift c16 hF
              refine q_bipush (v := -26) C dX5_readSign_147 (by decide) ?_
              refine q_goto (tgt := 154) C dX5_readSign_149 (by decide) ?_
              exact q_iret C hr hlk dX5_readSign_154 hF
          · replace hF := ift c15 hF
            refine q_iload_n C 1 dX5_readSign_139 rfl rfl ?_
            exact q_iret C hr hlk dX5_readSign_140 hF
      · replace hF := ife c7 hF
        refine q_aload_n C 3 dX5_readSign_67 rfl rfl ?_
        refine qg_4_2 C pi_4 tw_86 dX5_readSign_68 ?_
        refine qg_8_2 C pi_1 tw_42 dX5_readSign_71 ?_
        refine q_aload_n C 3 dX5_readSign_74 rfl rfl ?_
        refine qg_4_2 C pi_4 tw_86 dX5_readSign_75 ?_
        refine qg_8_1 C pi_1 tw_40 dX5_readSign_78 ?_
        refine q_icmp_ge (tgt := 108) C dX5_readSign_81 (by decide) (fun c17 => ?_) (fun c17 => ?_)
        · replace hF := ift c17 hF
          refine q_iconst (v := 0) C dX5_readSign_108 (by decide) ?_
          refine q_istore C [(4, .int 0), (3, .int q4.1), (2, .int (q2.2.1 1 2)), (1, .int q2.1), (0, .ref (ad (4)))] dX5_readSign_109 (by decide) rfl ?_
          refine q_iload C 0 dX5_readSign_111 rfl ?_
          refine q_if_eq (tgt := 129) C dX5_readSign_113 (by decide) (fun c18 => ?_) (fun c18 => ?_)
          · replace hF := ift c18 hF
            refine q_aload_n C 4 dX5_readSign_129 rfl rfl ?_
            refine q_iload_n C 2 dX5_readSign_130 rfl rfl ?_
            obtain ⟨q19, h20, hF⟩ := bnd hF
            try dsimp only at hF
            refine q_callVv C [.int (q2.2.1 1 2)] (c_X5_countOne l D ad ca kz C.2.2.2.2.2.2.1 _ _ _ _ h20) tw_592 gm_X5_countOne pi_4.1 (pe_4 pi_4.2) rfl ⟨rfl, rfl⟩ ⟨Nat.le_of_ble_eq_true rfl, Nat.le_of_ble_eq_true rfl⟩ rfl (Nat.le_of_ble_eq_true rfl) dX5_readSign_131 q00 ?_
            refine q_iload C 0 dX5_readSign_134 rfl ?_
            refine q_if_ne (tgt := 141) C dX5_readSign_136 (by decide) (fun c21 => ?_) (fun c21 => ?_)
            · replace hF := ife c21 hF
              refine q_iload_n C 1 dX5_readSign_141 rfl rfl ?_
              refine q_bipush (v := -25) C dX5_readSign_142 (by decide) ?_
              refine q_icmp_ne (tgt := 152) C dX5_readSign_144 (by decide) (fun c22 => ?_) (fun c22 => ?_)
              · replace hF := ife c22 hF
                refine q_bipush (v := -28) C dX5_readSign_152 (by decide) ?_
                exact q_iret C hr hlk dX5_readSign_154 hF
              · replace hF := ift c22 hF
                refine q_bipush (v := -26) C dX5_readSign_147 (by decide) ?_
                refine q_goto (tgt := 154) C dX5_readSign_149 (by decide) ?_
                exact q_iret C hr hlk dX5_readSign_154 hF
            · replace hF := ift c21 hF
              refine q_iload_n C 1 dX5_readSign_139 rfl rfl ?_
              exact q_iret C hr hlk dX5_readSign_140 hF
          · replace hF := ife c18 hF
            refine q_aload_n C 4 dX5_readSign_116 rfl rfl ?_
            refine qg_4_2 C pi_4 tw_86 dX5_readSign_117 ?_
            refine q_dup C dX5_readSign_120 rfl ?_
            refine qg_8_2 C pi_1 tw_42 dX5_readSign_121 ?_
            refine q_iconst (v := 1) C dX5_readSign_124 (by decide) ?_
            refine q_iadd C dX5_readSign_125 ?_
            refine qs_8_2 C pi_1 tw_42 dX5_readSign_126 ?_
            refine q_aload_n C 4 dX5_readSign_129 rfl rfl ?_
            refine q_iload_n C 2 dX5_readSign_130 rfl rfl ?_
            obtain ⟨q23, h24, hF⟩ := bnd hF
            try dsimp only at hF
            refine q_callVv C [.int (q2.2.1 1 2)] (c_X5_countOne l D ad ca kz C.2.2.2.2.2.2.1 _ _ _ _ h24) tw_592 gm_X5_countOne pi_4.1 (pe_4 pi_4.2) rfl ⟨rfl, rfl⟩ ⟨Nat.le_of_ble_eq_true rfl, Nat.le_of_ble_eq_true rfl⟩ rfl (Nat.le_of_ble_eq_true rfl) dX5_readSign_131 q00 ?_
            refine q_iload C 0 dX5_readSign_134 rfl ?_
            refine q_if_ne (tgt := 141) C dX5_readSign_136 (by decide) (fun c25 => ?_) (fun c25 => ?_)
            · replace hF := ife c25 hF
              refine q_iload_n C 1 dX5_readSign_141 rfl rfl ?_
              refine q_bipush (v := -25) C dX5_readSign_142 (by decide) ?_
              refine q_icmp_ne (tgt := 152) C dX5_readSign_144 (by decide) (fun c26 => ?_) (fun c26 => ?_)
              · replace hF := ife c26 hF
                refine q_bipush (v := -28) C dX5_readSign_152 (by decide) ?_
                exact q_iret C hr hlk dX5_readSign_154 hF
              · replace hF := ift c26 hF
                refine q_bipush (v := -26) C dX5_readSign_147 (by decide) ?_
                refine q_goto (tgt := 154) C dX5_readSign_149 (by decide) ?_
                exact q_iret C hr hlk dX5_readSign_154 hF
            · replace hF := ift c25 hF
              refine q_iload_n C 1 dX5_readSign_139 rfl rfl ?_
              exact q_iret C hr hlk dX5_readSign_140 hF
        · replace hF := ife c17 hF
          refine q_aload_n C 3 dX5_readSign_84 rfl rfl ?_
          refine qg_4_2 C pi_4 tw_86 dX5_readSign_85 ?_
          refine qg_8_0 C pi_1 tw_37 dX5_readSign_88 ?_
          refine q_aload_n C 3 dX5_readSign_91 rfl rfl ?_
          refine qg_4_2 C pi_4 tw_86 dX5_readSign_92 ?_
          refine qg_8_2 C pi_1 tw_42 dX5_readSign_95 ?_
          obtain ⟨g27, hF⟩ := grd hF
          refine q_bald C pa_2 (vp_of g27) dX5_readSign_98 ?_
          refine q_bipush (v := 61) C dX5_readSign_99 (by decide) ?_
          refine q_icmp_ne (tgt := 108) C dX5_readSign_101 (by decide) (fun c28 => ?_) (fun c28 => ?_)
          · replace hF := ife c28 hF
            refine q_iconst (v := 0) C dX5_readSign_108 (by decide) ?_
            refine q_istore C [(4, .int 0), (3, .int q4.1), (2, .int (q2.2.1 1 2)), (1, .int q2.1), (0, .ref (ad (4)))] dX5_readSign_109 (by decide) rfl ?_
            refine q_iload C 0 dX5_readSign_111 rfl ?_
            refine q_if_eq (tgt := 129) C dX5_readSign_113 (by decide) (fun c29 => ?_) (fun c29 => ?_)
            · replace hF := ift c29 hF
              refine q_aload_n C 4 dX5_readSign_129 rfl rfl ?_
              refine q_iload_n C 2 dX5_readSign_130 rfl rfl ?_
              obtain ⟨q30, h31, hF⟩ := bnd hF
              try dsimp only at hF
              refine q_callVv C [.int (q2.2.1 1 2)] (c_X5_countOne l D ad ca kz C.2.2.2.2.2.2.1 _ _ _ _ h31) tw_592 gm_X5_countOne pi_4.1 (pe_4 pi_4.2) rfl ⟨rfl, rfl⟩ ⟨Nat.le_of_ble_eq_true rfl, Nat.le_of_ble_eq_true rfl⟩ rfl (Nat.le_of_ble_eq_true rfl) dX5_readSign_131 q00 ?_
              refine q_iload C 0 dX5_readSign_134 rfl ?_
              refine q_if_ne (tgt := 141) C dX5_readSign_136 (by decide) (fun c32 => ?_) (fun c32 => ?_)
              · replace hF := ife c32 hF
                refine q_iload_n C 1 dX5_readSign_141 rfl rfl ?_
                refine q_bipush (v := -25) C dX5_readSign_142 (by decide) ?_
                refine q_icmp_ne (tgt := 152) C dX5_readSign_144 (by decide) (fun c33 => ?_) (fun c33 => ?_)
                · replace hF := ife c33 hF
                  refine q_bipush (v := -28) C dX5_readSign_152 (by decide) ?_
                  exact q_iret C hr hlk dX5_readSign_154 hF
                · replace hF := ift c33 hF
                  refine q_bipush (v := -26) C dX5_readSign_147 (by decide) ?_
                  refine q_goto (tgt := 154) C dX5_readSign_149 (by decide) ?_
                  exact q_iret C hr hlk dX5_readSign_154 hF
              · replace hF := ift c32 hF
                refine q_iload_n C 1 dX5_readSign_139 rfl rfl ?_
                exact q_iret C hr hlk dX5_readSign_140 hF
            · replace hF := ife c29 hF
              refine q_aload_n C 4 dX5_readSign_116 rfl rfl ?_
              refine qg_4_2 C pi_4 tw_86 dX5_readSign_117 ?_
              refine q_dup C dX5_readSign_120 rfl ?_
              refine qg_8_2 C pi_1 tw_42 dX5_readSign_121 ?_
              refine q_iconst (v := 1) C dX5_readSign_124 (by decide) ?_
              refine q_iadd C dX5_readSign_125 ?_
              refine qs_8_2 C pi_1 tw_42 dX5_readSign_126 ?_
              refine q_aload_n C 4 dX5_readSign_129 rfl rfl ?_
              refine q_iload_n C 2 dX5_readSign_130 rfl rfl ?_
              obtain ⟨q34, h35, hF⟩ := bnd hF
              try dsimp only at hF
              refine q_callVv C [.int (q2.2.1 1 2)] (c_X5_countOne l D ad ca kz C.2.2.2.2.2.2.1 _ _ _ _ h35) tw_592 gm_X5_countOne pi_4.1 (pe_4 pi_4.2) rfl ⟨rfl, rfl⟩ ⟨Nat.le_of_ble_eq_true rfl, Nat.le_of_ble_eq_true rfl⟩ rfl (Nat.le_of_ble_eq_true rfl) dX5_readSign_131 q00 ?_
              refine q_iload C 0 dX5_readSign_134 rfl ?_
              refine q_if_ne (tgt := 141) C dX5_readSign_136 (by decide) (fun c36 => ?_) (fun c36 => ?_)
              · replace hF := ife c36 hF
                refine q_iload_n C 1 dX5_readSign_141 rfl rfl ?_
                refine q_bipush (v := -25) C dX5_readSign_142 (by decide) ?_
                refine q_icmp_ne (tgt := 152) C dX5_readSign_144 (by decide) (fun c37 => ?_) (fun c37 => ?_)
                · replace hF := ife c37 hF
                  refine q_bipush (v := -28) C dX5_readSign_152 (by decide) ?_
                  exact q_iret C hr hlk dX5_readSign_154 hF
                · replace hF := ift c37 hF
                  refine q_bipush (v := -26) C dX5_readSign_147 (by decide) ?_
                  refine q_goto (tgt := 154) C dX5_readSign_149 (by decide) ?_
                  exact q_iret C hr hlk dX5_readSign_154 hF
              · replace hF := ift c36 hF
                refine q_iload_n C 1 dX5_readSign_139 rfl rfl ?_
                exact q_iret C hr hlk dX5_readSign_140 hF
          · replace hF := ift c28 hF
            refine q_iconst (v := 1) C dX5_readSign_104 (by decide) ?_
            refine q_goto (tgt := 109) C dX5_readSign_105 (by decide) ?_
            refine q_istore C [(4, .int 1), (3, .int q4.1), (2, .int (q2.2.1 1 2)), (1, .int q2.1), (0, .ref (ad (4)))] dX5_readSign_109 (by decide) rfl ?_
            refine q_iload C 0 dX5_readSign_111 rfl ?_
            refine q_if_eq (tgt := 129) C dX5_readSign_113 (by decide) (fun c38 => ?_) (fun c38 => ?_)
            · replace hF := ift c38 hF
              refine q_aload_n C 4 dX5_readSign_129 rfl rfl ?_
              refine q_iload_n C 2 dX5_readSign_130 rfl rfl ?_
              obtain ⟨q39, h40, hF⟩ := bnd hF
              try dsimp only at hF
              refine q_callVv C [.int (q2.2.1 1 2)] (c_X5_countOne l D ad ca kz C.2.2.2.2.2.2.1 _ _ _ _ h40) tw_592 gm_X5_countOne pi_4.1 (pe_4 pi_4.2) rfl ⟨rfl, rfl⟩ ⟨Nat.le_of_ble_eq_true rfl, Nat.le_of_ble_eq_true rfl⟩ rfl (Nat.le_of_ble_eq_true rfl) dX5_readSign_131 q00 ?_
              refine q_iload C 0 dX5_readSign_134 rfl ?_
              refine q_if_ne (tgt := 141) C dX5_readSign_136 (by decide) (fun c41 => ?_) (fun c41 => ?_)
              · replace hF := ife c41 hF
                refine q_iload_n C 1 dX5_readSign_141 rfl rfl ?_
                refine q_bipush (v := -25) C dX5_readSign_142 (by decide) ?_
                refine q_icmp_ne (tgt := 152) C dX5_readSign_144 (by decide) (fun c42 => ?_) (fun c42 => ?_)
                · replace hF := ife c42 hF
                  refine q_bipush (v := -28) C dX5_readSign_152 (by decide) ?_
                  exact q_iret C hr hlk dX5_readSign_154 hF
                · replace hF := ift c42 hF
                  refine q_bipush (v := -26) C dX5_readSign_147 (by decide) ?_
                  refine q_goto (tgt := 154) C dX5_readSign_149 (by decide) ?_
                  exact q_iret C hr hlk dX5_readSign_154 hF
              · replace hF := ift c41 hF
                refine q_iload_n C 1 dX5_readSign_139 rfl rfl ?_
                exact q_iret C hr hlk dX5_readSign_140 hF
            · replace hF := ife c38 hF
              refine q_aload_n C 4 dX5_readSign_116 rfl rfl ?_
              refine qg_4_2 C pi_4 tw_86 dX5_readSign_117 ?_
              refine q_dup C dX5_readSign_120 rfl ?_
              refine qg_8_2 C pi_1 tw_42 dX5_readSign_121 ?_
              refine q_iconst (v := 1) C dX5_readSign_124 (by decide) ?_
              refine q_iadd C dX5_readSign_125 ?_
              refine qs_8_2 C pi_1 tw_42 dX5_readSign_126 ?_
              refine q_aload_n C 4 dX5_readSign_129 rfl rfl ?_
              refine q_iload_n C 2 dX5_readSign_130 rfl rfl ?_
              obtain ⟨q43, h44, hF⟩ := bnd hF
              try dsimp only at hF
              refine q_callVv C [.int (q2.2.1 1 2)] (c_X5_countOne l D ad ca kz C.2.2.2.2.2.2.1 _ _ _ _ h44) tw_592 gm_X5_countOne pi_4.1 (pe_4 pi_4.2) rfl ⟨rfl, rfl⟩ ⟨Nat.le_of_ble_eq_true rfl, Nat.le_of_ble_eq_true rfl⟩ rfl (Nat.le_of_ble_eq_true rfl) dX5_readSign_131 q00 ?_
              refine q_iload C 0 dX5_readSign_134 rfl ?_
              refine q_if_ne (tgt := 141) C dX5_readSign_136 (by decide) (fun c45 => ?_) (fun c45 => ?_)
              · replace hF := ife c45 hF
                refine q_iload_n C 1 dX5_readSign_141 rfl rfl ?_
                refine q_bipush (v := -25) C dX5_readSign_142 (by decide) ?_
                refine q_icmp_ne (tgt := 152) C dX5_readSign_144 (by decide) (fun c46 => ?_) (fun c46 => ?_)
                · replace hF := ife c46 hF
                  refine q_bipush (v := -28) C dX5_readSign_152 (by decide) ?_
                  exact q_iret C hr hlk dX5_readSign_154 hF
                · replace hF := ift c46 hF
                  refine q_bipush (v := -26) C dX5_readSign_147 (by decide) ?_
                  refine q_goto (tgt := 154) C dX5_readSign_149 (by decide) ?_
                  exact q_iret C hr hlk dX5_readSign_154 hF
              · replace hF := ift c45 hF
                refine q_iload_n C 1 dX5_readSign_139 rfl rfl ?_
                exact q_iret C hr hlk dX5_readSign_140 hF
    · replace hF := ift c6 hF
      refine q_aload_n C 3 dX5_readSign_37 rfl rfl ?_
      refine qg_4_2 C pi_4 tw_86 dX5_readSign_38 ?_
      refine q_iload_n C 1 dX5_readSign_41 rfl rfl ?_
      refine q_iconst (v := 0) C dX5_readSign_42 (by decide) ?_
      obtain ⟨q47, h48, hF⟩ := bnd hF
      try dsimp only at hF
      refine q_callVv C [.int (q2.2.1 1 2), .int 0] (c_X9_fail l D ad ca kz C.2.2.2.2.2.2.1 _ _ _ _ _ h48) tw_562 gm_X9_fail pi_1.1 (pe_8 pi_1.2) rfl ⟨rfl, rfl⟩ ⟨Nat.le_of_ble_eq_true rfl, Nat.le_of_ble_eq_true rfl⟩ rfl (Nat.le_of_ble_eq_true rfl) dX5_readSign_43 q00 ?_
      refine q_iconst (v := 0) C dX5_readSign_46 (by decide) ?_
      exact q_iret C hr hlk dX5_readSign_47 hF
  · replace hF := ife c1 hF
    refine q_iconst (v := 0) C dX5_readSign_10 (by decide) ?_
    exact q_iret C hr hlk dX5_readSign_11 hF
-- X5_readTest
def L_X5_readTest_19 (n : Nat) : Nat → Int32 → Int32 → PS → Option (PS)
  | 0, _, _, _ => none
  | k + 1, x1, x2, σ => (if x1 = 0 then some σ else (if (400 : Int32) ≤ x2 then some σ else (F_X5_openFact n σ).bind (fun q3 => (F_X5_readSum n q3).bind (fun q5 => (F_X5_readSign n q5).bind (fun q7 => (F_X5_readSum n q7.2).bind (fun q9 => (F_X5_emit n q7.1 q9).bind (fun q11 => (if (q11.1 1 5) = 0 then (F_X5_closeFact n q11).bind (fun q14 => (if q14.1 = 0 then L_X5_readTest_19 n k (0 : Int32) (x2 + 1) q14.2 else L_X5_readTest_19 n k (1 : Int32) (x2 + 1) q14.2)) else L_X5_readTest_19 n k (0 : Int32) (x2 + 1) q11))))))))
def F_X5_readTest (n : Nat) (σ : PS) : Option (PS) := (L_X5_readTest_19 n n (1 : Int32) (0 : Int32) (psI (psI (psI σ 4 4 (0 : Int32)) 4 5 (0 : Int32)) 4 6 (0 : Int32))).bind (fun o17 => some o17)
theorem gm_X5_readTest : gM "AskedCamp$RuleReader" yX5_readTest (Cond.code yX5_readTest cX5_readTest 4 (Option.none : Option Jvm.ClassFile.FieldType)) 0 := ⟨by decide +kernel, tw_610, tw_p7, tw_4, tw_611⟩
set_option maxHeartbeats 4000000 in
set_option maxRecDepth 100000 in
theorem l_X5_readTest_19 {p : Program} {l : Launch} {e : Env} {R : Room} {s : State} {m : MethodId} {args : Array Value} {below : List Frame} {meth : Method} {c : Code} {D : va_G} {ad : Nat → Nat} {ca : Nat → ClassId} {kz : Nat → Nat} {Q : State → Prop} (C : pC p s m args c cX5_readTest "AskedCamp$RuleReader" 4 D ad ca kz) (hR : 8 ≤ R.frames ∧ 175 ≤ R.locals) {n : Nat} (o : PS) (hx0 : PW p l e R s m args below meth c 4 D ad ca 0 0 Q (o) 81 [] []) : ∀ (k : Nat) (x1 : Int32) (x2 : Int32) (σ : PS), L_X5_readTest_19 n k x1 x2 σ = some o → PW p l e R s m args below meth c 4 D ad ca 0 0 Q σ 19 [(0, .ref (ad (4))), (1, .int x1), (2, .int x2)] [] := by
  intro k
  induction k with
  | zero => intro x1 x2 σ hF; exact nomatch (show (none : Option (PS)) = some o from hF)
  | succ k ih =>
    intro x1 x2 σ hF
    rw [L_X5_readTest_19] at hF
    refine q_iload_n C 1 dX5_readTest_19 rfl rfl ?_
    refine q_if_eq (tgt := 81) C dX5_readTest_20 (by decide) (fun c1 => ?_) (fun c1 => ?_)
    · replace hF := ift c1 hF
      cases hF
      refine q_sub [] rfl ?_
      exact hx0
    · replace hF := ife c1 hF
      refine q_iload_n C 2 dX5_readTest_23 rfl rfl ?_
      refine q_sipush (v := 400) C dX5_readTest_24 (by decide) ?_
      refine q_icmp_ge (tgt := 81) C dX5_readTest_27 (by decide) (fun c2 => ?_) (fun c2 => ?_)
      · replace hF := ift c2 hF
        cases hF
        refine q_sub [] rfl ?_
        exact hx0
      · replace hF := ife c2 hF
        refine q_aload_n C 0 dX5_readTest_30 rfl rfl ?_
        obtain ⟨q3, h4, hF⟩ := bnd hF
        try dsimp only at hF
        refine q_callVv C [] (c_X5_openFact l D ad ca kz C.2.2.2.2.2.2.1 _ _ _ h4) tw_612 gm_X5_openFact pi_4.1 (pe_4 pi_4.2) rfl ⟨rfl, rfl⟩ ⟨Nat.le_trans (Nat.le_of_ble_eq_true rfl) hR.1, Nat.le_trans (Nat.le_of_ble_eq_true rfl) hR.2⟩ rfl (Nat.le_of_ble_eq_true rfl) dX5_readTest_31 q00 ?_
        refine q_aload_n C 0 dX5_readTest_34 rfl rfl ?_
        obtain ⟨q5, h6, hF⟩ := bnd hF
        try dsimp only at hF
        refine q_callVv C [] (c_X5_readSum l D ad ca kz C.2.2.2.2.2.2.1 _ _ _ h6) tw_563 gm_X5_readSum pi_4.1 (pe_4 pi_4.2) rfl ⟨rfl, rfl⟩ ⟨Nat.le_trans (Nat.le_of_ble_eq_true rfl) hR.1, Nat.le_trans (Nat.le_of_ble_eq_true rfl) hR.2⟩ rfl (Nat.le_of_ble_eq_true rfl) dX5_readTest_35 q00 ?_
        refine q_aload_n C 0 dX5_readTest_38 rfl rfl ?_
        obtain ⟨q7, h8, hF⟩ := bnd hF
        try dsimp only at hF
        refine q_callVi C [] (c_X5_readSign l D ad ca kz C.2.2.2.2.2.2.1 _ _ _ h8) tw_625 gm_X5_readSign pi_4.1 (pe_4 pi_4.2) rfl ⟨rfl, rfl⟩ ⟨Nat.le_trans (Nat.le_of_ble_eq_true rfl) hR.1, Nat.le_trans (Nat.le_of_ble_eq_true rfl) hR.2⟩ rfl (Nat.le_of_ble_eq_true rfl) dX5_readTest_39 q00 ?_
        refine q_istore_n C [(3, .int q7.1), (0, .ref (ad (4))), (1, .int x1), (2, .int x2)] dX5_readTest_42 rfl (by decide) rfl ?_
        refine q_aload_n C 1 dX5_readTest_43 rfl rfl ?_
        obtain ⟨q9, h10, hF⟩ := bnd hF
        try dsimp only at hF
        refine q_callVv C [] (c_X5_readSum l D ad ca kz C.2.2.2.2.2.2.1 _ _ _ h10) tw_563 gm_X5_readSum pi_4.1 (pe_4 pi_4.2) rfl ⟨rfl, rfl⟩ ⟨Nat.le_trans (Nat.le_of_ble_eq_true rfl) hR.1, Nat.le_trans (Nat.le_of_ble_eq_true rfl) hR.2⟩ rfl (Nat.le_of_ble_eq_true rfl) dX5_readTest_44 q00 ?_
        refine q_aload_n C 1 dX5_readTest_47 rfl rfl ?_
        refine q_iload_n C 0 dX5_readTest_48 rfl rfl ?_
        obtain ⟨q11, h12, hF⟩ := bnd hF
        try dsimp only at hF
        refine q_callVv C [.int q7.1] (c_X5_emit l D ad ca kz C.2.2.2.2.2.2.1 _ _ _ _ h12) tw_596 gm_X5_emit pi_4.1 (pe_4 pi_4.2) rfl ⟨rfl, rfl⟩ ⟨Nat.le_trans (Nat.le_of_ble_eq_true rfl) hR.1, Nat.le_trans (Nat.le_of_ble_eq_true rfl) hR.2⟩ rfl (Nat.le_of_ble_eq_true rfl) dX5_readTest_49 q00 ?_
        refine q_aload_n C 1 dX5_readTest_52 rfl rfl ?_
        refine qg_4_2 C pi_4 tw_86 dX5_readTest_53 ?_
        refine qg_8_5 C pi_1 tw_49 dX5_readTest_56 ?_
        refine q_if_ne (tgt := 73) C dX5_readTest_59 (by decide) (fun c13 => ?_) (fun c13 => ?_)
        · replace hF := ife c13 hF
          refine q_iconst (v := 0) C dX5_readTest_73 (by decide) ?_
          refine q_istore_n C [(1, .int 0), (3, .int q7.1), (0, .ref (ad (4))), (2, .int x2)] dX5_readTest_74 rfl (by decide) rfl ?_
          refine q_iinc C 3 [(2, .int (x2 + 1)), (1, .int 0), (3, .int q7.1), (0, .ref (ad (4)))] dX5_readTest_75 rfl rfl (by decide) rfl ?_
          refine q_goto (tgt := 19) C dX5_readTest_78 (by decide) ?_
          refine q_sub [3, 1, 0] rfl ?_
          exact ih _ _ _ hF
        · replace hF := ift c13 hF
          refine q_aload_n C 1 dX5_readTest_62 rfl rfl ?_
          obtain ⟨q14, h15, hF⟩ := bnd hF
          try dsimp only at hF
          refine q_callVi C [] (c_X5_closeFact l D ad ca kz C.2.2.2.2.2.2.1 _ _ _ h15) tw_632 gm_X5_closeFact pi_4.1 (pe_4 pi_4.2) rfl ⟨rfl, rfl⟩ ⟨Nat.le_trans (Nat.le_of_ble_eq_true rfl) hR.1, Nat.le_trans (Nat.le_of_ble_eq_true rfl) hR.2⟩ rfl (Nat.le_of_ble_eq_true rfl) dX5_readTest_63 q00 ?_
          refine q_if_eq (tgt := 73) C dX5_readTest_66 (by decide) (fun c16 => ?_) (fun c16 => ?_)
          · replace hF := ift c16 hF
            refine q_iconst (v := 0) C dX5_readTest_73 (by decide) ?_
            refine q_istore_n C [(1, .int 0), (3, .int q7.1), (0, .ref (ad (4))), (2, .int x2)] dX5_readTest_74 rfl (by decide) rfl ?_
            refine q_iinc C 3 [(2, .int (x2 + 1)), (1, .int 0), (3, .int q7.1), (0, .ref (ad (4)))] dX5_readTest_75 rfl rfl (by decide) rfl ?_
            refine q_goto (tgt := 19) C dX5_readTest_78 (by decide) ?_
            refine q_sub [3, 1, 0] rfl ?_
            exact ih _ _ _ hF
          · replace hF := ife c16 hF
            refine q_iconst (v := 1) C dX5_readTest_69 (by decide) ?_
            refine q_goto (tgt := 74) C dX5_readTest_70 (by decide) ?_
            refine q_istore_n C [(1, .int 1), (3, .int q7.1), (0, .ref (ad (4))), (2, .int x2)] dX5_readTest_74 rfl (by decide) rfl ?_
            refine q_iinc C 3 [(2, .int (x2 + 1)), (1, .int 1), (3, .int q7.1), (0, .ref (ad (4)))] dX5_readTest_75 rfl rfl (by decide) rfl ?_
            refine q_goto (tgt := 19) C dX5_readTest_78 (by decide) ?_
            refine q_sub [3, 1, 0] rfl ?_
            exact ih _ _ _ hF
set_option maxHeartbeats 4000000 in
set_option maxRecDepth 100000 in
theorem c_X5_readTest (l : Launch) (D : va_G) (ad : Nat → Nat) (ca : Nat → ClassId) (kz : Nat → Nat) (hJ : pInj ad) (n : Nat) (σ : PS) (out : PS) (hF : F_X5_readTest n σ = some out) : Met l yX5_readTest (Cond.code yX5_readTest cX5_readTest 4 (Option.none : Option Jvm.ClassFile.FieldType) :: gw_tbl) { frames := 8, cells := 0, slots := 0, locals := 175 } (va_Pc [.ref (ad (4))] (pU D ad ca kz σ)) (pQv D ad ca out) 0 0 (pAD ad) := by
  refine q_entry (own := "AskedCamp$RuleReader") hJ (by decide) rfl (Nat.le_of_ble_eq_true rfl) (fun p e s m below meth c C hr hlk => ?_)
  refine q_lv [(0, .ref (ad (4)))] rfl ?_
  rw [F_X5_readTest] at hF
  refine q_aload_n C 0 dX5_readTest_0 rfl rfl ?_
  refine q_iconst (v := 0) C dX5_readTest_1 (by decide) ?_
  refine qs_4_4 C pi_4 tw_88 dX5_readTest_2 ?_
  refine q_aload_n C 0 dX5_readTest_5 rfl rfl ?_
  refine q_iconst (v := 0) C dX5_readTest_6 (by decide) ?_
  refine qs_4_5 C pi_4 tw_89 dX5_readTest_7 ?_
  refine q_aload_n C 0 dX5_readTest_10 rfl rfl ?_
  refine q_iconst (v := 0) C dX5_readTest_11 (by decide) ?_
  refine qs_4_6 C pi_4 tw_90 dX5_readTest_12 ?_
  refine q_iconst (v := 1) C dX5_readTest_15 (by decide) ?_
  refine q_istore_n C [(1, .int 1), (0, .ref (ad (4)))] dX5_readTest_16 rfl (by decide) rfl ?_
  refine q_iconst (v := 0) C dX5_readTest_17 (by decide) ?_
  refine q_istore_n C [(2, .int 0), (1, .int 1), (0, .ref (ad (4)))] dX5_readTest_18 rfl (by decide) rfl ?_
  obtain ⟨o17, h18, hF⟩ := bnd hF
  try dsimp only at hF
  refine q_sub [2, 1, 0] rfl ?_
  refine l_X5_readTest_19 C ⟨Nat.le_of_ble_eq_true rfl, Nat.le_of_ble_eq_true rfl⟩ o17 ?_ n _ _ _ h18
  exact q_vret C hr hlk dX5_readTest_81 hF
-- X5_read
def L_X5_read_19 (n : Nat) : Nat → Int32 → PS → Option (Nat × PS)
  | 0, _, _ => none
  | k + 1, x1, σ => (if (13 : Int32) < x1 then some (1, σ) else (F_X9_takeWord n σ).bind (fun q4 => (F_X9_wordIs n 3 q4).bind (fun q6 => (if q6.1 = 0 then (F_X9_fail n (q6.2.1 1 3) (0 : Int32) q6.2).bind (fun q54 => (F_X5_readSum n q54).bind (fun q56 => (F_X9_takeWord n q56).bind (fun q58 => (F_X9_wordIs n 4 q58).bind (fun q60 => (if q60.1 = 0 then (F_X9_putWordBack n q60.2).bind (fun q63 => (F_X5_emit n (-40 : Int32) q63).bind (fun q65 => (F_X9_takeSemicolon n q65).bind (fun q67 => (if q67.1 = 0 then some (0, q67.2) else L_X5_read_19 n k (x1 + 1) q67.2)))) else (F_X5_readTest n q60.2).bind (fun q70 => (F_X5_emit n (-41 : Int32) q70).bind (fun q72 => (F_X9_takeSemicolon n q72).bind (fun q74 => (if q74.1 = 0 then some (0, q74.2) else L_X5_read_19 n k (x1 + 1) q74.2))))))))) else (if x1 ≤ (12 : Int32) then (F_X5_readSum n q6.2).bind (fun q10 => (F_X9_takeWord n q10).bind (fun q12 => (F_X9_wordIs n 4 q12).bind (fun q14 => (if q14.1 = 0 then (F_X9_putWordBack n q14.2).bind (fun q17 => (F_X5_emit n (-40 : Int32) q17).bind (fun q19 => (F_X9_takeSemicolon n q19).bind (fun q21 => (if q21.1 = 0 then some (0, q21.2) else L_X5_read_19 n k (x1 + 1) q21.2)))) else (F_X5_readTest n q14.2).bind (fun q24 => (F_X5_emit n (-41 : Int32) q24).bind (fun q26 => (F_X9_takeSemicolon n q26).bind (fun q28 => (if q28.1 = 0 then some (0, q28.2) else L_X5_read_19 n k (x1 + 1) q28.2)))))))) else (F_X9_fail n (q6.2.1 1 3) (4 : Int32) q6.2).bind (fun q31 => (F_X5_readSum n q31).bind (fun q33 => (F_X9_takeWord n q33).bind (fun q35 => (F_X9_wordIs n 4 q35).bind (fun q37 => (if q37.1 = 0 then (F_X9_putWordBack n q37.2).bind (fun q40 => (F_X5_emit n (-40 : Int32) q40).bind (fun q42 => (F_X9_takeSemicolon n q42).bind (fun q44 => (if q44.1 = 0 then some (0, q44.2) else L_X5_read_19 n k (x1 + 1) q44.2)))) else (F_X5_readTest n q37.2).bind (fun q47 => (F_X5_emit n (-41 : Int32) q47).bind (fun q49 => (F_X9_takeSemicolon n q49).bind (fun q51 => (if q51.1 = 0 then some (0, q51.2) else L_X5_read_19 n k (x1 + 1) q51.2))))))))))))))
def F_X5_read (n : Nat) (σ : PS) : Option (PS) := (F_X9_startReading n (psI (psI σ 4 1 (0 : Int32)) 4 7 (0 : Int32))).bind (fun q1 => (L_X5_read_19 n n (1 : Int32) q1).bind (fun o77 => (if o77.1 = 0 then some o77.2 else some o77.2)))
theorem gm_X5_read : gM "AskedCamp$RuleReader" yX5_read (Cond.code yX5_read cX5_read 2 (Option.none : Option Jvm.ClassFile.FieldType)) 0 := ⟨by decide +kernel, tw_555, tw_556, tw_4, tw_557⟩
set_option maxHeartbeats 4000000 in
set_option maxRecDepth 100000 in
theorem l_X5_read_19 {p : Program} {l : Launch} {e : Env} {R : Room} {s : State} {m : MethodId} {args : Array Value} {below : List Frame} {meth : Method} {c : Code} {D : va_G} {ad : Nat → Nat} {ca : Nat → ClassId} {kz : Nat → Nat} {Q : State → Prop} (C : pC p s m args c cX5_read "AskedCamp$RuleReader" 2 D ad ca kz) (hR : 9 ≤ R.frames ∧ 198 ≤ R.locals) {n : Nat} (o : Nat × PS) (hx0 : o.1 = 0 → PW p l e R s m args below meth c 2 D ad ca 0 0 Q (o.2) 142 [] []) (hx1 : o.1 = 1 → PW p l e R s m args below meth c 2 D ad ca 0 0 Q (o.2) 149 [] []) : ∀ (k : Nat) (x1 : Int32) (σ : PS), L_X5_read_19 n k x1 σ = some o → PW p l e R s m args below meth c 2 D ad ca 0 0 Q σ 19 [(0, .ref (ad (4))), (1, .int x1)] [] := by
  intro k
  induction k with
  | zero => intro x1 σ hF; exact nomatch (show (none : Option (Nat × PS)) = some o from hF)
  | succ k ih =>
    intro x1 σ hF
    rw [L_X5_read_19] at hF
    refine q_iload_n C 1 dX5_read_19 rfl rfl ?_
    refine q_bipush (v := 13) C dX5_read_20 (by decide) ?_
    refine q_icmp_gt (tgt := 149) C dX5_read_22 (by decide) (fun c3 => ?_) (fun c3 => ?_)
    · replace hF := ift c3 hF
      cases hF
      refine q_sub [] rfl ?_
      exact hx1 rfl
    · replace hF := ife c3 hF
      refine q_aload_n C 0 dX5_read_25 rfl rfl ?_
      refine qg_4_2 C pi_4 tw_86 dX5_read_26 ?_
      obtain ⟨q4, h5, hF⟩ := bnd hF
      try dsimp only at hF
      refine q_callVv C [] (c_X9_takeWord l D ad ca kz C.2.2.2.2.2.2.1 _ _ _ h5) tw_559 gm_X9_takeWord pi_1.1 (pe_8 pi_1.2) rfl ⟨rfl, rfl⟩ ⟨Nat.le_trans (Nat.le_of_ble_eq_true rfl) hR.1, Nat.le_trans (Nat.le_of_ble_eq_true rfl) hR.2⟩ rfl (Nat.le_of_ble_eq_true rfl) dX5_read_29 q00 ?_
      refine q_aload_n C 0 dX5_read_32 rfl rfl ?_
      refine qg_4_2 C pi_4 tw_86 dX5_read_33 ?_
      refine q_str3 C dX5_read_36 ?_
      obtain ⟨q6, h7, hF⟩ := bnd hF
      try dsimp only at hF
      refine q_callVi C [.ref (kz (10 + 3))] (c_X9_wordIs l D ad ca kz C.2.2.2.2.2.2.1 _ (by decide) _ _ h7) tw_561 gm_X9_wordIs pi_1.1 (pe_8 pi_1.2) rfl ⟨rfl, rfl⟩ ⟨Nat.le_trans (Nat.le_of_ble_eq_true rfl) hR.1, Nat.le_trans (Nat.le_of_ble_eq_true rfl) hR.2⟩ rfl (Nat.le_of_ble_eq_true rfl) dX5_read_38 q00 ?_
      refine q_if_ne (tgt := 62) C dX5_read_41 (by decide) (fun c8 => ?_) (fun c8 => ?_)
      · replace hF := ife c8 hF
        refine q_iload_n C 1 dX5_read_62 rfl rfl ?_
        refine q_bipush (v := 12) C dX5_read_63 (by decide) ?_
        refine q_icmp_le (tgt := 83) C dX5_read_65 (by decide) (fun c9 => ?_) (fun c9 => ?_)
        · replace hF := ift c9 hF
          refine q_aload_n C 0 dX5_read_83 rfl rfl ?_
          obtain ⟨q10, h11, hF⟩ := bnd hF
          try dsimp only at hF
          refine q_callVv C [] (c_X5_readSum l D ad ca kz C.2.2.2.2.2.2.1 _ _ _ h11) tw_563 gm_X5_readSum pi_4.1 (pe_4 pi_4.2) rfl ⟨rfl, rfl⟩ ⟨Nat.le_trans (Nat.le_of_ble_eq_true rfl) hR.1, Nat.le_trans (Nat.le_of_ble_eq_true rfl) hR.2⟩ rfl (Nat.le_of_ble_eq_true rfl) dX5_read_84 q00 ?_
          refine q_aload_n C 0 dX5_read_87 rfl rfl ?_
          refine qg_4_2 C pi_4 tw_86 dX5_read_88 ?_
          obtain ⟨q12, h13, hF⟩ := bnd hF
          try dsimp only at hF
          refine q_callVv C [] (c_X9_takeWord l D ad ca kz C.2.2.2.2.2.2.1 _ _ _ h13) tw_559 gm_X9_takeWord pi_1.1 (pe_8 pi_1.2) rfl ⟨rfl, rfl⟩ ⟨Nat.le_trans (Nat.le_of_ble_eq_true rfl) hR.1, Nat.le_trans (Nat.le_of_ble_eq_true rfl) hR.2⟩ rfl (Nat.le_of_ble_eq_true rfl) dX5_read_91 q00 ?_
          refine q_aload_n C 0 dX5_read_94 rfl rfl ?_
          refine qg_4_2 C pi_4 tw_86 dX5_read_95 ?_
          refine q_str15 C dX5_read_98 ?_
          obtain ⟨q14, h15, hF⟩ := bnd hF
          try dsimp only at hF
          refine q_callVi C [.ref (kz (10 + 4))] (c_X9_wordIs l D ad ca kz C.2.2.2.2.2.2.1 _ (by decide) _ _ h15) tw_561 gm_X9_wordIs pi_1.1 (pe_8 pi_1.2) rfl ⟨rfl, rfl⟩ ⟨Nat.le_trans (Nat.le_of_ble_eq_true rfl) hR.1, Nat.le_trans (Nat.le_of_ble_eq_true rfl) hR.2⟩ rfl (Nat.le_of_ble_eq_true rfl) dX5_read_100 q00 ?_
          refine q_if_eq (tgt := 119) C dX5_read_103 (by decide) (fun c16 => ?_) (fun c16 => ?_)
          · replace hF := ift c16 hF
            refine q_aload_n C 0 dX5_read_119 rfl rfl ?_
            refine qg_4_2 C pi_4 tw_86 dX5_read_120 ?_
            obtain ⟨q17, h18, hF⟩ := bnd hF
            try dsimp only at hF
            refine q_callVv C [] (c_X9_putWordBack l D ad ca kz C.2.2.2.2.2.2.1 _ _ _ h18) tw_586 gm_X9_putWordBack pi_1.1 (pe_8 pi_1.2) rfl ⟨rfl, rfl⟩ ⟨Nat.le_trans (Nat.le_of_ble_eq_true rfl) hR.1, Nat.le_trans (Nat.le_of_ble_eq_true rfl) hR.2⟩ rfl (Nat.le_of_ble_eq_true rfl) dX5_read_123 q00 ?_
            refine q_aload_n C 0 dX5_read_126 rfl rfl ?_
            refine q_bipush (v := -40) C dX5_read_127 (by decide) ?_
            obtain ⟨q19, h20, hF⟩ := bnd hF
            try dsimp only at hF
            refine q_callVv C [.int (-40)] (c_X5_emit l D ad ca kz C.2.2.2.2.2.2.1 _ _ _ _ h20) tw_596 gm_X5_emit pi_4.1 (pe_4 pi_4.2) rfl ⟨rfl, rfl⟩ ⟨Nat.le_trans (Nat.le_of_ble_eq_true rfl) hR.1, Nat.le_trans (Nat.le_of_ble_eq_true rfl) hR.2⟩ rfl (Nat.le_of_ble_eq_true rfl) dX5_read_129 q00 ?_
            refine q_aload_n C 0 dX5_read_132 rfl rfl ?_
            refine qg_4_2 C pi_4 tw_86 dX5_read_133 ?_
            obtain ⟨q21, h22, hF⟩ := bnd hF
            try dsimp only at hF
            refine q_callVi C [] (c_X9_takeSemicolon l D ad ca kz C.2.2.2.2.2.2.1 _ _ _ h22) tw_645 gm_X9_takeSemicolon pi_1.1 (pe_8 pi_1.2) rfl ⟨rfl, rfl⟩ ⟨Nat.le_trans (Nat.le_of_ble_eq_true rfl) hR.1, Nat.le_trans (Nat.le_of_ble_eq_true rfl) hR.2⟩ rfl (Nat.le_of_ble_eq_true rfl) dX5_read_136 q00 ?_
            refine q_if_ne (tgt := 143) C dX5_read_139 (by decide) (fun c23 => ?_) (fun c23 => ?_)
            · replace hF := ife c23 hF
              refine q_iinc C 1 [(1, .int (x1 + 1)), (0, .ref (ad (4)))] dX5_read_143 rfl rfl (by decide) rfl ?_
              refine q_goto (tgt := 19) C dX5_read_146 (by decide) ?_
              refine q_sub [1, 0] rfl ?_
              exact ih _ _ hF
            · replace hF := ift c23 hF
              cases hF
              refine q_sub [] rfl ?_
              exact hx0 rfl
          · replace hF := ife c16 hF
            refine q_aload_n C 0 dX5_read_106 rfl rfl ?_
            obtain ⟨q24, h25, hF⟩ := bnd hF
            try dsimp only at hF
            refine q_callVv C [] (c_X5_readTest l D ad ca kz C.2.2.2.2.2.2.1 _ _ _ h25) tw_608 gm_X5_readTest pi_4.1 (pe_4 pi_4.2) rfl ⟨rfl, rfl⟩ ⟨Nat.le_trans (Nat.le_of_ble_eq_true rfl) hR.1, Nat.le_trans (Nat.le_of_ble_eq_true rfl) hR.2⟩ rfl (Nat.le_of_ble_eq_true rfl) dX5_read_107 q00 ?_
            refine q_aload_n C 0 dX5_read_110 rfl rfl ?_
            refine q_bipush (v := -41) C dX5_read_111 (by decide) ?_
            obtain ⟨q26, h27, hF⟩ := bnd hF
            try dsimp only at hF
            refine q_callVv C [.int (-41)] (c_X5_emit l D ad ca kz C.2.2.2.2.2.2.1 _ _ _ _ h27) tw_596 gm_X5_emit pi_4.1 (pe_4 pi_4.2) rfl ⟨rfl, rfl⟩ ⟨Nat.le_trans (Nat.le_of_ble_eq_true rfl) hR.1, Nat.le_trans (Nat.le_of_ble_eq_true rfl) hR.2⟩ rfl (Nat.le_of_ble_eq_true rfl) dX5_read_113 q00 ?_
            refine q_goto (tgt := 132) C dX5_read_116 (by decide) ?_
            refine q_aload_n C 0 dX5_read_132 rfl rfl ?_
            refine qg_4_2 C pi_4 tw_86 dX5_read_133 ?_
            obtain ⟨q28, h29, hF⟩ := bnd hF
            try dsimp only at hF
            refine q_callVi C [] (c_X9_takeSemicolon l D ad ca kz C.2.2.2.2.2.2.1 _ _ _ h29) tw_645 gm_X9_takeSemicolon pi_1.1 (pe_8 pi_1.2) rfl ⟨rfl, rfl⟩ ⟨Nat.le_trans (Nat.le_of_ble_eq_true rfl) hR.1, Nat.le_trans (Nat.le_of_ble_eq_true rfl) hR.2⟩ rfl (Nat.le_of_ble_eq_true rfl) dX5_read_136 q00 ?_
            refine q_if_ne (tgt := 143) C dX5_read_139 (by decide) (fun c30 => ?_) (fun c30 => ?_)
            · replace hF := ife c30 hF
              refine q_iinc C 1 [(1, .int (x1 + 1)), (0, .ref (ad (4)))] dX5_read_143 rfl rfl (by decide) rfl ?_
              refine q_goto (tgt := 19) C dX5_read_146 (by decide) ?_
              refine q_sub [1, 0] rfl ?_
              exact ih _ _ hF
            · replace hF := ift c30 hF
              cases hF
              refine q_sub [] rfl ?_
              exact hx0 rfl
        · replace hF := ife c9 hF
          refine q_aload_n C 0 dX5_read_68 rfl rfl ?_
          refine qg_4_2 C pi_4 tw_86 dX5_read_69 ?_
          refine q_aload_n C 0 dX5_read_72 rfl rfl ?_
          refine qg_4_2 C pi_4 tw_86 dX5_read_73 ?_
          refine qg_8_3 C pi_1 tw_43 dX5_read_76 ?_
          refine q_iconst (v := 4) C dX5_read_79 (by decide) ?_
          obtain ⟨q31, h32, hF⟩ := bnd hF
          try dsimp only at hF
          refine q_callVv C [.int (q6.2.1 1 3), .int 4] (c_X9_fail l D ad ca kz C.2.2.2.2.2.2.1 _ _ _ _ _ h32) tw_562 gm_X9_fail pi_1.1 (pe_8 pi_1.2) rfl ⟨rfl, rfl⟩ ⟨Nat.le_trans (Nat.le_of_ble_eq_true rfl) hR.1, Nat.le_trans (Nat.le_of_ble_eq_true rfl) hR.2⟩ rfl (Nat.le_of_ble_eq_true rfl) dX5_read_80 q00 ?_
          refine q_aload_n C 0 dX5_read_83 rfl rfl ?_
          obtain ⟨q33, h34, hF⟩ := bnd hF
          try dsimp only at hF
          refine q_callVv C [] (c_X5_readSum l D ad ca kz C.2.2.2.2.2.2.1 _ _ _ h34) tw_563 gm_X5_readSum pi_4.1 (pe_4 pi_4.2) rfl ⟨rfl, rfl⟩ ⟨Nat.le_trans (Nat.le_of_ble_eq_true rfl) hR.1, Nat.le_trans (Nat.le_of_ble_eq_true rfl) hR.2⟩ rfl (Nat.le_of_ble_eq_true rfl) dX5_read_84 q00 ?_
          refine q_aload_n C 0 dX5_read_87 rfl rfl ?_
          refine qg_4_2 C pi_4 tw_86 dX5_read_88 ?_
          obtain ⟨q35, h36, hF⟩ := bnd hF
          try dsimp only at hF
          refine q_callVv C [] (c_X9_takeWord l D ad ca kz C.2.2.2.2.2.2.1 _ _ _ h36) tw_559 gm_X9_takeWord pi_1.1 (pe_8 pi_1.2) rfl ⟨rfl, rfl⟩ ⟨Nat.le_trans (Nat.le_of_ble_eq_true rfl) hR.1, Nat.le_trans (Nat.le_of_ble_eq_true rfl) hR.2⟩ rfl (Nat.le_of_ble_eq_true rfl) dX5_read_91 q00 ?_
          refine q_aload_n C 0 dX5_read_94 rfl rfl ?_
          refine qg_4_2 C pi_4 tw_86 dX5_read_95 ?_
          refine q_str15 C dX5_read_98 ?_
          obtain ⟨q37, h38, hF⟩ := bnd hF
          try dsimp only at hF
          refine q_callVi C [.ref (kz (10 + 4))] (c_X9_wordIs l D ad ca kz C.2.2.2.2.2.2.1 _ (by decide) _ _ h38) tw_561 gm_X9_wordIs pi_1.1 (pe_8 pi_1.2) rfl ⟨rfl, rfl⟩ ⟨Nat.le_trans (Nat.le_of_ble_eq_true rfl) hR.1, Nat.le_trans (Nat.le_of_ble_eq_true rfl) hR.2⟩ rfl (Nat.le_of_ble_eq_true rfl) dX5_read_100 q00 ?_
          refine q_if_eq (tgt := 119) C dX5_read_103 (by decide) (fun c39 => ?_) (fun c39 => ?_)
          · replace hF := ift c39 hF
            refine q_aload_n C 0 dX5_read_119 rfl rfl ?_
            refine qg_4_2 C pi_4 tw_86 dX5_read_120 ?_
            obtain ⟨q40, h41, hF⟩ := bnd hF
            try dsimp only at hF
            refine q_callVv C [] (c_X9_putWordBack l D ad ca kz C.2.2.2.2.2.2.1 _ _ _ h41) tw_586 gm_X9_putWordBack pi_1.1 (pe_8 pi_1.2) rfl ⟨rfl, rfl⟩ ⟨Nat.le_trans (Nat.le_of_ble_eq_true rfl) hR.1, Nat.le_trans (Nat.le_of_ble_eq_true rfl) hR.2⟩ rfl (Nat.le_of_ble_eq_true rfl) dX5_read_123 q00 ?_
            refine q_aload_n C 0 dX5_read_126 rfl rfl ?_
            refine q_bipush (v := -40) C dX5_read_127 (by decide) ?_
            obtain ⟨q42, h43, hF⟩ := bnd hF
            try dsimp only at hF
            refine q_callVv C [.int (-40)] (c_X5_emit l D ad ca kz C.2.2.2.2.2.2.1 _ _ _ _ h43) tw_596 gm_X5_emit pi_4.1 (pe_4 pi_4.2) rfl ⟨rfl, rfl⟩ ⟨Nat.le_trans (Nat.le_of_ble_eq_true rfl) hR.1, Nat.le_trans (Nat.le_of_ble_eq_true rfl) hR.2⟩ rfl (Nat.le_of_ble_eq_true rfl) dX5_read_129 q00 ?_
            refine q_aload_n C 0 dX5_read_132 rfl rfl ?_
            refine qg_4_2 C pi_4 tw_86 dX5_read_133 ?_
            obtain ⟨q44, h45, hF⟩ := bnd hF
            try dsimp only at hF
            refine q_callVi C [] (c_X9_takeSemicolon l D ad ca kz C.2.2.2.2.2.2.1 _ _ _ h45) tw_645 gm_X9_takeSemicolon pi_1.1 (pe_8 pi_1.2) rfl ⟨rfl, rfl⟩ ⟨Nat.le_trans (Nat.le_of_ble_eq_true rfl) hR.1, Nat.le_trans (Nat.le_of_ble_eq_true rfl) hR.2⟩ rfl (Nat.le_of_ble_eq_true rfl) dX5_read_136 q00 ?_
            refine q_if_ne (tgt := 143) C dX5_read_139 (by decide) (fun c46 => ?_) (fun c46 => ?_)
            · replace hF := ife c46 hF
              refine q_iinc C 1 [(1, .int (x1 + 1)), (0, .ref (ad (4)))] dX5_read_143 rfl rfl (by decide) rfl ?_
              refine q_goto (tgt := 19) C dX5_read_146 (by decide) ?_
              refine q_sub [1, 0] rfl ?_
              exact ih _ _ hF
            · replace hF := ift c46 hF
              cases hF
              refine q_sub [] rfl ?_
              exact hx0 rfl
          · replace hF := ife c39 hF
            refine q_aload_n C 0 dX5_read_106 rfl rfl ?_
            obtain ⟨q47, h48, hF⟩ := bnd hF
            try dsimp only at hF
            refine q_callVv C [] (c_X5_readTest l D ad ca kz C.2.2.2.2.2.2.1 _ _ _ h48) tw_608 gm_X5_readTest pi_4.1 (pe_4 pi_4.2) rfl ⟨rfl, rfl⟩ ⟨Nat.le_trans (Nat.le_of_ble_eq_true rfl) hR.1, Nat.le_trans (Nat.le_of_ble_eq_true rfl) hR.2⟩ rfl (Nat.le_of_ble_eq_true rfl) dX5_read_107 q00 ?_
            refine q_aload_n C 0 dX5_read_110 rfl rfl ?_
            refine q_bipush (v := -41) C dX5_read_111 (by decide) ?_
            obtain ⟨q49, h50, hF⟩ := bnd hF
            try dsimp only at hF
            refine q_callVv C [.int (-41)] (c_X5_emit l D ad ca kz C.2.2.2.2.2.2.1 _ _ _ _ h50) tw_596 gm_X5_emit pi_4.1 (pe_4 pi_4.2) rfl ⟨rfl, rfl⟩ ⟨Nat.le_trans (Nat.le_of_ble_eq_true rfl) hR.1, Nat.le_trans (Nat.le_of_ble_eq_true rfl) hR.2⟩ rfl (Nat.le_of_ble_eq_true rfl) dX5_read_113 q00 ?_
            refine q_goto (tgt := 132) C dX5_read_116 (by decide) ?_
            refine q_aload_n C 0 dX5_read_132 rfl rfl ?_
            refine qg_4_2 C pi_4 tw_86 dX5_read_133 ?_
            obtain ⟨q51, h52, hF⟩ := bnd hF
            try dsimp only at hF
            refine q_callVi C [] (c_X9_takeSemicolon l D ad ca kz C.2.2.2.2.2.2.1 _ _ _ h52) tw_645 gm_X9_takeSemicolon pi_1.1 (pe_8 pi_1.2) rfl ⟨rfl, rfl⟩ ⟨Nat.le_trans (Nat.le_of_ble_eq_true rfl) hR.1, Nat.le_trans (Nat.le_of_ble_eq_true rfl) hR.2⟩ rfl (Nat.le_of_ble_eq_true rfl) dX5_read_136 q00 ?_
            refine q_if_ne (tgt := 143) C dX5_read_139 (by decide) (fun c53 => ?_) (fun c53 => ?_)
            · replace hF := ife c53 hF
              refine q_iinc C 1 [(1, .int (x1 + 1)), (0, .ref (ad (4)))] dX5_read_143 rfl rfl (by decide) rfl ?_
              refine q_goto (tgt := 19) C dX5_read_146 (by decide) ?_
              refine q_sub [1, 0] rfl ?_
              exact ih _ _ hF
            · replace hF := ift c53 hF
              cases hF
              refine q_sub [] rfl ?_
              exact hx0 rfl
      · replace hF := ift c8 hF
        refine q_aload_n C 0 dX5_read_44 rfl rfl ?_
        refine qg_4_2 C pi_4 tw_86 dX5_read_45 ?_
        refine q_aload_n C 0 dX5_read_48 rfl rfl ?_
        refine qg_4_2 C pi_4 tw_86 dX5_read_49 ?_
        refine qg_8_3 C pi_1 tw_43 dX5_read_52 ?_
        refine q_iconst (v := 0) C dX5_read_55 (by decide) ?_
        obtain ⟨q54, h55, hF⟩ := bnd hF
        try dsimp only at hF
        refine q_callVv C [.int (q6.2.1 1 3), .int 0] (c_X9_fail l D ad ca kz C.2.2.2.2.2.2.1 _ _ _ _ _ h55) tw_562 gm_X9_fail pi_1.1 (pe_8 pi_1.2) rfl ⟨rfl, rfl⟩ ⟨Nat.le_trans (Nat.le_of_ble_eq_true rfl) hR.1, Nat.le_trans (Nat.le_of_ble_eq_true rfl) hR.2⟩ rfl (Nat.le_of_ble_eq_true rfl) dX5_read_56 q00 ?_
        refine q_goto (tgt := 83) C dX5_read_59 (by decide) ?_
        refine q_aload_n C 0 dX5_read_83 rfl rfl ?_
        obtain ⟨q56, h57, hF⟩ := bnd hF
        try dsimp only at hF
        refine q_callVv C [] (c_X5_readSum l D ad ca kz C.2.2.2.2.2.2.1 _ _ _ h57) tw_563 gm_X5_readSum pi_4.1 (pe_4 pi_4.2) rfl ⟨rfl, rfl⟩ ⟨Nat.le_trans (Nat.le_of_ble_eq_true rfl) hR.1, Nat.le_trans (Nat.le_of_ble_eq_true rfl) hR.2⟩ rfl (Nat.le_of_ble_eq_true rfl) dX5_read_84 q00 ?_
        refine q_aload_n C 0 dX5_read_87 rfl rfl ?_
        refine qg_4_2 C pi_4 tw_86 dX5_read_88 ?_
        obtain ⟨q58, h59, hF⟩ := bnd hF
        try dsimp only at hF
        refine q_callVv C [] (c_X9_takeWord l D ad ca kz C.2.2.2.2.2.2.1 _ _ _ h59) tw_559 gm_X9_takeWord pi_1.1 (pe_8 pi_1.2) rfl ⟨rfl, rfl⟩ ⟨Nat.le_trans (Nat.le_of_ble_eq_true rfl) hR.1, Nat.le_trans (Nat.le_of_ble_eq_true rfl) hR.2⟩ rfl (Nat.le_of_ble_eq_true rfl) dX5_read_91 q00 ?_
        refine q_aload_n C 0 dX5_read_94 rfl rfl ?_
        refine qg_4_2 C pi_4 tw_86 dX5_read_95 ?_
        refine q_str15 C dX5_read_98 ?_
        obtain ⟨q60, h61, hF⟩ := bnd hF
        try dsimp only at hF
        refine q_callVi C [.ref (kz (10 + 4))] (c_X9_wordIs l D ad ca kz C.2.2.2.2.2.2.1 _ (by decide) _ _ h61) tw_561 gm_X9_wordIs pi_1.1 (pe_8 pi_1.2) rfl ⟨rfl, rfl⟩ ⟨Nat.le_trans (Nat.le_of_ble_eq_true rfl) hR.1, Nat.le_trans (Nat.le_of_ble_eq_true rfl) hR.2⟩ rfl (Nat.le_of_ble_eq_true rfl) dX5_read_100 q00 ?_
        refine q_if_eq (tgt := 119) C dX5_read_103 (by decide) (fun c62 => ?_) (fun c62 => ?_)
        · replace hF := ift c62 hF
          refine q_aload_n C 0 dX5_read_119 rfl rfl ?_
          refine qg_4_2 C pi_4 tw_86 dX5_read_120 ?_
          obtain ⟨q63, h64, hF⟩ := bnd hF
          try dsimp only at hF
          refine q_callVv C [] (c_X9_putWordBack l D ad ca kz C.2.2.2.2.2.2.1 _ _ _ h64) tw_586 gm_X9_putWordBack pi_1.1 (pe_8 pi_1.2) rfl ⟨rfl, rfl⟩ ⟨Nat.le_trans (Nat.le_of_ble_eq_true rfl) hR.1, Nat.le_trans (Nat.le_of_ble_eq_true rfl) hR.2⟩ rfl (Nat.le_of_ble_eq_true rfl) dX5_read_123 q00 ?_
          refine q_aload_n C 0 dX5_read_126 rfl rfl ?_
          refine q_bipush (v := -40) C dX5_read_127 (by decide) ?_
          obtain ⟨q65, h66, hF⟩ := bnd hF
          try dsimp only at hF
          refine q_callVv C [.int (-40)] (c_X5_emit l D ad ca kz C.2.2.2.2.2.2.1 _ _ _ _ h66) tw_596 gm_X5_emit pi_4.1 (pe_4 pi_4.2) rfl ⟨rfl, rfl⟩ ⟨Nat.le_trans (Nat.le_of_ble_eq_true rfl) hR.1, Nat.le_trans (Nat.le_of_ble_eq_true rfl) hR.2⟩ rfl (Nat.le_of_ble_eq_true rfl) dX5_read_129 q00 ?_
          refine q_aload_n C 0 dX5_read_132 rfl rfl ?_
          refine qg_4_2 C pi_4 tw_86 dX5_read_133 ?_
          obtain ⟨q67, h68, hF⟩ := bnd hF
          try dsimp only at hF
          refine q_callVi C [] (c_X9_takeSemicolon l D ad ca kz C.2.2.2.2.2.2.1 _ _ _ h68) tw_645 gm_X9_takeSemicolon pi_1.1 (pe_8 pi_1.2) rfl ⟨rfl, rfl⟩ ⟨Nat.le_trans (Nat.le_of_ble_eq_true rfl) hR.1, Nat.le_trans (Nat.le_of_ble_eq_true rfl) hR.2⟩ rfl (Nat.le_of_ble_eq_true rfl) dX5_read_136 q00 ?_
          refine q_if_ne (tgt := 143) C dX5_read_139 (by decide) (fun c69 => ?_) (fun c69 => ?_)
          · replace hF := ife c69 hF
            refine q_iinc C 1 [(1, .int (x1 + 1)), (0, .ref (ad (4)))] dX5_read_143 rfl rfl (by decide) rfl ?_
            refine q_goto (tgt := 19) C dX5_read_146 (by decide) ?_
            refine q_sub [1, 0] rfl ?_
            exact ih _ _ hF
          · replace hF := ift c69 hF
            cases hF
            refine q_sub [] rfl ?_
            exact hx0 rfl
        · replace hF := ife c62 hF
          refine q_aload_n C 0 dX5_read_106 rfl rfl ?_
          obtain ⟨q70, h71, hF⟩ := bnd hF
          try dsimp only at hF
          refine q_callVv C [] (c_X5_readTest l D ad ca kz C.2.2.2.2.2.2.1 _ _ _ h71) tw_608 gm_X5_readTest pi_4.1 (pe_4 pi_4.2) rfl ⟨rfl, rfl⟩ ⟨Nat.le_trans (Nat.le_of_ble_eq_true rfl) hR.1, Nat.le_trans (Nat.le_of_ble_eq_true rfl) hR.2⟩ rfl (Nat.le_of_ble_eq_true rfl) dX5_read_107 q00 ?_
          refine q_aload_n C 0 dX5_read_110 rfl rfl ?_
          refine q_bipush (v := -41) C dX5_read_111 (by decide) ?_
          obtain ⟨q72, h73, hF⟩ := bnd hF
          try dsimp only at hF
          refine q_callVv C [.int (-41)] (c_X5_emit l D ad ca kz C.2.2.2.2.2.2.1 _ _ _ _ h73) tw_596 gm_X5_emit pi_4.1 (pe_4 pi_4.2) rfl ⟨rfl, rfl⟩ ⟨Nat.le_trans (Nat.le_of_ble_eq_true rfl) hR.1, Nat.le_trans (Nat.le_of_ble_eq_true rfl) hR.2⟩ rfl (Nat.le_of_ble_eq_true rfl) dX5_read_113 q00 ?_
          refine q_goto (tgt := 132) C dX5_read_116 (by decide) ?_
          refine q_aload_n C 0 dX5_read_132 rfl rfl ?_
          refine qg_4_2 C pi_4 tw_86 dX5_read_133 ?_
          obtain ⟨q74, h75, hF⟩ := bnd hF
          try dsimp only at hF
          refine q_callVi C [] (c_X9_takeSemicolon l D ad ca kz C.2.2.2.2.2.2.1 _ _ _ h75) tw_645 gm_X9_takeSemicolon pi_1.1 (pe_8 pi_1.2) rfl ⟨rfl, rfl⟩ ⟨Nat.le_trans (Nat.le_of_ble_eq_true rfl) hR.1, Nat.le_trans (Nat.le_of_ble_eq_true rfl) hR.2⟩ rfl (Nat.le_of_ble_eq_true rfl) dX5_read_136 q00 ?_
          refine q_if_ne (tgt := 143) C dX5_read_139 (by decide) (fun c76 => ?_) (fun c76 => ?_)
          · replace hF := ife c76 hF
            refine q_iinc C 1 [(1, .int (x1 + 1)), (0, .ref (ad (4)))] dX5_read_143 rfl rfl (by decide) rfl ?_
            refine q_goto (tgt := 19) C dX5_read_146 (by decide) ?_
            refine q_sub [1, 0] rfl ?_
            exact ih _ _ hF
          · replace hF := ift c76 hF
            cases hF
            refine q_sub [] rfl ?_
            exact hx0 rfl
set_option maxHeartbeats 4000000 in
set_option maxRecDepth 100000 in
theorem c_X5_read (l : Launch) (D : va_G) (ad : Nat → Nat) (ca : Nat → ClassId) (kz : Nat → Nat) (hJ : pInj ad) (n : Nat) (σ : PS) (out : PS) (hF : F_X5_read n σ = some out) : Met l yX5_read (Cond.code yX5_read cX5_read 2 (Option.none : Option Jvm.ClassFile.FieldType) :: gw_tbl) { frames := 9, cells := 0, slots := 0, locals := 198 } (va_Pc [.ref (ad (4))] (pU D ad ca kz σ)) (pQv D ad ca out) 0 0 (pAD ad) := by
  refine q_entry (own := "AskedCamp$RuleReader") hJ (by decide) rfl (Nat.le_of_ble_eq_true rfl) (fun p e s m below meth c C hr hlk => ?_)
  refine q_lv [(0, .ref (ad (4)))] rfl ?_
  rw [F_X5_read] at hF
  refine q_aload_n C 0 dX5_read_0 rfl rfl ?_
  refine q_iconst (v := 0) C dX5_read_1 (by decide) ?_
  refine qs_4_1 C pi_4 tw_84 dX5_read_2 ?_
  refine q_aload_n C 0 dX5_read_5 rfl rfl ?_
  refine q_iconst (v := 0) C dX5_read_6 (by decide) ?_
  refine qs_4_7 C pi_4 tw_91 dX5_read_7 ?_
  refine q_aload_n C 0 dX5_read_10 rfl rfl ?_
  refine qg_4_2 C pi_4 tw_86 dX5_read_11 ?_
  obtain ⟨q1, h2, hF⟩ := bnd hF
  try dsimp only at hF
  refine q_callVv C [] (c_X9_startReading l D ad ca kz C.2.2.2.2.2.2.1 _ _ _ h2) tw_558 gm_X9_startReading pi_1.1 (pe_8 pi_1.2) rfl ⟨rfl, rfl⟩ ⟨Nat.le_of_ble_eq_true rfl, Nat.le_of_ble_eq_true rfl⟩ rfl (Nat.le_of_ble_eq_true rfl) dX5_read_14 q00 ?_
  refine q_iconst (v := 1) C dX5_read_17 (by decide) ?_
  refine q_istore_n C [(1, .int 1), (0, .ref (ad (4)))] dX5_read_18 rfl (by decide) rfl ?_
  obtain ⟨o77, h78, hF⟩ := bnd hF
  try dsimp only at hF
  refine q_sub [1, 0] rfl ?_
  refine l_X5_read_19 C ⟨Nat.le_of_ble_eq_true rfl, Nat.le_of_ble_eq_true rfl⟩ o77 (fun eo77_0 => ?_) (fun eo77_1 => ?_) n _ _ h78
  · -- exit 0
    replace hF := ift eo77_0 hF
    exact q_vret C hr hlk dX5_read_142 hF
  · -- exit 1
    replace hF := ife (by rw [eo77_1]; decide) hF
    exact q_vret C hr hlk dX5_read_149 hF
-- X11_rule
def F_X11_rule (n : Nat) (σ : PS) : Option (Int32 × PS) := (F_X4_isFull n σ).bind (fun q1 => (if q1.1 = 0 then (F_X5_read n q1.2).bind (fun q4 => (if ((psI q4 1 1 (0 : Int32)).1 1 5) = 0 then (F_X4_add n 5 ((psI q4 1 1 (0 : Int32)).1 4 1) (psI q4 1 1 (0 : Int32))).bind (fun q7 => some (q7.1, q7.2)) else some (((-2 : Int32) - ((psI q4 1 1 (0 : Int32)).1 1 5)), psI q4 1 1 (0 : Int32)))) else some ((-1 : Int32), q1.2)))
theorem gm_X11_rule : gM "AskedCamp" yX11_rule (Cond.code yX11_rule cX11_rule 1 (Option.some Jvm.ClassFile.FieldType.int)) 0 := ⟨by decide +kernel, tw_547, tw_548, tw_1, tw_549⟩
set_option maxHeartbeats 4000000 in
set_option maxRecDepth 100000 in
theorem c_X11_rule (l : Launch) (D : va_G) (ad : Nat → Nat) (ca : Nat → ClassId) (kz : Nat → Nat) (hJ : pInj ad) (n : Nat) (σ : PS) (out : Int32 × PS) (hF : F_X11_rule n σ = some out) : Met l yX11_rule (Cond.code yX11_rule cX11_rule 1 (Option.some Jvm.ClassFile.FieldType.int) :: gw_tbl) { frames := 10, cells := 0, slots := 0, locals := 219 } (va_Pc [.ref (ad (0))] (pU D ad ca kz σ)) (pQi D ad ca out) 0 0 (pAD ad) := by
  refine q_entry (own := "AskedCamp") hJ (by decide) rfl (Nat.le_of_ble_eq_true rfl) (fun p e s m below meth c C hr hlk => ?_)
  refine q_lv [(0, .ref (ad (0)))] rfl ?_
  rw [F_X11_rule] at hF
  refine q_aload_n C 0 dX11_rule_0 rfl rfl ?_
  refine qg_10_3 C pi_0 tw_383 dX11_rule_1 ?_
  obtain ⟨q1, h2, hF⟩ := bnd hF
  try dsimp only at hF
  refine q_callVi C [] (c_X4_isFull l D ad ca kz C.2.2.2.2.2.2.1 _ _ _ h2) tw_550 gm_X4_isFull pi_7.1 (pe_3 pi_7.2) rfl ⟨rfl, rfl⟩ ⟨Nat.le_of_ble_eq_true rfl, Nat.le_of_ble_eq_true rfl⟩ rfl (Nat.le_of_ble_eq_true rfl) dX11_rule_4 q00 ?_
  refine q_if_eq (tgt := 12) C dX11_rule_7 (by decide) (fun c3 => ?_) (fun c3 => ?_)
  · replace hF := ift c3 hF
    refine q_aload_n C 0 dX11_rule_12 rfl rfl ?_
    refine qg_10_2 C pi_0 tw_382 dX11_rule_13 ?_
    obtain ⟨q4, h5, hF⟩ := bnd hF
    try dsimp only at hF
    refine q_callVv C [] (c_X5_read l D ad ca kz C.2.2.2.2.2.2.1 _ _ _ h5) tw_554 gm_X5_read pi_4.1 (pe_4 pi_4.2) rfl ⟨rfl, rfl⟩ ⟨Nat.le_of_ble_eq_true rfl, Nat.le_of_ble_eq_true rfl⟩ rfl (Nat.le_of_ble_eq_true rfl) dX11_rule_16 q00 ?_
    refine q_aload_n C 0 dX11_rule_19 rfl rfl ?_
    refine qg_10_0 C pi_0 tw_380 dX11_rule_20 ?_
    refine q_iconst (v := 0) C dX11_rule_23 (by decide) ?_
    refine qs_8_1 C pi_1 tw_39 dX11_rule_24 ?_
    refine q_aload_n C 0 dX11_rule_27 rfl rfl ?_
    refine qg_10_0 C pi_0 tw_380 dX11_rule_28 ?_
    refine qg_8_5 C pi_1 tw_51 dX11_rule_31 ?_
    refine q_if_eq (tgt := 48) C dX11_rule_34 (by decide) (fun c6 => ?_) (fun c6 => ?_)
    · replace hF := ift c6 hF
      refine q_aload_n C 0 dX11_rule_48 rfl rfl ?_
      refine qg_10_3 C pi_0 tw_383 dX11_rule_49 ?_
      refine q_aload_n C 0 dX11_rule_52 rfl rfl ?_
      refine qg_10_2 C pi_0 tw_382 dX11_rule_53 ?_
      refine qg_4_0 C pi_4 tw_83 dX11_rule_56 ?_
      refine q_aload_n C 0 dX11_rule_59 rfl rfl ?_
      refine qg_10_2 C pi_0 tw_382 dX11_rule_60 ?_
      refine qg_4_1 C pi_4 tw_85 dX11_rule_63 ?_
      obtain ⟨q7, h8, hF⟩ := bnd hF
      try dsimp only at hF
      refine q_callVi C [.ref (ad (5)), .int ((psI q4 1 1 (0 : Int32)).1 4 1)] (c_X4_add l D ad ca kz C.2.2.2.2.2.2.1 _ pa_5 _ _ _ h8) tw_646 gm_X4_add pi_7.1 (pe_3 pi_7.2) rfl ⟨rfl, rfl⟩ ⟨Nat.le_of_ble_eq_true rfl, Nat.le_of_ble_eq_true rfl⟩ rfl (Nat.le_of_ble_eq_true rfl) dX11_rule_66 q00 ?_
      exact q_iret C hr hlk dX11_rule_69 hF
    · replace hF := ife c6 hF
      refine q_bipush (v := -2) C dX11_rule_37 (by decide) ?_
      refine q_aload_n C 0 dX11_rule_39 rfl rfl ?_
      refine qg_10_0 C pi_0 tw_380 dX11_rule_40 ?_
      refine qg_8_5 C pi_1 tw_51 dX11_rule_43 ?_
      refine q_isub C dX11_rule_46 ?_
      exact q_iret C hr hlk dX11_rule_47 hF
  · replace hF := ife c3 hF
    refine q_iconst (v := -1) C dX11_rule_10 (by decide) ?_
    exact q_iret C hr hlk dX11_rule_11 hF
-- X8_firstFitting
def L_X8_firstFitting_2 (n : Nat) : Nat → Int32 → PS → Option (Nat × Int32 × PS)
  | 0, _, _ => none
  | k + 1, x1, σ => (if (7 : Int32) ≤ x1 then some (1, 0, σ) else (if 0 ≤ x1 ∧ x1.toNatClampNeg < 7 then (if (σ.1 239 x1.toNatClampNeg) = 0 then L_X8_firstFitting_2 n k (x1 + 1) σ else some (0, x1, σ)) else none))
def F_X8_firstFitting (n : Nat) (σ : PS) : Option (Int32 × PS) := (L_X8_firstFitting_2 n n (0 : Int32) σ).bind (fun o4 => (if o4.1 = 0 then some ((o4.2.1 - (1 : Int32)), o4.2.2) else some ((-2 : Int32), o4.2.2)))
theorem gm_X8_firstFitting : gM "AskedCamp$Sleuth" yX8_firstFitting (Cond.code yX8_firstFitting cX8_firstFitting 2 (Option.some Jvm.ClassFile.FieldType.int)) 0 := ⟨by decide +kernel, tw_1018, tw_1019, tw_10, tw_1020⟩
set_option maxHeartbeats 4000000 in
set_option maxRecDepth 100000 in
theorem l_X8_firstFitting_2 {p : Program} {l : Launch} {e : Env} {R : Room} {s : State} {m : MethodId} {args : Array Value} {below : List Frame} {meth : Method} {c : Code} {D : va_G} {ad : Nat → Nat} {ca : Nat → ClassId} {kz : Nat → Nat} {Q : State → Prop} (C : pC p s m args c cX8_firstFitting "AskedCamp$Sleuth" 2 D ad ca kz) (hR : 0 ≤ R.frames ∧ 0 ≤ R.locals) {n : Nat} (o : Nat × Int32 × PS) (hx0 : o.1 = 0 → PW p l e R s m args below meth c 2 D ad ca 0 0 Q (o.2.2) 17 [(1, .int o.2.1)] []) (hx1 : o.1 = 1 → PW p l e R s m args below meth c 2 D ad ca 0 0 Q (o.2.2) 27 [] []) : ∀ (k : Nat) (x1 : Int32) (σ : PS), L_X8_firstFitting_2 n k x1 σ = some o → PW p l e R s m args below meth c 2 D ad ca 0 0 Q σ 2 [(0, .ref (ad (224))), (1, .int x1)] [] := by
  intro k
  induction k with
  | zero => intro x1 σ hF; exact nomatch (show (none : Option (Nat × Int32 × PS)) = some o from hF)
  | succ k ih =>
    intro x1 σ hF
    rw [L_X8_firstFitting_2] at hF
    refine q_iload_n C 1 dX8_firstFitting_2 rfl rfl ?_
    refine q_bipush (v := 7) C dX8_firstFitting_3 (by decide) ?_
    refine q_icmp_ge (tgt := 27) C dX8_firstFitting_5 (by decide) (fun c1 => ?_) (fun c1 => ?_)
    · replace hF := ift c1 hF
      cases hF
      refine q_sub [] rfl ?_
      exact hx1 rfl
    · replace hF := ife c1 hF
      refine q_aload_n C 0 dX8_firstFitting_8 rfl rfl ?_
      refine qg_7_5 C pi_224 tw_335 dX8_firstFitting_9 ?_
      refine q_iload_n C 1 dX8_firstFitting_12 rfl rfl ?_
      obtain ⟨g2, hF⟩ := grd hF
      refine q_zald C pa_239 (vp_of g2) dX8_firstFitting_13 ?_
      refine q_if_eq (tgt := 21) C dX8_firstFitting_14 (by decide) (fun c3 => ?_) (fun c3 => ?_)
      · replace hF := ift c3 hF
        refine q_iinc C 1 [(1, .int (x1 + 1)), (0, .ref (ad (224)))] dX8_firstFitting_21 rfl rfl (by decide) rfl ?_
        refine q_goto (tgt := 2) C dX8_firstFitting_24 (by decide) ?_
        refine q_sub [1, 0] rfl ?_
        exact ih _ _ hF
      · replace hF := ife c3 hF
        cases hF
        refine q_sub [1] rfl ?_
        exact hx0 rfl
set_option maxHeartbeats 4000000 in
set_option maxRecDepth 100000 in
theorem c_X8_firstFitting (l : Launch) (D : va_G) (ad : Nat → Nat) (ca : Nat → ClassId) (kz : Nat → Nat) (hJ : pInj ad) (n : Nat) (σ : PS) (out : Int32 × PS) (hF : F_X8_firstFitting n σ = some out) : Met l yX8_firstFitting (Cond.code yX8_firstFitting cX8_firstFitting 2 (Option.some Jvm.ClassFile.FieldType.int) :: gw_tbl) { frames := 0, cells := 0, slots := 0, locals := 0 } (va_Pc [.ref (ad (224))] (pU D ad ca kz σ)) (pQi D ad ca out) 0 0 (pAD ad) := by
  refine q_entry (own := "AskedCamp$Sleuth") hJ (by decide) rfl (Nat.le_of_ble_eq_true rfl) (fun p e s m below meth c C hr hlk => ?_)
  refine q_lv [(0, .ref (ad (224)))] rfl ?_
  rw [F_X8_firstFitting] at hF
  refine q_iconst (v := 0) C dX8_firstFitting_0 (by decide) ?_
  refine q_istore_n C [(1, .int 0), (0, .ref (ad (224)))] dX8_firstFitting_1 rfl (by decide) rfl ?_
  obtain ⟨o4, h5, hF⟩ := bnd hF
  try dsimp only at hF
  refine q_sub [1, 0] rfl ?_
  refine l_X8_firstFitting_2 C ⟨Nat.le_of_ble_eq_true rfl, Nat.le_of_ble_eq_true rfl⟩ o4 (fun eo4_0 => ?_) (fun eo4_1 => ?_) n _ _ h5
  · -- exit 0
    replace hF := ift eo4_0 hF
    refine q_iload_n C 0 dX8_firstFitting_17 rfl rfl ?_
    refine q_iconst (v := 1) C dX8_firstFitting_18 (by decide) ?_
    refine q_isub C dX8_firstFitting_19 ?_
    exact q_iret C hr hlk dX8_firstFitting_20 hF
  · -- exit 1
    replace hF := ife (by rw [eo4_1]; decide) hF
    refine q_bipush (v := -2) C dX8_firstFitting_27 (by decide) ?_
    exact q_iret C hr hlk dX8_firstFitting_29 hF
-- X11_ruled
def F_X11_ruled (n : Nat) (a1 : Int32) (σ : PS) : Option (Int32 × PS) := (F_X10_isPitched n 25 σ).bind (fun q1 => (if q1.1 = 0 then some ((-3 : Int32), q1.2) else (if a1 < 0 then some ((-3 : Int32), q1.2) else (if a1 ≤ (1 : Int32) then (F_X8_trace n 18 q1.2).bind (fun q6 => (if a1 = 0 then (F_X8_fitting n q6).bind (fun q11 => some (q11.1, q11.2)) else (F_X8_firstFitting n q6).bind (fun q9 => some (q9.1, q9.2)))) else some ((-3 : Int32), q1.2)))))
theorem gm_X11_ruled : gM "AskedCamp" yX11_ruled (Cond.code yX11_ruled cX11_ruled 2 (Option.some Jvm.ClassFile.FieldType.int)) 1 := ⟨by decide +kernel, tw_1000, tw_1001, tw_1, tw_1002⟩
set_option maxHeartbeats 4000000 in
set_option maxRecDepth 100000 in
theorem c_X11_ruled (l : Launch) (D : va_G) (ad : Nat → Nat) (ca : Nat → ClassId) (kz : Nat → Nat) (hJ : pInj ad) (n : Nat) (a1 : Int32) (σ : PS) (out : Int32 × PS) (hF : F_X11_ruled n a1 σ = some out) : Met l yX11_ruled (Cond.code yX11_ruled cX11_ruled 2 (Option.some Jvm.ClassFile.FieldType.int) :: gw_tbl) { frames := 7, cells := 0, slots := 0, locals := 177 } (va_Pc [.ref (ad (0)), .int a1] (pU D ad ca kz σ)) (pQi D ad ca out) 0 0 (pAD ad) := by
  refine q_entry (own := "AskedCamp") hJ (by decide) rfl (Nat.le_of_ble_eq_true rfl) (fun p e s m below meth c C hr hlk => ?_)
  refine q_lv [(0, .ref (ad (0))), (1, .int a1)] rfl ?_
  rw [F_X11_ruled] at hF
  refine q_aload_n C 0 dX11_ruled_0 rfl rfl ?_
  refine qg_10_4 C pi_0 tw_384 dX11_ruled_1 ?_
  refine qg_5_1 C pi_18 tw_232 dX11_ruled_4 ?_
  obtain ⟨q1, h2, hF⟩ := bnd hF
  try dsimp only at hF
  refine q_callVi C [] (c_X10_isPitched l D ad ca kz C.2.2.2.2.2.2.1 _ pi_25 _ _ h2) tw_687 gm_X10_isPitched pi_25.1 (pe_9 pi_25.2) rfl ⟨rfl, rfl⟩ ⟨Nat.le_of_ble_eq_true rfl, Nat.le_of_ble_eq_true rfl⟩ rfl (Nat.le_of_ble_eq_true rfl) dX11_ruled_7 q00 ?_
  refine q_if_eq (tgt := 22) C dX11_ruled_10 (by decide) (fun c3 => ?_) (fun c3 => ?_)
  · replace hF := ift c3 hF
    refine q_bipush (v := -3) C dX11_ruled_22 (by decide) ?_
    exact q_iret C hr hlk dX11_ruled_24 hF
  · replace hF := ife c3 hF
    refine q_iload_n C 1 dX11_ruled_13 rfl rfl ?_
    refine q_if_lt (tgt := 22) C dX11_ruled_14 (by decide) (fun c4 => ?_) (fun c4 => ?_)
    · replace hF := ift c4 hF
      refine q_bipush (v := -3) C dX11_ruled_22 (by decide) ?_
      exact q_iret C hr hlk dX11_ruled_24 hF
    · replace hF := ife c4 hF
      refine q_iload_n C 1 dX11_ruled_17 rfl rfl ?_
      refine q_iconst (v := 1) C dX11_ruled_18 (by decide) ?_
      refine q_icmp_le (tgt := 25) C dX11_ruled_19 (by decide) (fun c5 => ?_) (fun c5 => ?_)
      · replace hF := ift c5 hF
        refine q_aload_n C 0 dX11_ruled_25 rfl rfl ?_
        refine qg_10_8 C pi_0 tw_388 dX11_ruled_26 ?_
        refine q_aload_n C 0 dX11_ruled_29 rfl rfl ?_
        refine qg_10_4 C pi_0 tw_384 dX11_ruled_30 ?_
        obtain ⟨q6, h7, hF⟩ := bnd hF
        try dsimp only at hF
        refine q_callVv C [.ref (ad (18))] (c_X8_trace l D ad ca kz C.2.2.2.2.2.2.1 _ pi_18 _ _ h7) tw_1003 gm_X8_trace pi_224.1 (pe_7 pi_224.2) rfl ⟨rfl, rfl⟩ ⟨Nat.le_of_ble_eq_true rfl, Nat.le_of_ble_eq_true rfl⟩ rfl (Nat.le_of_ble_eq_true rfl) dX11_ruled_33 q00 ?_
        refine q_iload_n C 1 dX11_ruled_36 rfl rfl ?_
        refine q_if_ne (tgt := 50) C dX11_ruled_37 (by decide) (fun c8 => ?_) (fun c8 => ?_)
        · replace hF := ife c8 hF
          refine q_aload_n C 0 dX11_ruled_50 rfl rfl ?_
          refine qg_10_8 C pi_0 tw_388 dX11_ruled_51 ?_
          obtain ⟨q9, h10, hF⟩ := bnd hF
          try dsimp only at hF
          refine q_callVi C [] (c_X8_firstFitting l D ad ca kz C.2.2.2.2.2.2.1 _ _ _ h10) tw_1017 gm_X8_firstFitting pi_224.1 (pe_7 pi_224.2) rfl ⟨rfl, rfl⟩ ⟨Nat.le_of_ble_eq_true rfl, Nat.le_of_ble_eq_true rfl⟩ rfl (Nat.le_of_ble_eq_true rfl) dX11_ruled_54 q00 ?_
          exact q_iret C hr hlk dX11_ruled_57 hF
        · replace hF := ift c8 hF
          refine q_aload_n C 0 dX11_ruled_40 rfl rfl ?_
          refine qg_10_8 C pi_0 tw_388 dX11_ruled_41 ?_
          obtain ⟨q11, h12, hF⟩ := bnd hF
          try dsimp only at hF
          refine q_callVi C [] (c_X8_fitting l D ad ca kz C.2.2.2.2.2.2.1 _ _ _ h12) tw_1013 gm_X8_fitting pi_224.1 (pe_7 pi_224.2) rfl ⟨rfl, rfl⟩ ⟨Nat.le_of_ble_eq_true rfl, Nat.le_of_ble_eq_true rfl⟩ rfl (Nat.le_of_ble_eq_true rfl) dX11_ruled_44 q00 ?_
          refine q_goto (tgt := 57) C dX11_ruled_47 (by decide) ?_
          exact q_iret C hr hlk dX11_ruled_57 hF
      · replace hF := ife c5 hF
        refine q_bipush (v := -3) C dX11_ruled_22 (by decide) ?_
        exact q_iret C hr hlk dX11_ruled_24 hF
-- X11_seed
def F_X11_seed (n : Nat) (a1 : Int32) (σ : PS) : Option (Int32 × PS) := (if 0 ≤ a1 then some ((σ.1 18 6), psI σ 18 6 a1) else some ((-1 : Int32), σ))
theorem gm_X11_seed : gM "AskedCamp" yX11_seed (Cond.code yX11_seed cX11_seed 3 (Option.some Jvm.ClassFile.FieldType.int)) 1 := ⟨by decide +kernel, tw_922, tw_923, tw_1, tw_924⟩
set_option maxHeartbeats 4000000 in
set_option maxRecDepth 100000 in
theorem c_X11_seed (l : Launch) (D : va_G) (ad : Nat → Nat) (ca : Nat → ClassId) (kz : Nat → Nat) (hJ : pInj ad) (n : Nat) (a1 : Int32) (σ : PS) (out : Int32 × PS) (hF : F_X11_seed n a1 σ = some out) : Met l yX11_seed (Cond.code yX11_seed cX11_seed 3 (Option.some Jvm.ClassFile.FieldType.int) :: gw_tbl) { frames := 0, cells := 0, slots := 0, locals := 0 } (va_Pc [.ref (ad (0)), .int a1] (pU D ad ca kz σ)) (pQi D ad ca out) 0 0 (pAD ad) := by
  refine q_entry (own := "AskedCamp") hJ (by decide) rfl (Nat.le_of_ble_eq_true rfl) (fun p e s m below meth c C hr hlk => ?_)
  refine q_lv [(0, .ref (ad (0))), (1, .int a1)] rfl ?_
  rw [F_X11_seed] at hF
  refine q_iload_n C 1 dX11_seed_0 rfl rfl ?_
  refine q_if_ge (tgt := 6) C dX11_seed_1 (by decide) (fun c1 => ?_) (fun c1 => ?_)
  · replace hF := ift c1 hF
    refine q_aload_n C 0 dX11_seed_6 rfl rfl ?_
    refine qg_10_4 C pi_0 tw_384 dX11_seed_7 ?_
    refine qg_5_6 C pi_18 tw_244 dX11_seed_10 ?_
    refine q_istore_n C [(2, .int (σ.1 18 6)), (0, .ref (ad (0))), (1, .int a1)] dX11_seed_13 rfl (by decide) rfl ?_
    refine q_aload_n C 1 dX11_seed_14 rfl rfl ?_
    refine qg_10_4 C pi_0 tw_384 dX11_seed_15 ?_
    refine q_iload_n C 2 dX11_seed_18 rfl rfl ?_
    refine qs_5_6 C pi_18 tw_244 dX11_seed_19 ?_
    refine q_iload_n C 0 dX11_seed_22 rfl rfl ?_
    exact q_iret C hr hlk dX11_seed_23 hF
  · replace hF := ife c1 hF
    refine q_iconst (v := -1) C dX11_seed_4 (by decide) ?_
    exact q_iret C hr hlk dX11_seed_5 hF
-- X11_steady
def F_X11_steady (n : Nat) (a1 : Int32) (a2 : Int32) (σ : PS) : Option (Int32 × PS) := (F_X10_hasTent n 25 a1 σ).bind (fun q1 => (if q1.1 = 0 then some ((-1 : Int32), q1.2) else (if a2 < (1 : Int32) then some ((-1 : Int32), q1.2) else (if a2 ≤ (9 : Int32) then (F_X0_keep n 25 q1.2).bind (fun q6 => (if 0 ≤ a1 ∧ a1.toNatClampNeg < 6 then some (((psI q6 27 a1.toNatClampNeg (if (99 : Int32) < ((q6.1 27 a1.toNatClampNeg) + a2) then (99 : Int32) else ((q6.1 27 a1.toNatClampNeg) + a2))).1 27 a1.toNatClampNeg), psI q6 27 a1.toNatClampNeg (if (99 : Int32) < ((q6.1 27 a1.toNatClampNeg) + a2) then (99 : Int32) else ((q6.1 27 a1.toNatClampNeg) + a2))) else none)) else some ((-1 : Int32), q1.2)))))
theorem gm_X11_steady : gM "AskedCamp" yX11_steady (Cond.code yX11_steady cX11_steady 4 (Option.some Jvm.ClassFile.FieldType.int)) 2 := ⟨by decide +kernel, tw_819, tw_820, tw_1, tw_821⟩
set_option maxHeartbeats 4000000 in
set_option maxRecDepth 100000 in
theorem c_X11_steady (l : Launch) (D : va_G) (ad : Nat → Nat) (ca : Nat → ClassId) (kz : Nat → Nat) (hJ : pInj ad) (n : Nat) (a1 : Int32) (a2 : Int32) (σ : PS) (out : Int32 × PS) (hF : F_X11_steady n a1 a2 σ = some out) : Met l yX11_steady (Cond.code yX11_steady cX11_steady 4 (Option.some Jvm.ClassFile.FieldType.int) :: gw_tbl) { frames := 3, cells := 0, slots := 0, locals := 123 } (va_Pc [.ref (ad (0)), .int a1, .int a2] (pU D ad ca kz σ)) (pQi D ad ca out) 0 0 (pAD ad) := by
  refine q_entry (own := "AskedCamp") hJ (by decide) rfl (Nat.le_of_ble_eq_true rfl) (fun p e s m below meth c C hr hlk => ?_)
  refine q_lv [(0, .ref (ad (0))), (1, .int a1), (2, .int a2)] rfl ?_
  rw [F_X11_steady] at hF
  refine q_aload_n C 0 dX11_steady_0 rfl rfl ?_
  refine qg_10_4 C pi_0 tw_384 dX11_steady_1 ?_
  refine qg_5_1 C pi_18 tw_232 dX11_steady_4 ?_
  refine q_astore_n C [(3, .ref (ad (25))), (0, .ref (ad (0))), (1, .int a1), (2, .int a2)] dX11_steady_7 rfl (by decide) rfl ?_
  refine q_aload_n C 0 dX11_steady_8 rfl rfl ?_
  refine q_iload_n C 2 dX11_steady_9 rfl rfl ?_
  obtain ⟨q1, h2, hF⟩ := bnd hF
  try dsimp only at hF
  refine q_callVi C [.int a1] (c_X10_hasTent l D ad ca kz C.2.2.2.2.2.2.1 _ pi_25 _ _ _ h2) tw_663 gm_X10_hasTent pi_25.1 (pe_9 pi_25.2) rfl ⟨rfl, rfl⟩ ⟨Nat.le_of_ble_eq_true rfl, Nat.le_of_ble_eq_true rfl⟩ rfl (Nat.le_of_ble_eq_true rfl) dX11_steady_10 q00 ?_
  refine q_if_eq (tgt := 27) C dX11_steady_13 (by decide) (fun c3 => ?_) (fun c3 => ?_)
  · replace hF := ift c3 hF
    refine q_iconst (v := -1) C dX11_steady_27 (by decide) ?_
    exact q_iret C hr hlk dX11_steady_28 hF
  · replace hF := ife c3 hF
    refine q_iload_n C 3 dX11_steady_16 rfl rfl ?_
    refine q_iconst (v := 1) C dX11_steady_17 (by decide) ?_
    refine q_icmp_lt (tgt := 27) C dX11_steady_18 (by decide) (fun c4 => ?_) (fun c4 => ?_)
    · replace hF := ift c4 hF
      refine q_iconst (v := -1) C dX11_steady_27 (by decide) ?_
      exact q_iret C hr hlk dX11_steady_28 hF
    · replace hF := ife c4 hF
      refine q_iload_n C 3 dX11_steady_21 rfl rfl ?_
      refine q_bipush (v := 9) C dX11_steady_22 (by decide) ?_
      refine q_icmp_le (tgt := 29) C dX11_steady_24 (by decide) (fun c5 => ?_) (fun c5 => ?_)
      · replace hF := ift c5 hF
        refine q_aload_n C 1 dX11_steady_29 rfl rfl ?_
        refine qg_10_6 C pi_0 tw_386 dX11_steady_30 ?_
        refine q_aload_n C 0 dX11_steady_33 rfl rfl ?_
        obtain ⟨q6, h7, hF⟩ := bnd hF
        try dsimp only at hF
        refine q_callVv C [.ref (ad (25))] (c_X0_keep l D ad ca kz C.2.2.2.2.2.2.1 _ pi_25 _ _ h7) tw_709 gm_X0_keep pi_94.1 (pe_0 pi_94.2) rfl ⟨rfl, rfl⟩ ⟨Nat.le_of_ble_eq_true rfl, Nat.le_of_ble_eq_true rfl⟩ rfl (Nat.le_of_ble_eq_true rfl) dX11_steady_34 q00 ?_
        refine q_aload_n C 0 dX11_steady_37 rfl rfl ?_
        refine qg_9_8 C pi_25 tw_192 dX11_steady_38 ?_
        refine q_iload_n C 2 dX11_steady_41 rfl rfl ?_
        refine q_aload_n C 0 dX11_steady_42 rfl rfl ?_
        refine qg_9_8 C pi_25 tw_192 dX11_steady_43 ?_
        refine q_iload_n C 2 dX11_steady_46 rfl rfl ?_
        obtain ⟨g8, hF⟩ := grd hF
        refine q_iald C pa_27 (vp_of g8) dX11_steady_47 ?_
        refine q_iload_n C 3 dX11_steady_48 rfl rfl ?_
        refine q_iadd C dX11_steady_49 ?_
        refine q_bipush (v := 99) C dX11_steady_50 (by decide) ?_
        refine q_mmin C tw_822 ⟨Nat.le_of_ble_eq_true rfl, Nat.le_of_ble_eq_true rfl⟩ dX11_steady_52 ?_
        refine q_iast C pa_27 (vp_of g8) dX11_steady_55 ?_
        refine q_aload_n C 0 dX11_steady_56 rfl rfl ?_
        refine qg_9_8 C pi_25 tw_192 dX11_steady_57 ?_
        refine q_iload_n C 2 dX11_steady_60 rfl rfl ?_
        refine q_iald C pa_27 (vp_of g8) dX11_steady_61 ?_
        exact q_iret C hr hlk dX11_steady_62 hF
      · replace hF := ife c5 hF
        refine q_iconst (v := -1) C dX11_steady_27 (by decide) ?_
        exact q_iret C hr hlk dX11_steady_28 hF
-- X11_step
def F_X11_step (n : Nat) (σ : PS) : Option (Int32 × PS) := (F_X10_isPitched n 25 σ).bind (fun q1 => (if q1.1 = 0 then some ((-1 : Int32), q1.2) else (if (q1.2.1 25 3) < (999 : Int32) then (F_X0_keep n 25 q1.2).bind (fun q5 => (F_X4_stride n 25 (q5.1 18 5) (1 : Int32) q5).bind (fun q7 => some ((q7.1 25 2), q7))) else some ((-1 : Int32), q1.2))))
theorem gm_X11_step : gM "AskedCamp" yX11_step (Cond.code yX11_step cX11_step 2 (Option.some Jvm.ClassFile.FieldType.int)) 0 := ⟨by decide +kernel, tw_706, tw_707, tw_1, tw_708⟩
set_option maxHeartbeats 4000000 in
set_option maxRecDepth 100000 in
theorem c_X11_step (l : Launch) (D : va_G) (ad : Nat → Nat) (ca : Nat → ClassId) (kz : Nat → Nat) (hJ : pInj ad) (n : Nat) (σ : PS) (out : Int32 × PS) (hF : F_X11_step n σ = some out) : Met l yX11_step (Cond.code yX11_step cX11_step 2 (Option.some Jvm.ClassFile.FieldType.int) :: gw_tbl) { frames := 6, cells := 0, slots := 0, locals := 154 } (va_Pc [.ref (ad (0))] (pU D ad ca kz σ)) (pQi D ad ca out) 0 0 (pAD ad) := by
  refine q_entry (own := "AskedCamp") hJ (by decide) rfl (Nat.le_of_ble_eq_true rfl) (fun p e s m below meth c C hr hlk => ?_)
  refine q_lv [(0, .ref (ad (0)))] rfl ?_
  rw [F_X11_step] at hF
  refine q_aload_n C 0 dX11_step_0 rfl rfl ?_
  refine qg_10_4 C pi_0 tw_384 dX11_step_1 ?_
  refine qg_5_1 C pi_18 tw_232 dX11_step_4 ?_
  refine q_astore_n C [(1, .ref (ad (25))), (0, .ref (ad (0)))] dX11_step_7 rfl (by decide) rfl ?_
  refine q_aload_n C 0 dX11_step_8 rfl rfl ?_
  obtain ⟨q1, h2, hF⟩ := bnd hF
  try dsimp only at hF
  refine q_callVi C [] (c_X10_isPitched l D ad ca kz C.2.2.2.2.2.2.1 _ pi_25 _ _ h2) tw_687 gm_X10_isPitched pi_25.1 (pe_9 pi_25.2) rfl ⟨rfl, rfl⟩ ⟨Nat.le_of_ble_eq_true rfl, Nat.le_of_ble_eq_true rfl⟩ rfl (Nat.le_of_ble_eq_true rfl) dX11_step_9 q00 ?_
  refine q_if_eq (tgt := 25) C dX11_step_12 (by decide) (fun c3 => ?_) (fun c3 => ?_)
  · replace hF := ift c3 hF
    refine q_iconst (v := -1) C dX11_step_25 (by decide) ?_
    exact q_iret C hr hlk dX11_step_26 hF
  · replace hF := ife c3 hF
    refine q_aload_n C 0 dX11_step_15 rfl rfl ?_
    refine qg_9_3 C pi_25 tw_173 dX11_step_16 ?_
    refine q_sipush (v := 999) C dX11_step_19 (by decide) ?_
    refine q_icmp_lt (tgt := 27) C dX11_step_22 (by decide) (fun c4 => ?_) (fun c4 => ?_)
    · replace hF := ift c4 hF
      refine q_aload_n C 1 dX11_step_27 rfl rfl ?_
      refine qg_10_6 C pi_0 tw_386 dX11_step_28 ?_
      refine q_aload_n C 0 dX11_step_31 rfl rfl ?_
      obtain ⟨q5, h6, hF⟩ := bnd hF
      try dsimp only at hF
      refine q_callVv C [.ref (ad (25))] (c_X0_keep l D ad ca kz C.2.2.2.2.2.2.1 _ pi_25 _ _ h6) tw_709 gm_X0_keep pi_94.1 (pe_0 pi_94.2) rfl ⟨rfl, rfl⟩ ⟨Nat.le_of_ble_eq_true rfl, Nat.le_of_ble_eq_true rfl⟩ rfl (Nat.le_of_ble_eq_true rfl) dX11_step_32 q00 ?_
      refine q_aload_n C 1 dX11_step_35 rfl rfl ?_
      refine qg_10_3 C pi_0 tw_383 dX11_step_36 ?_
      refine q_aload_n C 0 dX11_step_39 rfl rfl ?_
      refine q_aload_n C 1 dX11_step_40 rfl rfl ?_
      refine qg_10_4 C pi_0 tw_384 dX11_step_41 ?_
      refine qg_5_5 C pi_18 tw_242 dX11_step_44 ?_
      refine q_iconst (v := 1) C dX11_step_47 (by decide) ?_
      obtain ⟨q7, h8, hF⟩ := bnd hF
      try dsimp only at hF
      refine q_callVv C [.ref (ad (25)), .int (q5.1 18 5), .int 1] (c_X4_stride l D ad ca kz C.2.2.2.2.2.2.1 _ pi_25 _ _ _ _ h8) tw_717 gm_X4_stride pi_7.1 (pe_3 pi_7.2) rfl ⟨rfl, rfl⟩ ⟨Nat.le_of_ble_eq_true rfl, Nat.le_of_ble_eq_true rfl⟩ rfl (Nat.le_of_ble_eq_true rfl) dX11_step_48 q00 ?_
      refine q_aload_n C 0 dX11_step_51 rfl rfl ?_
      refine qg_9_2 C pi_25 tw_169 dX11_step_52 ?_
      exact q_iret C hr hlk dX11_step_55 hF
    · replace hF := ife c4 hF
      refine q_iconst (v := -1) C dX11_step_25 (by decide) ?_
      exact q_iret C hr hlk dX11_step_26 hF
-- X11_tent
def F_X11_tent (n : Nat) (a1 : Int32) (a2 : Int32) (σ : PS) : Option (Int32 × PS) := (F_X10_hasTent n 25 a1 σ).bind (fun q1 => (if q1.1 = 0 then some ((-1 : Int32), q1.2) else (if a2 = (0 : Int32) then (if 0 ≤ a1 ∧ a1.toNatClampNeg < 6 then some ((q1.2.1 26 a1.toNatClampNeg), q1.2) else none) else (if a2 = (1 : Int32) then (if 0 ≤ a1 ∧ a1.toNatClampNeg < 6 then some ((q1.2.1 27 a1.toNatClampNeg), q1.2) else none) else (if a2 = (2 : Int32) then (if 0 ≤ a1 ∧ a1.toNatClampNeg < 6 then some ((q1.2.1 28 a1.toNatClampNeg), q1.2) else none) else (if a2 = (3 : Int32) then (if 0 ≤ a1 ∧ a1.toNatClampNeg < 6 then some ((q1.2.1 29 a1.toNatClampNeg), q1.2) else none) else some ((-1 : Int32), q1.2)))))))
theorem gm_X11_tent : gM "AskedCamp" yX11_tent (Cond.code yX11_tent cX11_tent 4 (Option.some Jvm.ClassFile.FieldType.int)) 2 := ⟨by decide +kernel, tw_660, tw_661, tw_1, tw_662⟩
set_option maxHeartbeats 4000000 in
set_option maxRecDepth 100000 in
theorem c_X11_tent (l : Launch) (D : va_G) (ad : Nat → Nat) (ca : Nat → ClassId) (kz : Nat → Nat) (hJ : pInj ad) (n : Nat) (a1 : Int32) (a2 : Int32) (σ : PS) (out : Int32 × PS) (hF : F_X11_tent n a1 a2 σ = some out) : Met l yX11_tent (Cond.code yX11_tent cX11_tent 4 (Option.some Jvm.ClassFile.FieldType.int) :: gw_tbl) { frames := 1, cells := 0, slots := 0, locals := 21 } (va_Pc [.ref (ad (0)), .int a1, .int a2] (pU D ad ca kz σ)) (pQi D ad ca out) 0 0 (pAD ad) := by
  refine q_entry (own := "AskedCamp") hJ (by decide) rfl (Nat.le_of_ble_eq_true rfl) (fun p e s m below meth c C hr hlk => ?_)
  refine q_lv [(0, .ref (ad (0))), (1, .int a1), (2, .int a2)] rfl ?_
  rw [F_X11_tent] at hF
  refine q_aload_n C 0 dX11_tent_0 rfl rfl ?_
  refine qg_10_4 C pi_0 tw_384 dX11_tent_1 ?_
  refine qg_5_1 C pi_18 tw_232 dX11_tent_4 ?_
  refine q_astore_n C [(3, .ref (ad (25))), (0, .ref (ad (0))), (1, .int a1), (2, .int a2)] dX11_tent_7 rfl (by decide) rfl ?_
  refine q_aload_n C 0 dX11_tent_8 rfl rfl ?_
  refine q_iload_n C 2 dX11_tent_9 rfl rfl ?_
  obtain ⟨q1, h2, hF⟩ := bnd hF
  try dsimp only at hF
  refine q_callVi C [.int a1] (c_X10_hasTent l D ad ca kz C.2.2.2.2.2.2.1 _ pi_25 _ _ _ h2) tw_663 gm_X10_hasTent pi_25.1 (pe_9 pi_25.2) rfl ⟨rfl, rfl⟩ ⟨Nat.le_of_ble_eq_true rfl, Nat.le_of_ble_eq_true rfl⟩ rfl (Nat.le_of_ble_eq_true rfl) dX11_tent_10 q00 ?_
  refine q_if_ne (tgt := 18) C dX11_tent_13 (by decide) (fun c3 => ?_) (fun c3 => ?_)
  · replace hF := ife c3 hF
    refine q_iload_n C 3 dX11_tent_18 rfl rfl ?_
    by_cases c4 : a2 = (0 : Int32)
    · replace hF := ift c4 hF
      refine q_tableIn (off := 29) (tgt := 48) C dX11_tent_19 (by rw [c4]; decide) (by rw [c4]; decide) (by rw [c4] <;> rfl) (by decide) ?_
      refine q_aload_n C 0 dX11_tent_48 rfl rfl ?_
      refine qg_9_7 C pi_25 tw_190 dX11_tent_49 ?_
      refine q_iload_n C 2 dX11_tent_52 rfl rfl ?_
      obtain ⟨g5, hF⟩ := grd hF
      refine q_iald C pa_26 (vp_of g5) dX11_tent_53 ?_
      exact q_iret C hr hlk dX11_tent_54 hF
    replace hF := ife c4 hF
    by_cases c6 : a2 = (1 : Int32)
    · replace hF := ift c6 hF
      refine q_tableIn (off := 36) (tgt := 55) C dX11_tent_19 (by rw [c6]; decide) (by rw [c6]; decide) (by rw [c6] <;> rfl) (by decide) ?_
      refine q_aload_n C 0 dX11_tent_55 rfl rfl ?_
      refine qg_9_8 C pi_25 tw_192 dX11_tent_56 ?_
      refine q_iload_n C 2 dX11_tent_59 rfl rfl ?_
      obtain ⟨g7, hF⟩ := grd hF
      refine q_iald C pa_27 (vp_of g7) dX11_tent_60 ?_
      exact q_iret C hr hlk dX11_tent_61 hF
    replace hF := ife c6 hF
    by_cases c8 : a2 = (2 : Int32)
    · replace hF := ift c8 hF
      refine q_tableIn (off := 43) (tgt := 62) C dX11_tent_19 (by rw [c8]; decide) (by rw [c8]; decide) (by rw [c8] <;> rfl) (by decide) ?_
      refine q_aload_n C 0 dX11_tent_62 rfl rfl ?_
      refine qg_9_9 C pi_25 tw_195 dX11_tent_63 ?_
      refine q_iload_n C 2 dX11_tent_66 rfl rfl ?_
      obtain ⟨g9, hF⟩ := grd hF
      refine q_iald C pa_28 (vp_of g9) dX11_tent_67 ?_
      exact q_iret C hr hlk dX11_tent_68 hF
    replace hF := ife c8 hF
    by_cases c10 : a2 = (3 : Int32)
    · replace hF := ift c10 hF
      refine q_tableIn (off := 50) (tgt := 69) C dX11_tent_19 (by rw [c10]; decide) (by rw [c10]; decide) (by rw [c10] <;> rfl) (by decide) ?_
      refine q_aload_n C 0 dX11_tent_69 rfl rfl ?_
      refine qg_9_10 C pi_25 tw_198 dX11_tent_70 ?_
      refine q_iload_n C 2 dX11_tent_73 rfl rfl ?_
      obtain ⟨g11, hF⟩ := grd hF
      refine q_iald C pa_29 (vp_of g11) dX11_tent_74 ?_
      exact q_iret C hr hlk dX11_tent_75 hF
    replace hF := ife c10 hF
    refine q_tableOut (tgt := 76) C dX11_tent_19 (by have ec4 := sw_ne c4; have ec6 := sw_ne c6; have ec8 := sw_ne c8; have ec10 := sw_ne c10; simp only [sw_lit] at ec4 ec6 ec8 ec10; omega) (by decide) ?_
    refine q_iconst (v := -1) C dX11_tent_76 (by decide) ?_
    exact q_iret C hr hlk dX11_tent_77 hF
  · replace hF := ift c3 hF
    refine q_iconst (v := -1) C dX11_tent_16 (by decide) ?_
    exact q_iret C hr hlk dX11_tent_17 hF
-- X11_undo
def F_X11_undo (n : Nat) (σ : PS) : Option (Int32 × PS) := (if (σ.1 94 0) = 0 then some ((-1 : Int32), σ) else (F_X0_takeBack n 25 σ).bind (fun q2 => some ((q2.1 94 0), q2)))
theorem gm_X11_undo : gM "AskedCamp" yX11_undo (Cond.code yX11_undo cX11_undo 1 (Option.some Jvm.ClassFile.FieldType.int)) 0 := ⟨by decide +kernel, tw_828, tw_829, tw_1, tw_830⟩
set_option maxHeartbeats 4000000 in
set_option maxRecDepth 100000 in
theorem c_X11_undo (l : Launch) (D : va_G) (ad : Nat → Nat) (ca : Nat → ClassId) (kz : Nat → Nat) (hJ : pInj ad) (n : Nat) (σ : PS) (out : Int32 × PS) (hF : F_X11_undo n σ = some out) : Met l yX11_undo (Cond.code yX11_undo cX11_undo 1 (Option.some Jvm.ClassFile.FieldType.int) :: gw_tbl) { frames := 3, cells := 0, slots := 0, locals := 123 } (va_Pc [.ref (ad (0))] (pU D ad ca kz σ)) (pQi D ad ca out) 0 0 (pAD ad) := by
  refine q_entry (own := "AskedCamp") hJ (by decide) rfl (Nat.le_of_ble_eq_true rfl) (fun p e s m below meth c C hr hlk => ?_)
  refine q_lv [(0, .ref (ad (0)))] rfl ?_
  rw [F_X11_undo] at hF
  refine q_aload_n C 0 dX11_undo_0 rfl rfl ?_
  refine qg_10_6 C pi_0 tw_386 dX11_undo_1 ?_
  refine qg_0_0 C pi_94 tw_275 dX11_undo_4 ?_
  refine q_if_ne (tgt := 12) C dX11_undo_7 (by decide) (fun c1 => ?_) (fun c1 => ?_)
  · replace hF := ife c1 hF
    refine q_aload_n C 0 dX11_undo_12 rfl rfl ?_
    refine qg_10_6 C pi_0 tw_386 dX11_undo_13 ?_
    refine q_aload_n C 0 dX11_undo_16 rfl rfl ?_
    refine qg_10_4 C pi_0 tw_384 dX11_undo_17 ?_
    refine qg_5_1 C pi_18 tw_232 dX11_undo_20 ?_
    obtain ⟨q2, h3, hF⟩ := bnd hF
    try dsimp only at hF
    refine q_callVv C [.ref (ad (25))] (c_X0_takeBack l D ad ca kz C.2.2.2.2.2.2.1 _ pi_25 _ _ h3) tw_831 gm_X0_takeBack pi_94.1 (pe_0 pi_94.2) rfl ⟨rfl, rfl⟩ ⟨Nat.le_of_ble_eq_true rfl, Nat.le_of_ble_eq_true rfl⟩ rfl (Nat.le_of_ble_eq_true rfl) dX11_undo_23 q00 ?_
    refine q_aload_n C 0 dX11_undo_26 rfl rfl ?_
    refine qg_10_6 C pi_0 tw_386 dX11_undo_27 ?_
    refine qg_0_0 C pi_94 tw_275 dX11_undo_30 ?_
    exact q_iret C hr hlk dX11_undo_33 hF
  · replace hF := ift c1 hF
    refine q_iconst (v := -1) C dX11_undo_10 (by decide) ?_
    exact q_iret C hr hlk dX11_undo_11 hF
-- X2_findWhomToWake
def L_X2_findWhomToWake_12 (n : Nat) (a1 : Nat) : Nat → Int32 → Int32 → PS → Option (PS)
  | 0, _, _, _ => none
  | k + 1, x2, x3, σ => (if (σ.1 (a1 + 7) 5) ≤ x3 then some σ else (F_X10_copyFrom n 217 (a1 + 7) σ).bind (fun q2 => (if x3 = (-1 : Int32) then (F_X10_everAsked n 217 q2).bind (fun q5 => (F_X4_stride n 217 (q5.2.1 a1 5) x2 q5.2).bind (fun q7 => (F_X10_everAsked n 217 q7).bind (fun q9 => (F_J6_bitCount_0f7a4 n (q9.1 &&& (q5.1 ^^^ (-1 : Int32))) q9.2).bind (fun q11 => (if q11.1 ≤ (q11.2.1 216 4) then L_X2_findWhomToWake_12 n a1 k x2 (x3 + 1) q11.2 else L_X2_findWhomToWake_12 n a1 k x2 (x3 + 1) (psI (psI q11.2 216 3 x3) 216 4 q11.1)))))) else (if 0 ≤ x3 ∧ x3.toNatClampNeg < 6 then (F_X10_everAsked n 217 (psI q2 220 x3.toNatClampNeg ((q2.1 220 x3.toNatClampNeg) + (1 : Int32)))).bind (fun q15 => (F_X4_stride n 217 (q15.2.1 a1 5) x2 q15.2).bind (fun q17 => (F_X10_everAsked n 217 q17).bind (fun q19 => (F_J6_bitCount_0f7a4 n (q19.1 &&& (q15.1 ^^^ (-1 : Int32))) q19.2).bind (fun q21 => (if q21.1 ≤ (q21.2.1 216 4) then L_X2_findWhomToWake_12 n a1 k x2 (x3 + 1) q21.2 else L_X2_findWhomToWake_12 n a1 k x2 (x3 + 1) (psI (psI q21.2 216 3 x3) 216 4 q21.1)))))) else none))))
def F_X2_findWhomToWake (n : Nat) (a1 : Nat) (a2 : Int32) (σ : PS) : Option (PS) := (L_X2_findWhomToWake_12 n a1 n a2 (-1 : Int32) (psI (psI σ 216 3 (-1 : Int32)) 216 4 (-1 : Int32))).bind (fun o24 => some o24)
theorem gm_X2_findWhomToWake : gM "AskedCamp$Foresight" yX2_findWhomToWake (Cond.code yX2_findWhomToWake cX2_findWhomToWake 6 (Option.none : Option Jvm.ClassFile.FieldType)) 2 := ⟨by decide +kernel, tw_882, tw_883, tw_9, tw_884⟩
set_option maxHeartbeats 4000000 in
set_option maxRecDepth 100000 in
theorem l_X2_findWhomToWake_12 {p : Program} {l : Launch} {e : Env} {R : Room} {s : State} {m : MethodId} {args : Array Value} {below : List Frame} {meth : Method} {c : Code} {D : va_G} {ad : Nat → Nat} {ca : Nat → ClassId} {kz : Nat → Nat} {Q : State → Prop} (C : pC p s m args c cX2_findWhomToWake "AskedCamp$Foresight" 6 D ad ca kz) (hR : 6 ≤ R.frames ∧ 154 ≤ R.locals) {n : Nat} {a1 : Nat} (ha1 : pis a1 5) (o : PS) (hx0 : PW p l e R s m args below meth c 6 D ad ca 0 0 Q (o) 120 [] []) : ∀ (k : Nat) (x2 : Int32) (x3 : Int32) (σ : PS), L_X2_findWhomToWake_12 n a1 k x2 x3 σ = some o → PW p l e R s m args below meth c 6 D ad ca 0 0 Q σ 12 [(0, .ref (ad (216))), (1, .ref (ad (a1))), (2, .int x2), (3, .int x3)] [] := by
  intro k
  induction k with
  | zero => intro x2 x3 σ hF; exact nomatch (show (none : Option (PS)) = some o from hF)
  | succ k ih =>
    intro x2 x3 σ hF
    rw [L_X2_findWhomToWake_12] at hF
    refine q_iload_n C 3 dX2_findWhomToWake_12 rfl rfl ?_
    refine q_aload_n C 1 dX2_findWhomToWake_13 rfl rfl ?_
    refine qg_5_1 C ha1 tw_231 dX2_findWhomToWake_14 ?_
    refine qg_9_5 C (pkS ha1).2.1 tw_180 dX2_findWhomToWake_17 ?_
    refine q_icmp_ge (tgt := 120) C dX2_findWhomToWake_20 (by decide) (fun c1 => ?_) (fun c1 => ?_)
    · replace hF := ift c1 hF
      cases hF
      refine q_sub [] rfl ?_
      exact hx0
    · replace hF := ife c1 hF
      refine q_aload_n C 0 dX2_findWhomToWake_23 rfl rfl ?_
      refine qg_2_0 C pi_216 tw_293 dX2_findWhomToWake_24 ?_
      refine q_aload_n C 1 dX2_findWhomToWake_27 rfl rfl ?_
      refine qg_5_1 C ha1 tw_231 dX2_findWhomToWake_28 ?_
      obtain ⟨q2, h3, hF⟩ := bnd hF
      try dsimp only at hF
      refine q_callVv C [.ref (ad (a1 + 7))] (c_X10_copyFrom l D ad ca kz C.2.2.2.2.2.2.1 _ pi_217 (pkS ha1).2.1 _ _ h3) tw_843 gm_X10_copyFrom pi_217.1 (pe_9 pi_217.2) rfl ⟨rfl, rfl⟩ ⟨Nat.le_trans (Nat.le_of_ble_eq_true rfl) hR.1, Nat.le_trans (Nat.le_of_ble_eq_true rfl) hR.2⟩ rfl (Nat.le_of_ble_eq_true rfl) dX2_findWhomToWake_31 q00 ?_
      refine q_iload_n C 3 dX2_findWhomToWake_34 rfl rfl ?_
      refine q_iconst (v := -1) C dX2_findWhomToWake_35 (by decide) ?_
      refine q_icmp_eq (tgt := 52) C dX2_findWhomToWake_36 (by decide) (fun c4 => ?_) (fun c4 => ?_)
      · replace hF := ift c4 hF
        refine q_aload_n C 0 dX2_findWhomToWake_52 rfl rfl ?_
        refine qg_2_0 C pi_216 tw_293 dX2_findWhomToWake_53 ?_
        obtain ⟨q5, h6, hF⟩ := bnd hF
        try dsimp only at hF
        refine q_callVi C [] (c_X10_everAsked l D ad ca kz C.2.2.2.2.2.2.1 _ pi_217 _ _ h6) tw_885 gm_X10_everAsked pi_217.1 (pe_9 pi_217.2) rfl ⟨rfl, rfl⟩ ⟨Nat.le_trans (Nat.le_of_ble_eq_true rfl) hR.1, Nat.le_trans (Nat.le_of_ble_eq_true rfl) hR.2⟩ rfl (Nat.le_of_ble_eq_true rfl) dX2_findWhomToWake_56 q00 ?_
        refine q_istore C [(4, .int q5.1), (0, .ref (ad (216))), (1, .ref (ad (a1))), (2, .int x2), (3, .int x3)] dX2_findWhomToWake_59 (by decide) rfl ?_
        refine q_aload_n C 1 dX2_findWhomToWake_61 rfl rfl ?_
        refine qg_2_1 C pi_216 tw_295 dX2_findWhomToWake_62 ?_
        refine q_aload_n C 1 dX2_findWhomToWake_65 rfl rfl ?_
        refine qg_2_0 C pi_216 tw_293 dX2_findWhomToWake_66 ?_
        refine q_aload_n C 2 dX2_findWhomToWake_69 rfl rfl ?_
        refine qg_5_5 C ha1 tw_241 dX2_findWhomToWake_70 ?_
        refine q_iload_n C 3 dX2_findWhomToWake_73 rfl rfl ?_
        obtain ⟨q7, h8, hF⟩ := bnd hF
        try dsimp only at hF
        refine q_callVv C [.ref (ad (217)), .int (q5.2.1 a1 5), .int x2] (c_X4_stride l D ad ca kz C.2.2.2.2.2.2.1 _ pi_217 _ _ _ _ h8) tw_844 gm_X4_stride pi_7.1 (pe_3 pi_7.2) rfl ⟨rfl, rfl⟩ ⟨Nat.le_trans (Nat.le_of_ble_eq_true rfl) hR.1, Nat.le_trans (Nat.le_of_ble_eq_true rfl) hR.2⟩ rfl (Nat.le_of_ble_eq_true rfl) dX2_findWhomToWake_74 q00 ?_
        refine q_aload_n C 1 dX2_findWhomToWake_77 rfl rfl ?_
        refine qg_2_0 C pi_216 tw_293 dX2_findWhomToWake_78 ?_
        obtain ⟨q9, h10, hF⟩ := bnd hF
        try dsimp only at hF
        refine q_callVi C [] (c_X10_everAsked l D ad ca kz C.2.2.2.2.2.2.1 _ pi_217 _ _ h10) tw_885 gm_X10_everAsked pi_217.1 (pe_9 pi_217.2) rfl ⟨rfl, rfl⟩ ⟨Nat.le_trans (Nat.le_of_ble_eq_true rfl) hR.1, Nat.le_trans (Nat.le_of_ble_eq_true rfl) hR.2⟩ rfl (Nat.le_of_ble_eq_true rfl) dX2_findWhomToWake_81 q00 ?_
        refine q_iload C 0 dX2_findWhomToWake_84 rfl ?_
        refine q_iconst (v := -1) C dX2_findWhomToWake_86 (by decide) ?_
        refine q_ixor C dX2_findWhomToWake_87 ?_
        refine q_iand C dX2_findWhomToWake_88 ?_
        obtain ⟨q11, h12, hF⟩ := bnd hF
        try dsimp only at hF
        refine q_callSi C [.int (q9.1 &&& (q5.1 ^^^ (-1 : Int32)))] (c_J6_bitCount_0f7a4 l D ad ca kz C.2.2.2.2.2.2.1 _ _ _ _ h12) tw_886 gm_J6_bitCount_0f7a4 ⟨rfl, rfl⟩ ⟨Nat.le_trans (Nat.le_of_ble_eq_true rfl) hR.1, Nat.le_trans (Nat.le_of_ble_eq_true rfl) hR.2⟩ rfl (Nat.le_of_ble_eq_true rfl) dX2_findWhomToWake_89 q00 ?_
        refine q_istore C [(5, .int q11.1), (4, .int q5.1), (0, .ref (ad (216))), (1, .ref (ad (a1))), (2, .int x2), (3, .int x3)] dX2_findWhomToWake_92 (by decide) rfl ?_
        refine q_iload C 0 dX2_findWhomToWake_94 rfl ?_
        refine q_aload_n C 2 dX2_findWhomToWake_96 rfl rfl ?_
        refine qg_2_4 C pi_216 tw_299 dX2_findWhomToWake_97 ?_
        refine q_icmp_le (tgt := 114) C dX2_findWhomToWake_100 (by decide) (fun c13 => ?_) (fun c13 => ?_)
        · replace hF := ift c13 hF
          refine q_iinc C 5 [(3, .int (x3 + 1)), (5, .int q11.1), (4, .int q5.1), (0, .ref (ad (216))), (1, .ref (ad (a1))), (2, .int x2)] dX2_findWhomToWake_114 rfl rfl (by decide) rfl ?_
          refine q_goto (tgt := 12) C dX2_findWhomToWake_117 (by decide) ?_
          refine q_sub [3, 4, 5, 0] rfl ?_
          exact ih _ _ _ hF
        · replace hF := ife c13 hF
          refine q_aload_n C 2 dX2_findWhomToWake_103 rfl rfl ?_
          refine q_iload_n C 5 dX2_findWhomToWake_104 rfl rfl ?_
          refine qs_2_3 C pi_216 tw_297 dX2_findWhomToWake_105 ?_
          refine q_aload_n C 2 dX2_findWhomToWake_108 rfl rfl ?_
          refine q_iload C 0 dX2_findWhomToWake_109 rfl ?_
          refine qs_2_4 C pi_216 tw_299 dX2_findWhomToWake_111 ?_
          refine q_iinc C 5 [(3, .int (x3 + 1)), (5, .int q11.1), (4, .int q5.1), (0, .ref (ad (216))), (1, .ref (ad (a1))), (2, .int x2)] dX2_findWhomToWake_114 rfl rfl (by decide) rfl ?_
          refine q_goto (tgt := 12) C dX2_findWhomToWake_117 (by decide) ?_
          refine q_sub [3, 4, 5, 0] rfl ?_
          exact ih _ _ _ hF
      · replace hF := ife c4 hF
        refine q_aload_n C 0 dX2_findWhomToWake_39 rfl rfl ?_
        refine qg_2_0 C pi_216 tw_293 dX2_findWhomToWake_40 ?_
        refine qg_9_9 C pi_217 tw_194 dX2_findWhomToWake_43 ?_
        refine q_iload_n C 3 dX2_findWhomToWake_46 rfl rfl ?_
        refine q_dup2 C dX2_findWhomToWake_47 rfl rfl ?_
        obtain ⟨g14, hF⟩ := grd hF
        refine q_iald C pa_220 (vp_of g14) dX2_findWhomToWake_48 ?_
        refine q_iconst (v := 1) C dX2_findWhomToWake_49 (by decide) ?_
        refine q_iadd C dX2_findWhomToWake_50 ?_
        refine q_iast C pa_220 (vp_of g14) dX2_findWhomToWake_51 ?_
        refine q_aload_n C 0 dX2_findWhomToWake_52 rfl rfl ?_
        refine qg_2_0 C pi_216 tw_293 dX2_findWhomToWake_53 ?_
        obtain ⟨q15, h16, hF⟩ := bnd hF
        try dsimp only at hF
        refine q_callVi C [] (c_X10_everAsked l D ad ca kz C.2.2.2.2.2.2.1 _ pi_217 _ _ h16) tw_885 gm_X10_everAsked pi_217.1 (pe_9 pi_217.2) rfl ⟨rfl, rfl⟩ ⟨Nat.le_trans (Nat.le_of_ble_eq_true rfl) hR.1, Nat.le_trans (Nat.le_of_ble_eq_true rfl) hR.2⟩ rfl (Nat.le_of_ble_eq_true rfl) dX2_findWhomToWake_56 q00 ?_
        refine q_istore C [(4, .int q15.1), (0, .ref (ad (216))), (1, .ref (ad (a1))), (2, .int x2), (3, .int x3)] dX2_findWhomToWake_59 (by decide) rfl ?_
        refine q_aload_n C 1 dX2_findWhomToWake_61 rfl rfl ?_
        refine qg_2_1 C pi_216 tw_295 dX2_findWhomToWake_62 ?_
        refine q_aload_n C 1 dX2_findWhomToWake_65 rfl rfl ?_
        refine qg_2_0 C pi_216 tw_293 dX2_findWhomToWake_66 ?_
        refine q_aload_n C 2 dX2_findWhomToWake_69 rfl rfl ?_
        refine qg_5_5 C ha1 tw_241 dX2_findWhomToWake_70 ?_
        refine q_iload_n C 3 dX2_findWhomToWake_73 rfl rfl ?_
        obtain ⟨q17, h18, hF⟩ := bnd hF
        try dsimp only at hF
        refine q_callVv C [.ref (ad (217)), .int (q15.2.1 a1 5), .int x2] (c_X4_stride l D ad ca kz C.2.2.2.2.2.2.1 _ pi_217 _ _ _ _ h18) tw_844 gm_X4_stride pi_7.1 (pe_3 pi_7.2) rfl ⟨rfl, rfl⟩ ⟨Nat.le_trans (Nat.le_of_ble_eq_true rfl) hR.1, Nat.le_trans (Nat.le_of_ble_eq_true rfl) hR.2⟩ rfl (Nat.le_of_ble_eq_true rfl) dX2_findWhomToWake_74 q00 ?_
        refine q_aload_n C 1 dX2_findWhomToWake_77 rfl rfl ?_
        refine qg_2_0 C pi_216 tw_293 dX2_findWhomToWake_78 ?_
        obtain ⟨q19, h20, hF⟩ := bnd hF
        try dsimp only at hF
        refine q_callVi C [] (c_X10_everAsked l D ad ca kz C.2.2.2.2.2.2.1 _ pi_217 _ _ h20) tw_885 gm_X10_everAsked pi_217.1 (pe_9 pi_217.2) rfl ⟨rfl, rfl⟩ ⟨Nat.le_trans (Nat.le_of_ble_eq_true rfl) hR.1, Nat.le_trans (Nat.le_of_ble_eq_true rfl) hR.2⟩ rfl (Nat.le_of_ble_eq_true rfl) dX2_findWhomToWake_81 q00 ?_
        refine q_iload C 0 dX2_findWhomToWake_84 rfl ?_
        refine q_iconst (v := -1) C dX2_findWhomToWake_86 (by decide) ?_
        refine q_ixor C dX2_findWhomToWake_87 ?_
        refine q_iand C dX2_findWhomToWake_88 ?_
        obtain ⟨q21, h22, hF⟩ := bnd hF
        try dsimp only at hF
        refine q_callSi C [.int (q19.1 &&& (q15.1 ^^^ (-1 : Int32)))] (c_J6_bitCount_0f7a4 l D ad ca kz C.2.2.2.2.2.2.1 _ _ _ _ h22) tw_886 gm_J6_bitCount_0f7a4 ⟨rfl, rfl⟩ ⟨Nat.le_trans (Nat.le_of_ble_eq_true rfl) hR.1, Nat.le_trans (Nat.le_of_ble_eq_true rfl) hR.2⟩ rfl (Nat.le_of_ble_eq_true rfl) dX2_findWhomToWake_89 q00 ?_
        refine q_istore C [(5, .int q21.1), (4, .int q15.1), (0, .ref (ad (216))), (1, .ref (ad (a1))), (2, .int x2), (3, .int x3)] dX2_findWhomToWake_92 (by decide) rfl ?_
        refine q_iload C 0 dX2_findWhomToWake_94 rfl ?_
        refine q_aload_n C 2 dX2_findWhomToWake_96 rfl rfl ?_
        refine qg_2_4 C pi_216 tw_299 dX2_findWhomToWake_97 ?_
        refine q_icmp_le (tgt := 114) C dX2_findWhomToWake_100 (by decide) (fun c23 => ?_) (fun c23 => ?_)
        · replace hF := ift c23 hF
          refine q_iinc C 5 [(3, .int (x3 + 1)), (5, .int q21.1), (4, .int q15.1), (0, .ref (ad (216))), (1, .ref (ad (a1))), (2, .int x2)] dX2_findWhomToWake_114 rfl rfl (by decide) rfl ?_
          refine q_goto (tgt := 12) C dX2_findWhomToWake_117 (by decide) ?_
          refine q_sub [3, 4, 5, 0] rfl ?_
          exact ih _ _ _ hF
        · replace hF := ife c23 hF
          refine q_aload_n C 2 dX2_findWhomToWake_103 rfl rfl ?_
          refine q_iload_n C 5 dX2_findWhomToWake_104 rfl rfl ?_
          refine qs_2_3 C pi_216 tw_297 dX2_findWhomToWake_105 ?_
          refine q_aload_n C 2 dX2_findWhomToWake_108 rfl rfl ?_
          refine q_iload C 0 dX2_findWhomToWake_109 rfl ?_
          refine qs_2_4 C pi_216 tw_299 dX2_findWhomToWake_111 ?_
          refine q_iinc C 5 [(3, .int (x3 + 1)), (5, .int q21.1), (4, .int q15.1), (0, .ref (ad (216))), (1, .ref (ad (a1))), (2, .int x2)] dX2_findWhomToWake_114 rfl rfl (by decide) rfl ?_
          refine q_goto (tgt := 12) C dX2_findWhomToWake_117 (by decide) ?_
          refine q_sub [3, 4, 5, 0] rfl ?_
          exact ih _ _ _ hF
set_option maxHeartbeats 4000000 in
set_option maxRecDepth 100000 in
theorem c_X2_findWhomToWake (l : Launch) (D : va_G) (ad : Nat → Nat) (ca : Nat → ClassId) (kz : Nat → Nat) (hJ : pInj ad) (n : Nat) {a1 : Nat} (ha1 : pis a1 5) (a2 : Int32) (σ : PS) (out : PS) (hF : F_X2_findWhomToWake n a1 a2 σ = some out) : Met l yX2_findWhomToWake (Cond.code yX2_findWhomToWake cX2_findWhomToWake 6 (Option.none : Option Jvm.ClassFile.FieldType) :: gw_tbl) { frames := 6, cells := 0, slots := 0, locals := 154 } (va_Pc [.ref (ad (216)), .ref (ad (a1)), .int a2] (pU D ad ca kz σ)) (pQv D ad ca out) 0 0 (pAD ad) := by
  refine q_entry (own := "AskedCamp$Foresight") hJ (by decide) rfl (Nat.le_of_ble_eq_true rfl) (fun p e s m below meth c C hr hlk => ?_)
  refine q_lv [(0, .ref (ad (216))), (1, .ref (ad (a1))), (2, .int a2)] rfl ?_
  rw [F_X2_findWhomToWake] at hF
  refine q_aload_n C 0 dX2_findWhomToWake_0 rfl rfl ?_
  refine q_iconst (v := -1) C dX2_findWhomToWake_1 (by decide) ?_
  refine qs_2_3 C pi_216 tw_297 dX2_findWhomToWake_2 ?_
  refine q_aload_n C 0 dX2_findWhomToWake_5 rfl rfl ?_
  refine q_iconst (v := -1) C dX2_findWhomToWake_6 (by decide) ?_
  refine qs_2_4 C pi_216 tw_299 dX2_findWhomToWake_7 ?_
  refine q_iconst (v := -1) C dX2_findWhomToWake_10 (by decide) ?_
  refine q_istore_n C [(3, .int (-1)), (0, .ref (ad (216))), (1, .ref (ad (a1))), (2, .int a2)] dX2_findWhomToWake_11 rfl (by decide) rfl ?_
  obtain ⟨o24, h25, hF⟩ := bnd hF
  try dsimp only at hF
  refine q_sub [1, 2, 3, 0] rfl ?_
  refine l_X2_findWhomToWake_12 C ⟨Nat.le_of_ble_eq_true rfl, Nat.le_of_ble_eq_true rfl⟩ ha1 o24 ?_ n _ _ _ h25
  exact q_vret C hr hlk dX2_findWhomToWake_120 hF
-- X11_wake
def F_X11_wake (n : Nat) (a1 : Int32) (a2 : Int32) (σ : PS) : Option (Int32 × PS) := (F_X10_isPitched n 25 σ).bind (fun q1 => (if q1.1 = 0 then some ((-2 : Int32), q1.2) else (if a1 < (1 : Int32) then some ((-2 : Int32), q1.2) else (if (30 : Int32) < a1 then some ((-2 : Int32), q1.2) else (if a2 < 0 then some ((-2 : Int32), q1.2) else (if a2 ≤ (1 : Int32) then (F_X2_findWhomToWake n 18 a1 q1.2).bind (fun q8 => (if a2 = 0 then some ((q8.1 216 3), q8) else some ((q8.1 216 4), q8))) else some ((-2 : Int32), q1.2)))))))
theorem gm_X11_wake : gM "AskedCamp" yX11_wake (Cond.code yX11_wake cX11_wake 3 (Option.some Jvm.ClassFile.FieldType.int)) 2 := ⟨by decide +kernel, tw_878, tw_879, tw_1, tw_880⟩
set_option maxHeartbeats 4000000 in
set_option maxRecDepth 100000 in
theorem c_X11_wake (l : Launch) (D : va_G) (ad : Nat → Nat) (ca : Nat → ClassId) (kz : Nat → Nat) (hJ : pInj ad) (n : Nat) (a1 : Int32) (a2 : Int32) (σ : PS) (out : Int32 × PS) (hF : F_X11_wake n a1 a2 σ = some out) : Met l yX11_wake (Cond.code yX11_wake cX11_wake 3 (Option.some Jvm.ClassFile.FieldType.int) :: gw_tbl) { frames := 7, cells := 0, slots := 0, locals := 179 } (va_Pc [.ref (ad (0)), .int a1, .int a2] (pU D ad ca kz σ)) (pQi D ad ca out) 0 0 (pAD ad) := by
  refine q_entry (own := "AskedCamp") hJ (by decide) rfl (Nat.le_of_ble_eq_true rfl) (fun p e s m below meth c C hr hlk => ?_)
  refine q_lv [(0, .ref (ad (0))), (1, .int a1), (2, .int a2)] rfl ?_
  rw [F_X11_wake] at hF
  refine q_aload_n C 0 dX11_wake_0 rfl rfl ?_
  refine qg_10_4 C pi_0 tw_384 dX11_wake_1 ?_
  refine qg_5_1 C pi_18 tw_232 dX11_wake_4 ?_
  obtain ⟨q1, h2, hF⟩ := bnd hF
  try dsimp only at hF
  refine q_callVi C [] (c_X10_isPitched l D ad ca kz C.2.2.2.2.2.2.1 _ pi_25 _ _ h2) tw_687 gm_X10_isPitched pi_25.1 (pe_9 pi_25.2) rfl ⟨rfl, rfl⟩ ⟨Nat.le_of_ble_eq_true rfl, Nat.le_of_ble_eq_true rfl⟩ rfl (Nat.le_of_ble_eq_true rfl) dX11_wake_7 q00 ?_
  refine q_if_eq (tgt := 33) C dX11_wake_10 (by decide) (fun c3 => ?_) (fun c3 => ?_)
  · replace hF := ift c3 hF
    refine q_bipush (v := -2) C dX11_wake_33 (by decide) ?_
    exact q_iret C hr hlk dX11_wake_35 hF
  · replace hF := ife c3 hF
    refine q_iload_n C 1 dX11_wake_13 rfl rfl ?_
    refine q_iconst (v := 1) C dX11_wake_14 (by decide) ?_
    refine q_icmp_lt (tgt := 33) C dX11_wake_15 (by decide) (fun c4 => ?_) (fun c4 => ?_)
    · replace hF := ift c4 hF
      refine q_bipush (v := -2) C dX11_wake_33 (by decide) ?_
      exact q_iret C hr hlk dX11_wake_35 hF
    · replace hF := ife c4 hF
      refine q_iload_n C 1 dX11_wake_18 rfl rfl ?_
      refine q_bipush (v := 30) C dX11_wake_19 (by decide) ?_
      refine q_icmp_gt (tgt := 33) C dX11_wake_21 (by decide) (fun c5 => ?_) (fun c5 => ?_)
      · replace hF := ift c5 hF
        refine q_bipush (v := -2) C dX11_wake_33 (by decide) ?_
        exact q_iret C hr hlk dX11_wake_35 hF
      · replace hF := ife c5 hF
        refine q_iload_n C 2 dX11_wake_24 rfl rfl ?_
        refine q_if_lt (tgt := 33) C dX11_wake_25 (by decide) (fun c6 => ?_) (fun c6 => ?_)
        · replace hF := ift c6 hF
          refine q_bipush (v := -2) C dX11_wake_33 (by decide) ?_
          exact q_iret C hr hlk dX11_wake_35 hF
        · replace hF := ife c6 hF
          refine q_iload_n C 2 dX11_wake_28 rfl rfl ?_
          refine q_iconst (v := 1) C dX11_wake_29 (by decide) ?_
          refine q_icmp_le (tgt := 36) C dX11_wake_30 (by decide) (fun c7 => ?_) (fun c7 => ?_)
          · replace hF := ift c7 hF
            refine q_aload_n C 0 dX11_wake_36 rfl rfl ?_
            refine qg_10_7 C pi_0 tw_387 dX11_wake_37 ?_
            refine q_aload_n C 0 dX11_wake_40 rfl rfl ?_
            refine qg_10_4 C pi_0 tw_384 dX11_wake_41 ?_
            refine q_iload_n C 1 dX11_wake_44 rfl rfl ?_
            obtain ⟨q8, h9, hF⟩ := bnd hF
            try dsimp only at hF
            refine q_callVv C [.ref (ad (18)), .int a1] (c_X2_findWhomToWake l D ad ca kz C.2.2.2.2.2.2.1 _ pi_18 _ _ _ h9) tw_881 gm_X2_findWhomToWake pi_216.1 (pe_2 pi_216.2) rfl ⟨rfl, rfl⟩ ⟨Nat.le_of_ble_eq_true rfl, Nat.le_of_ble_eq_true rfl⟩ rfl (Nat.le_of_ble_eq_true rfl) dX11_wake_45 q00 ?_
            refine q_iload_n C 2 dX11_wake_48 rfl rfl ?_
            refine q_if_ne (tgt := 62) C dX11_wake_49 (by decide) (fun c10 => ?_) (fun c10 => ?_)
            · replace hF := ife c10 hF
              refine q_aload_n C 0 dX11_wake_62 rfl rfl ?_
              refine qg_10_7 C pi_0 tw_387 dX11_wake_63 ?_
              refine qg_2_4 C pi_216 tw_300 dX11_wake_66 ?_
              exact q_iret C hr hlk dX11_wake_69 hF
            · replace hF := ift c10 hF
              refine q_aload_n C 0 dX11_wake_52 rfl rfl ?_
              refine qg_10_7 C pi_0 tw_387 dX11_wake_53 ?_
              refine qg_2_3 C pi_216 tw_298 dX11_wake_56 ?_
              refine q_goto (tgt := 69) C dX11_wake_59 (by decide) ?_
              exact q_iret C hr hlk dX11_wake_69 hF
          · replace hF := ife c7 hF
            refine q_bipush (v := -2) C dX11_wake_33 (by decide) ?_
            exact q_iret C hr hlk dX11_wake_35 hF
-- X11_way
def F_X11_way (n : Nat) (a1 : Int32) (σ : PS) : Option (Int32 × PS) := (F_X10_hasCell n 25 a1 σ).bind (fun q1 => (if q1.1 = 0 then some ((-1 : Int32), q1.2) else (F_X10_distance n 25 (q1.2.1 25 2) ((1 : Int64) <<< (a1.toInt64 &&& 63)) q1.2).bind (fun q4 => (if q4.1 = (-1 : Int32) then some ((-2 : Int32), q4.2) else some (q4.1, q4.2)))))
theorem gm_X11_way : gM "AskedCamp" yX11_way (Cond.code yX11_way cX11_way 4 (Option.some Jvm.ClassFile.FieldType.int)) 1 := ⟨by decide +kernel, tw_926, tw_927, tw_1, tw_928⟩
set_option maxHeartbeats 4000000 in
set_option maxRecDepth 100000 in
theorem c_X11_way (l : Launch) (D : va_G) (ad : Nat → Nat) (ca : Nat → ClassId) (kz : Nat → Nat) (hJ : pInj ad) (n : Nat) (a1 : Int32) (σ : PS) (out : Int32 × PS) (hF : F_X11_way n a1 σ = some out) : Met l yX11_way (Cond.code yX11_way cX11_way 4 (Option.some Jvm.ClassFile.FieldType.int) :: gw_tbl) { frames := 2, cells := 0, slots := 0, locals := 56 } (va_Pc [.ref (ad (0)), .int a1] (pU D ad ca kz σ)) (pQi D ad ca out) 0 0 (pAD ad) := by
  refine q_entry (own := "AskedCamp") hJ (by decide) rfl (Nat.le_of_ble_eq_true rfl) (fun p e s m below meth c C hr hlk => ?_)
  refine q_lv [(0, .ref (ad (0))), (1, .int a1)] rfl ?_
  rw [F_X11_way] at hF
  refine q_aload_n C 0 dX11_way_0 rfl rfl ?_
  refine qg_10_4 C pi_0 tw_384 dX11_way_1 ?_
  refine qg_5_1 C pi_18 tw_232 dX11_way_4 ?_
  refine q_astore_n C [(2, .ref (ad (25))), (0, .ref (ad (0))), (1, .int a1)] dX11_way_7 rfl (by decide) rfl ?_
  refine q_aload_n C 0 dX11_way_8 rfl rfl ?_
  refine q_iload_n C 2 dX11_way_9 rfl rfl ?_
  obtain ⟨q1, h2, hF⟩ := bnd hF
  try dsimp only at hF
  refine q_callVi C [.int a1] (c_X10_hasCell l D ad ca kz C.2.2.2.2.2.2.1 _ pi_25 _ _ _ h2) tw_671 gm_X10_hasCell pi_25.1 (pe_9 pi_25.2) rfl ⟨rfl, rfl⟩ ⟨Nat.le_of_ble_eq_true rfl, Nat.le_of_ble_eq_true rfl⟩ rfl (Nat.le_of_ble_eq_true rfl) dX11_way_10 q00 ?_
  refine q_if_ne (tgt := 18) C dX11_way_13 (by decide) (fun c3 => ?_) (fun c3 => ?_)
  · replace hF := ife c3 hF
    refine q_aload_n C 0 dX11_way_18 rfl rfl ?_
    refine q_aload_n C 0 dX11_way_19 rfl rfl ?_
    refine qg_9_2 C pi_25 tw_169 dX11_way_20 ?_
    refine q_lconst (v := 1) C dX11_way_23 (by decide) ?_
    refine q_iload_n C 2 dX11_way_24 rfl rfl ?_
    refine q_lshl C dX11_way_25 ?_
    obtain ⟨q4, h5, hF⟩ := bnd hF
    try dsimp only at hF
    refine q_callVi C [.int (q1.2.1 25 2), .long ((1 : Int64) <<< (a1.toInt64 &&& 63))] (c_X10_distance l D ad ca kz C.2.2.2.2.2.2.1 _ pi_25 _ _ _ _ h5) tw_929 gm_X10_distance pi_25.1 (pe_9 pi_25.2) rfl ⟨rfl, rfl⟩ ⟨Nat.le_of_ble_eq_true rfl, Nat.le_of_ble_eq_true rfl⟩ rfl (Nat.le_of_ble_eq_true rfl) dX11_way_26 q00 ?_
    refine q_istore_n C [(3, .int q4.1), (2, .ref (ad (25))), (0, .ref (ad (0))), (1, .int a1)] dX11_way_29 rfl (by decide) rfl ?_
    refine q_iload_n C 0 dX11_way_30 rfl rfl ?_
    refine q_iconst (v := -1) C dX11_way_31 (by decide) ?_
    refine q_icmp_ne (tgt := 40) C dX11_way_32 (by decide) (fun c6 => ?_) (fun c6 => ?_)
    · replace hF := ife c6 hF
      refine q_iload_n C 0 dX11_way_40 rfl rfl ?_
      exact q_iret C hr hlk dX11_way_41 hF
    · replace hF := ift c6 hF
      refine q_bipush (v := -2) C dX11_way_35 (by decide) ?_
      refine q_goto (tgt := 41) C dX11_way_37 (by decide) ?_
      exact q_iret C hr hlk dX11_way_41 hF
  · replace hF := ift c3 hF
    refine q_iconst (v := -1) C dX11_way_16 (by decide) ?_
    exact q_iret C hr hlk dX11_way_17 hF
-- X11_whistle
def F_X11_whistle (n : Nat) (a1 : Int32) (σ : PS) : Option (Int32 × PS) := (F_X10_hasCell n 25 a1 σ).bind (fun q1 => (if q1.1 = 0 then some ((-1 : Int32), q1.2) else (F_X10_towards n 25 ((1 : Int64) <<< (a1.toInt64 &&& 63)) q1.2).bind (fun q4 => (if q4.1 = (q4.2.1 25 2) then some ((-1 : Int32), q4.2) else (F_X0_keep n 25 q4.2).bind (fun q7 => some (q4.1, psI q7 25 2 q4.1))))))
theorem gm_X11_whistle : gM "AskedCamp" yX11_whistle (Cond.code yX11_whistle cX11_whistle 4 (Option.some Jvm.ClassFile.FieldType.int)) 1 := ⟨by decide +kernel, tw_810, tw_811, tw_1, tw_812⟩
set_option maxHeartbeats 4000000 in
set_option maxRecDepth 100000 in
theorem c_X11_whistle (l : Launch) (D : va_G) (ad : Nat → Nat) (ca : Nat → ClassId) (kz : Nat → Nat) (hJ : pInj ad) (n : Nat) (a1 : Int32) (σ : PS) (out : Int32 × PS) (hF : F_X11_whistle n a1 σ = some out) : Met l yX11_whistle (Cond.code yX11_whistle cX11_whistle 4 (Option.some Jvm.ClassFile.FieldType.int) :: gw_tbl) { frames := 3, cells := 0, slots := 0, locals := 123 } (va_Pc [.ref (ad (0)), .int a1] (pU D ad ca kz σ)) (pQi D ad ca out) 0 0 (pAD ad) := by
  refine q_entry (own := "AskedCamp") hJ (by decide) rfl (Nat.le_of_ble_eq_true rfl) (fun p e s m below meth c C hr hlk => ?_)
  refine q_lv [(0, .ref (ad (0))), (1, .int a1)] rfl ?_
  rw [F_X11_whistle] at hF
  refine q_aload_n C 0 dX11_whistle_0 rfl rfl ?_
  refine qg_10_4 C pi_0 tw_384 dX11_whistle_1 ?_
  refine qg_5_1 C pi_18 tw_232 dX11_whistle_4 ?_
  refine q_astore_n C [(2, .ref (ad (25))), (0, .ref (ad (0))), (1, .int a1)] dX11_whistle_7 rfl (by decide) rfl ?_
  refine q_aload_n C 0 dX11_whistle_8 rfl rfl ?_
  refine q_iload_n C 2 dX11_whistle_9 rfl rfl ?_
  obtain ⟨q1, h2, hF⟩ := bnd hF
  try dsimp only at hF
  refine q_callVi C [.int a1] (c_X10_hasCell l D ad ca kz C.2.2.2.2.2.2.1 _ pi_25 _ _ _ h2) tw_671 gm_X10_hasCell pi_25.1 (pe_9 pi_25.2) rfl ⟨rfl, rfl⟩ ⟨Nat.le_of_ble_eq_true rfl, Nat.le_of_ble_eq_true rfl⟩ rfl (Nat.le_of_ble_eq_true rfl) dX11_whistle_10 q00 ?_
  refine q_if_ne (tgt := 18) C dX11_whistle_13 (by decide) (fun c3 => ?_) (fun c3 => ?_)
  · replace hF := ife c3 hF
    refine q_aload_n C 0 dX11_whistle_18 rfl rfl ?_
    refine q_lconst (v := 1) C dX11_whistle_19 (by decide) ?_
    refine q_iload_n C 2 dX11_whistle_20 rfl rfl ?_
    refine q_lshl C dX11_whistle_21 ?_
    obtain ⟨q4, h5, hF⟩ := bnd hF
    try dsimp only at hF
    refine q_callVi C [.long ((1 : Int64) <<< (a1.toInt64 &&& 63))] (c_X10_towards l D ad ca kz C.2.2.2.2.2.2.1 _ pi_25 _ _ _ h5) tw_813 gm_X10_towards pi_25.1 (pe_9 pi_25.2) rfl ⟨rfl, rfl⟩ ⟨Nat.le_of_ble_eq_true rfl, Nat.le_of_ble_eq_true rfl⟩ rfl (Nat.le_of_ble_eq_true rfl) dX11_whistle_22 q00 ?_
    refine q_istore_n C [(3, .int q4.1), (2, .ref (ad (25))), (0, .ref (ad (0))), (1, .int a1)] dX11_whistle_25 rfl (by decide) rfl ?_
    refine q_iload_n C 0 dX11_whistle_26 rfl rfl ?_
    refine q_aload_n C 1 dX11_whistle_27 rfl rfl ?_
    refine qg_9_2 C pi_25 tw_169 dX11_whistle_28 ?_
    refine q_icmp_ne (tgt := 36) C dX11_whistle_31 (by decide) (fun c6 => ?_) (fun c6 => ?_)
    · replace hF := ife c6 hF
      refine q_aload_n C 2 dX11_whistle_36 rfl rfl ?_
      refine qg_10_6 C pi_0 tw_386 dX11_whistle_37 ?_
      refine q_aload_n C 1 dX11_whistle_40 rfl rfl ?_
      obtain ⟨q7, h8, hF⟩ := bnd hF
      try dsimp only at hF
      refine q_callVv C [.ref (ad (25))] (c_X0_keep l D ad ca kz C.2.2.2.2.2.2.1 _ pi_25 _ _ h8) tw_709 gm_X0_keep pi_94.1 (pe_0 pi_94.2) rfl ⟨rfl, rfl⟩ ⟨Nat.le_of_ble_eq_true rfl, Nat.le_of_ble_eq_true rfl⟩ rfl (Nat.le_of_ble_eq_true rfl) dX11_whistle_41 q00 ?_
      refine q_aload_n C 1 dX11_whistle_44 rfl rfl ?_
      refine q_iload_n C 0 dX11_whistle_45 rfl rfl ?_
      refine qs_9_2 C pi_25 tw_169 dX11_whistle_46 ?_
      refine q_iload_n C 0 dX11_whistle_49 rfl rfl ?_
      exact q_iret C hr hlk dX11_whistle_50 hF
    · replace hF := ift c6 hF
      refine q_iconst (v := -1) C dX11_whistle_34 (by decide) ?_
      exact q_iret C hr hlk dX11_whistle_35 hF
  · replace hF := ift c3 hF
    refine q_iconst (v := -1) C dX11_whistle_16 (by decide) ?_
    exact q_iret C hr hlk dX11_whistle_17 hF
-- X2_nextDraw
def F_X2_nextDraw (n : Nat) (σ : PS) : Option (Int32 × PS) := some (((((psJ σ 216 6 ((((σ.2 216 6) * (1103515245 : Int64)) + (12345 : Int64)) - (((σ.2 216 6) * (1103515245 : Int64)) + (12345 : Int64)) / (2147483648 : Int64) * (2147483648 : Int64))).2 216 6) / (65536 : Int64)).toInt32), psJ σ 216 6 ((((σ.2 216 6) * (1103515245 : Int64)) + (12345 : Int64)) - (((σ.2 216 6) * (1103515245 : Int64)) + (12345 : Int64)) / (2147483648 : Int64) * (2147483648 : Int64)))
theorem gm_X2_nextDraw : gM "AskedCamp$Foresight" yX2_nextDraw (Cond.code yX2_nextDraw cX2_nextDraw 1 (Option.some Jvm.ClassFile.FieldType.int)) 0 := ⟨by decide +kernel, tw_914, tw_p21, tw_9, tw_915⟩
set_option maxHeartbeats 4000000 in
set_option maxRecDepth 100000 in
theorem c_X2_nextDraw (l : Launch) (D : va_G) (ad : Nat → Nat) (ca : Nat → ClassId) (kz : Nat → Nat) (hJ : pInj ad) (n : Nat) (σ : PS) (out : Int32 × PS) (hF : F_X2_nextDraw n σ = some out) : Met l yX2_nextDraw (Cond.code yX2_nextDraw cX2_nextDraw 1 (Option.some Jvm.ClassFile.FieldType.int) :: gw_tbl) { frames := 0, cells := 0, slots := 0, locals := 0 } (va_Pc [.ref (ad (216))] (pU D ad ca kz σ)) (pQi D ad ca out) 0 0 (pAD ad) := by
  refine q_entry (own := "AskedCamp$Foresight") hJ (by decide) rfl (Nat.le_of_ble_eq_true rfl) (fun p e s m below meth c C hr hlk => ?_)
  refine q_lv [(0, .ref (ad (216)))] rfl ?_
  rw [F_X2_nextDraw] at hF
  refine q_aload_n C 0 dX2_nextDraw_0 rfl rfl ?_
  refine q_aload_n C 0 dX2_nextDraw_1 rfl rfl ?_
  refine qg_2_6 C pi_216 tw_303 dX2_nextDraw_2 ?_
  refine q_ldc2 C dX2_nextDraw_5 tw_916 ?_
  refine q_lmul C dX2_nextDraw_8 ?_
  refine q_ldc2 C dX2_nextDraw_9 tw_917 ?_
  refine q_ladd C dX2_nextDraw_12 ?_
  refine q_ldc2 C dX2_nextDraw_13 tw_918 ?_
  refine q_lrem C dX2_nextDraw_16 (by decide) ?_
  refine qs_2_6 C pi_216 tw_303 dX2_nextDraw_17 ?_
  refine q_aload_n C 0 dX2_nextDraw_20 rfl rfl ?_
  refine qg_2_6 C pi_216 tw_303 dX2_nextDraw_21 ?_
  refine q_ldc2 C dX2_nextDraw_24 tw_919 ?_
  refine q_ldiv C dX2_nextDraw_27 (by decide) ?_
  refine q_l2i C dX2_nextDraw_28 ?_
  exact q_iret C hr hlk dX2_nextDraw_29 hF
-- X2_drift
def F_X2_drift (n : Nat) (a1 : Int32) (σ : PS) : Option (PS) := (F_X2_nextDraw n σ).bind (fun q1 => (if a1 ≤ (q1.1 - q1.1 / (100 : Int32) * (100 : Int32)) then some q1.2 else (F_X2_nextDraw n q1.2).bind (fun q4 => (F_X10_passable n 217 (q1.2.1 217 2) (q4.1 - q4.1 / (4 : Int32) * (4 : Int32)) q4.2).bind (fun q6 => (if q6.1 = (-1 : Int32) then some q6.2 else some (psI q6.2 217 2 q6.1))))))
theorem gm_X2_drift : gM "AskedCamp$Foresight" yX2_drift (Cond.code yX2_drift cX2_drift 3 (Option.none : Option Jvm.ClassFile.FieldType)) 1 := ⟨by decide +kernel, tw_910, tw_p20, tw_9, tw_911⟩
set_option maxHeartbeats 4000000 in
set_option maxRecDepth 100000 in
theorem c_X2_drift (l : Launch) (D : va_G) (ad : Nat → Nat) (ca : Nat → ClassId) (kz : Nat → Nat) (hJ : pInj ad) (n : Nat) (a1 : Int32) (σ : PS) (out : PS) (hF : F_X2_drift n a1 σ = some out) : Met l yX2_drift (Cond.code yX2_drift cX2_drift 3 (Option.none : Option Jvm.ClassFile.FieldType) :: gw_tbl) { frames := 2, cells := 0, slots := 0, locals := 46 } (va_Pc [.ref (ad (216)), .int a1] (pU D ad ca kz σ)) (pQv D ad ca out) 0 0 (pAD ad) := by
  refine q_entry (own := "AskedCamp$Foresight") hJ (by decide) rfl (Nat.le_of_ble_eq_true rfl) (fun p e s m below meth c C hr hlk => ?_)
  refine q_lv [(0, .ref (ad (216))), (1, .int a1)] rfl ?_
  rw [F_X2_drift] at hF
  refine q_aload_n C 0 dX2_drift_0 rfl rfl ?_
  obtain ⟨q1, h2, hF⟩ := bnd hF
  try dsimp only at hF
  refine q_callVi C [] (c_X2_nextDraw l D ad ca kz C.2.2.2.2.2.2.1 _ _ _ h2) tw_912 gm_X2_nextDraw pi_216.1 (pe_2 pi_216.2) rfl ⟨rfl, rfl⟩ ⟨Nat.le_of_ble_eq_true rfl, Nat.le_of_ble_eq_true rfl⟩ rfl (Nat.le_of_ble_eq_true rfl) dX2_drift_1 q00 ?_
  refine q_bipush (v := 100) C dX2_drift_4 (by decide) ?_
  refine q_irem C dX2_drift_6 (by decide) ?_
  refine q_iload_n C 1 dX2_drift_7 rfl rfl ?_
  refine q_icmp_ge (tgt := 45) C dX2_drift_8 (by decide) (fun c3 => ?_) (fun c3 => ?_)
  · replace hF := ift c3 hF
    exact q_vret C hr hlk dX2_drift_45 hF
  · replace hF := ife c3 hF
    refine q_aload_n C 0 dX2_drift_11 rfl rfl ?_
    refine qg_2_0 C pi_216 tw_293 dX2_drift_12 ?_
    refine q_aload_n C 0 dX2_drift_15 rfl rfl ?_
    refine qg_2_0 C pi_216 tw_293 dX2_drift_16 ?_
    refine qg_9_2 C pi_217 tw_168 dX2_drift_19 ?_
    refine q_aload_n C 0 dX2_drift_22 rfl rfl ?_
    obtain ⟨q4, h5, hF⟩ := bnd hF
    try dsimp only at hF
    refine q_callVi C [] (c_X2_nextDraw l D ad ca kz C.2.2.2.2.2.2.1 _ _ _ h5) tw_912 gm_X2_nextDraw pi_216.1 (pe_2 pi_216.2) rfl ⟨rfl, rfl⟩ ⟨Nat.le_of_ble_eq_true rfl, Nat.le_of_ble_eq_true rfl⟩ rfl (Nat.le_of_ble_eq_true rfl) dX2_drift_23 q00 ?_
    refine q_iconst (v := 4) C dX2_drift_26 (by decide) ?_
    refine q_irem C dX2_drift_27 (by decide) ?_
    obtain ⟨q6, h7, hF⟩ := bnd hF
    try dsimp only at hF
    refine q_callVi C [.int (q1.2.1 217 2), .int (q4.1 - q4.1 / (4 : Int32) * (4 : Int32))] (c_X10_passable l D ad ca kz C.2.2.2.2.2.2.1 _ pi_217 _ _ _ _ h7) tw_920 gm_X10_passable pi_217.1 (pe_9 pi_217.2) rfl ⟨rfl, rfl⟩ ⟨Nat.le_of_ble_eq_true rfl, Nat.le_of_ble_eq_true rfl⟩ rfl (Nat.le_of_ble_eq_true rfl) dX2_drift_28 q00 ?_
    refine q_istore_n C [(2, .int q6.1), (0, .ref (ad (216))), (1, .int a1)] dX2_drift_31 rfl (by decide) rfl ?_
    refine q_iload_n C 0 dX2_drift_32 rfl rfl ?_
    refine q_iconst (v := -1) C dX2_drift_33 (by decide) ?_
    refine q_icmp_eq (tgt := 45) C dX2_drift_34 (by decide) (fun c8 => ?_) (fun c8 => ?_)
    · replace hF := ift c8 hF
      exact q_vret C hr hlk dX2_drift_45 hF
    · replace hF := ife c8 hF
      refine q_aload_n C 1 dX2_drift_37 rfl rfl ?_
      refine qg_2_0 C pi_216 tw_293 dX2_drift_38 ?_
      refine q_iload_n C 0 dX2_drift_41 rfl rfl ?_
      refine qs_9_2 C pi_217 tw_168 dX2_drift_42 ?_
      exact q_vret C hr hlk dX2_drift_45 hF
