-- X11_count
def F_X11_count (n : Nat) (a1 : Int32) (σ : PS) : Option (Int32 × PS) := (if a1 = (0 : Int32) then some ((σ.1 25 0), σ) else (if a1 = (1 : Int32) then some ((σ.1 25 5), σ) else (if a1 = (2 : Int32) then some ((σ.1 7 0), σ) else (if a1 = (3 : Int32) then some ((σ.1 18 5), σ) else (if a1 = (4 : Int32) then some ((σ.1 25 3), σ) else (if a1 = (5 : Int32) then (F_X10_isPitched n 25 σ).bind (fun q7 => (if q7.1 = 0 then some ((-1 : Int32), q7.2) else some ((q7.2.1 25 2), q7.2))) else (if a1 = (6 : Int32) then some ((σ.1 25 4), σ) else (if a1 = (7 : Int32) then (F_X10_everAsked n 25 σ).bind (fun q12 => some (q12.1, q12.2)) else (if a1 = (8 : Int32) then (F_X10_askedInAll n 25 σ).bind (fun q15 => some (q15.1, q15.2)) else (if a1 = (9 : Int32) then (F_J13_bitCount_95d88 n (σ.2 25 6) σ).bind (fun q18 => some (q18.1, q18.2)) else (if a1 = (10 : Int32) then some ((σ.1 18 4), σ) else (if a1 = (11 : Int32) then some ((σ.1 94 0), σ) else (if a1 = (12 : Int32) then some ((σ.1 18 6), σ) else (if a1 = (13 : Int32) then some ((σ.1 1 1), σ) else some ((-1 : Int32), σ)))))))))))))))
theorem gm_X11_count : gM "AskedCamp" yX11_count (Cond.code yX11_count cX11_count 3 (Option.some Jvm.ClassFile.FieldType.int)) 1 := ⟨by decide +kernel, tw_684, tw_685, tw_1, tw_686⟩
set_option maxHeartbeats 4000000 in
set_option maxRecDepth 100000 in
theorem c_X11_count (l : Launch) (D : va_G) (ad : Nat → Nat) (ca : Nat → ClassId) (kz : Nat → Nat) (hJ : pInj ad) (n : Nat) (a1 : Int32) (σ : PS) (out : Int32 × PS) (hF : F_X11_count n a1 σ = some out) : Met l yX11_count (Cond.code yX11_count cX11_count 3 (Option.some Jvm.ClassFile.FieldType.int) :: gw_tbl) { frames := 1, cells := 0, slots := 0, locals := 22 } (va_Pc [.ref (ad (0)), .int a1] (pU D ad ca kz σ)) (pQi D ad ca out) 0 0 (pAD ad) := by
  refine q_entry (own := "AskedCamp") hJ (by decide) rfl (Nat.le_of_ble_eq_true rfl) (fun p e s m below meth c C hr hlk => ?_)
  refine q_lv [(0, .ref (ad (0))), (1, .int a1)] rfl ?_
  rw [F_X11_count] at hF
  refine q_aload_n C 0 dX11_count_0 rfl rfl ?_
  refine qg_10_4 C pi_0 tw_384 dX11_count_1 ?_
  refine qg_5_1 C pi_18 tw_232 dX11_count_4 ?_
  refine q_astore_n C [(2, .ref (ad (25))), (0, .ref (ad (0))), (1, .int a1)] dX11_count_7 rfl (by decide) rfl ?_
  refine q_iload_n C 2 dX11_count_8 rfl rfl ?_
  by_cases c1 : a1 = (0 : Int32)
  · replace hF := ift c1 hF
    refine q_tableIn (off := 71) (tgt := 80) C dX11_count_9 (by rw [c1]; decide) (by rw [c1]; decide) (by rw [c1] <;> rfl) (by decide) ?_
    refine q_aload_n C 0 dX11_count_80 rfl rfl ?_
    refine qg_9_0 C pi_25 tw_158 dX11_count_81 ?_
    exact q_iret C hr hlk dX11_count_84 hF
  replace hF := ife c1 hF
  by_cases c2 : a1 = (1 : Int32)
  · replace hF := ift c2 hF
    refine q_tableIn (off := 76) (tgt := 85) C dX11_count_9 (by rw [c2]; decide) (by rw [c2]; decide) (by rw [c2] <;> rfl) (by decide) ?_
    refine q_aload_n C 0 dX11_count_85 rfl rfl ?_
    refine qg_9_5 C pi_25 tw_181 dX11_count_86 ?_
    exact q_iret C hr hlk dX11_count_89 hF
  replace hF := ife c2 hF
  by_cases c3 : a1 = (2 : Int32)
  · replace hF := ift c3 hF
    refine q_tableIn (off := 81) (tgt := 90) C dX11_count_9 (by rw [c3]; decide) (by rw [c3]; decide) (by rw [c3] <;> rfl) (by decide) ?_
    refine q_aload_n C 1 dX11_count_90 rfl rfl ?_
    refine qg_10_3 C pi_0 tw_383 dX11_count_91 ?_
    refine qg_3_0 C pi_7 tw_120 dX11_count_94 ?_
    exact q_iret C hr hlk dX11_count_97 hF
  replace hF := ife c3 hF
  by_cases c4 : a1 = (3 : Int32)
  · replace hF := ift c4 hF
    refine q_tableIn (off := 89) (tgt := 98) C dX11_count_9 (by rw [c4]; decide) (by rw [c4]; decide) (by rw [c4] <;> rfl) (by decide) ?_
    refine q_aload_n C 1 dX11_count_98 rfl rfl ?_
    refine qg_10_4 C pi_0 tw_384 dX11_count_99 ?_
    refine qg_5_5 C pi_18 tw_242 dX11_count_102 ?_
    exact q_iret C hr hlk dX11_count_105 hF
  replace hF := ife c4 hF
  by_cases c5 : a1 = (4 : Int32)
  · replace hF := ift c5 hF
    refine q_tableIn (off := 97) (tgt := 106) C dX11_count_9 (by rw [c5]; decide) (by rw [c5]; decide) (by rw [c5] <;> rfl) (by decide) ?_
    refine q_aload_n C 0 dX11_count_106 rfl rfl ?_
    refine qg_9_3 C pi_25 tw_173 dX11_count_107 ?_
    exact q_iret C hr hlk dX11_count_110 hF
  replace hF := ife c5 hF
  by_cases c6 : a1 = (5 : Int32)
  · replace hF := ift c6 hF
    refine q_tableIn (off := 102) (tgt := 111) C dX11_count_9 (by rw [c6]; decide) (by rw [c6]; decide) (by rw [c6] <;> rfl) (by decide) ?_
    refine q_aload_n C 0 dX11_count_111 rfl rfl ?_
    obtain ⟨q7, h8, hF⟩ := bnd hF
    try dsimp only at hF
    refine q_callVi C [] (c_X10_isPitched l D ad ca kz C.2.2.2.2.2.2.1 _ pi_25 _ _ h8) tw_687 gm_X10_isPitched pi_25.1 (pe_9 pi_25.2) rfl ⟨rfl, rfl⟩ ⟨Nat.le_of_ble_eq_true rfl, Nat.le_of_ble_eq_true rfl⟩ rfl (Nat.le_of_ble_eq_true rfl) dX11_count_112 q00 ?_
    refine q_if_eq (tgt := 125) C dX11_count_115 (by decide) (fun c9 => ?_) (fun c9 => ?_)
    · replace hF := ift c9 hF
      refine q_iconst (v := -1) C dX11_count_125 (by decide) ?_
      exact q_iret C hr hlk dX11_count_126 hF
    · replace hF := ife c9 hF
      refine q_aload_n C 0 dX11_count_118 rfl rfl ?_
      refine qg_9_2 C pi_25 tw_169 dX11_count_119 ?_
      refine q_goto (tgt := 126) C dX11_count_122 (by decide) ?_
      exact q_iret C hr hlk dX11_count_126 hF
  replace hF := ife c6 hF
  by_cases c10 : a1 = (6 : Int32)
  · replace hF := ift c10 hF
    refine q_tableIn (off := 118) (tgt := 127) C dX11_count_9 (by rw [c10]; decide) (by rw [c10]; decide) (by rw [c10] <;> rfl) (by decide) ?_
    refine q_aload_n C 0 dX11_count_127 rfl rfl ?_
    refine qg_9_4 C pi_25 tw_176 dX11_count_128 ?_
    exact q_iret C hr hlk dX11_count_131 hF
  replace hF := ife c10 hF
  by_cases c11 : a1 = (7 : Int32)
  · replace hF := ift c11 hF
    refine q_tableIn (off := 123) (tgt := 132) C dX11_count_9 (by rw [c11]; decide) (by rw [c11]; decide) (by rw [c11] <;> rfl) (by decide) ?_
    refine q_aload_n C 0 dX11_count_132 rfl rfl ?_
    obtain ⟨q12, h13, hF⟩ := bnd hF
    try dsimp only at hF
    refine q_callVi C [] (c_X10_everAsked l D ad ca kz C.2.2.2.2.2.2.1 _ pi_25 _ _ h13) tw_691 gm_X10_everAsked pi_25.1 (pe_9 pi_25.2) rfl ⟨rfl, rfl⟩ ⟨Nat.le_of_ble_eq_true rfl, Nat.le_of_ble_eq_true rfl⟩ rfl (Nat.le_of_ble_eq_true rfl) dX11_count_133 q00 ?_
    exact q_iret C hr hlk dX11_count_136 hF
  replace hF := ife c11 hF
  by_cases c14 : a1 = (8 : Int32)
  · replace hF := ift c14 hF
    refine q_tableIn (off := 128) (tgt := 137) C dX11_count_9 (by rw [c14]; decide) (by rw [c14]; decide) (by rw [c14] <;> rfl) (by decide) ?_
    refine q_aload_n C 0 dX11_count_137 rfl rfl ?_
    obtain ⟨q15, h16, hF⟩ := bnd hF
    try dsimp only at hF
    refine q_callVi C [] (c_X10_askedInAll l D ad ca kz C.2.2.2.2.2.2.1 _ pi_25 _ _ h16) tw_695 gm_X10_askedInAll pi_25.1 (pe_9 pi_25.2) rfl ⟨rfl, rfl⟩ ⟨Nat.le_of_ble_eq_true rfl, Nat.le_of_ble_eq_true rfl⟩ rfl (Nat.le_of_ble_eq_true rfl) dX11_count_138 q00 ?_
    exact q_iret C hr hlk dX11_count_141 hF
  replace hF := ife c14 hF
  by_cases c17 : a1 = (9 : Int32)
  · replace hF := ift c17 hF
    refine q_tableIn (off := 133) (tgt := 142) C dX11_count_9 (by rw [c17]; decide) (by rw [c17]; decide) (by rw [c17] <;> rfl) (by decide) ?_
    refine q_aload_n C 0 dX11_count_142 rfl rfl ?_
    refine qg_9_6 C pi_25 tw_186 dX11_count_143 ?_
    obtain ⟨q18, h19, hF⟩ := bnd hF
    try dsimp only at hF
    refine q_callSi C [.long (σ.2 25 6)] (c_J13_bitCount_95d88 l D ad ca kz C.2.2.2.2.2.2.1 _ _ _ _ h19) tw_699 gm_J13_bitCount_95d88 ⟨rfl, rfl⟩ ⟨Nat.le_of_ble_eq_true rfl, Nat.le_of_ble_eq_true rfl⟩ rfl (Nat.le_of_ble_eq_true rfl) dX11_count_146 q00 ?_
    exact q_iret C hr hlk dX11_count_149 hF
  replace hF := ife c17 hF
  by_cases c20 : a1 = (10 : Int32)
  · replace hF := ift c20 hF
    refine q_tableIn (off := 141) (tgt := 150) C dX11_count_9 (by rw [c20]; decide) (by rw [c20]; decide) (by rw [c20] <;> rfl) (by decide) ?_
    refine q_aload_n C 1 dX11_count_150 rfl rfl ?_
    refine qg_10_4 C pi_0 tw_384 dX11_count_151 ?_
    refine qg_5_4 C pi_18 tw_239 dX11_count_154 ?_
    exact q_iret C hr hlk dX11_count_157 hF
  replace hF := ife c20 hF
  by_cases c21 : a1 = (11 : Int32)
  · replace hF := ift c21 hF
    refine q_tableIn (off := 149) (tgt := 158) C dX11_count_9 (by rw [c21]; decide) (by rw [c21]; decide) (by rw [c21] <;> rfl) (by decide) ?_
    refine q_aload_n C 1 dX11_count_158 rfl rfl ?_
    refine qg_10_6 C pi_0 tw_386 dX11_count_159 ?_
    refine qg_0_0 C pi_94 tw_275 dX11_count_162 ?_
    exact q_iret C hr hlk dX11_count_165 hF
  replace hF := ife c21 hF
  by_cases c22 : a1 = (12 : Int32)
  · replace hF := ift c22 hF
    refine q_tableIn (off := 157) (tgt := 166) C dX11_count_9 (by rw [c22]; decide) (by rw [c22]; decide) (by rw [c22] <;> rfl) (by decide) ?_
    refine q_aload_n C 1 dX11_count_166 rfl rfl ?_
    refine qg_10_4 C pi_0 tw_384 dX11_count_167 ?_
    refine qg_5_6 C pi_18 tw_244 dX11_count_170 ?_
    exact q_iret C hr hlk dX11_count_173 hF
  replace hF := ife c22 hF
  by_cases c23 : a1 = (13 : Int32)
  · replace hF := ift c23 hF
    refine q_tableIn (off := 165) (tgt := 174) C dX11_count_9 (by rw [c23]; decide) (by rw [c23]; decide) (by rw [c23] <;> rfl) (by decide) ?_
    refine q_aload_n C 1 dX11_count_174 rfl rfl ?_
    refine qg_10_0 C pi_0 tw_380 dX11_count_175 ?_
    refine qg_8_1 C pi_1 tw_39 dX11_count_178 ?_
    exact q_iret C hr hlk dX11_count_181 hF
  replace hF := ife c23 hF
  refine q_tableOut (tgt := 182) C dX11_count_9 (by have ec1 := sw_ne c1; have ec2 := sw_ne c2; have ec3 := sw_ne c3; have ec4 := sw_ne c4; have ec5 := sw_ne c5; have ec6 := sw_ne c6; have ec10 := sw_ne c10; have ec11 := sw_ne c11; have ec14 := sw_ne c14; have ec17 := sw_ne c17; have ec20 := sw_ne c20; have ec21 := sw_ne c21; have ec22 := sw_ne c22; have ec23 := sw_ne c23; simp only [sw_lit] at ec1 ec2 ec3 ec4 ec5 ec6 ec10 ec11 ec14 ec17 ec20 ec21 ec22 ec23; omega) (by decide) ?_
  refine q_iconst (v := -1) C dX11_count_182 (by decide) ?_
  exact q_iret C hr hlk dX11_count_183 hF
-- X7_cellsBetween
def L_X7_cellsBetween_18 (n : Nat) : Nat → Int64 → Int64 → Int32 → PS → Option (Int64 × Int32 × PS)
  | 0, _, _, _, _ => none
  | k + 1, x2, x4, x6, σ => (if (lg_cmp (x4 &&& x2) (0 : Int64)) = 0 then (if (36 : Int32) ≤ x6 then some (x2, x6, σ) else (if 0 ≤ x6 ∧ x6.toNatClampNeg < 37 then (F_X10_spread n 242 x4 (psJ σ 248 x6.toNatClampNeg x4)).bind (fun q4 => L_X7_cellsBetween_18 n k x2 (x4 ||| (q4.1 &&& ((q4.2.2 242 6) ^^^ (-1 : Int64)))) (x6 + 1) q4.2) else none)) else some (x2, x6, σ))
def L_X7_cellsBetween_87 (n : Nat) : Nat → Int64 → Int64 → Int32 → PS → Option (Int64 × PS)
  | 0, _, _, _, _ => none
  | k + 1, x7, x9, x11, σ => (if x11 ≤ 0 then some (x7, σ) else (F_X10_spread n 242 x9 σ).bind (fun q9 => (if 0 ≤ x11 ∧ x11.toNatClampNeg < 37 then L_X7_cellsBetween_87 n k (x7 ||| ((q9.1 &&& (q9.2.2 248 x11.toNatClampNeg)) &&& (-(q9.1 &&& (q9.2.2 248 x11.toNatClampNeg))))) ((q9.1 &&& (q9.2.2 248 x11.toNatClampNeg)) &&& (-(q9.1 &&& (q9.2.2 248 x11.toNatClampNeg)))) (x11 + (-1)) q9.2 else none)))
def F_X7_cellsBetween (n : Nat) (a1 : Int32) (σ : PS) : Option (Int64 × PS) := (L_X7_cellsBetween_18 n n ((1 : Int64) <<< (a1.toInt64 &&& 63)) ((1 : Int64) <<< ((σ.1 242 2).toInt64 &&& 63)) (0 : Int32) σ).bind (fun o6 => (L_X7_cellsBetween_87 n n (0 : Int64) o6.1 (o6.2.1 - (1 : Int32)) o6.2.2).bind (fun o12 => some (o12.1, o12.2)))
theorem gm_X7_cellsBetween : gM "AskedCamp$Siege" yX7_cellsBetween (Cond.code yX7_cellsBetween cX7_cellsBetween 14 (Option.some Jvm.ClassFile.FieldType.long)) 1 := ⟨by decide +kernel, tw_953, tw_p22, tw_11, tw_954⟩
set_option maxHeartbeats 4000000 in
set_option maxRecDepth 100000 in
theorem l_X7_cellsBetween_18 {p : Program} {l : Launch} {e : Env} {R : Room} {s : State} {m : MethodId} {args : Array Value} {below : List Frame} {meth : Method} {c : Code} {D : va_G} {ad : Nat → Nat} {ca : Nat → ClassId} {kz : Nat → Nat} {Q : State → Prop} (C : pC p s m args c cX7_cellsBetween "AskedCamp$Siege" 14 D ad ca kz) (hR : 1 ≤ R.frames ∧ 28 ≤ R.locals) {n : Nat} (o : Int64 × Int32 × PS) (hx0 : PW p l e R s m args below meth c 14 D ad ca 0 0 Q (o.2.2) 75 [(0, .ref (ad (240))), (2, .long o.1), (6, .int o.2.1)] []) : ∀ (k : Nat) (x2 : Int64) (x4 : Int64) (x6 : Int32) (σ : PS), L_X7_cellsBetween_18 n k x2 x4 x6 σ = some o → PW p l e R s m args below meth c 14 D ad ca 0 0 Q σ 18 [(0, .ref (ad (240))), (2, .long x2), (4, .long x4), (6, .int x6)] [] := by
  intro k
  induction k with
  | zero => intro x2 x4 x6 σ hF; exact nomatch (show (none : Option (Int64 × Int32 × PS)) = some o from hF)
  | succ k ih =>
    intro x2 x4 x6 σ hF
    rw [L_X7_cellsBetween_18] at hF
    refine q_lload C 2 dX7_cellsBetween_18 rfl ?_
    refine q_lload_n C 1 dX7_cellsBetween_20 rfl rfl ?_
    refine q_land C dX7_cellsBetween_21 ?_
    refine q_lconst (v := 0) C dX7_cellsBetween_22 (by decide) ?_
    refine q_lcmp C dX7_cellsBetween_23 ?_
    refine q_if_ne (tgt := 75) C dX7_cellsBetween_24 (by decide) (fun c1 => ?_) (fun c1 => ?_)
    · replace hF := ife c1 hF
      cases hF
      refine q_sub [0, 1, 3] rfl ?_
      exact hx0
    · replace hF := ift c1 hF
      refine q_iload C 3 dX7_cellsBetween_27 rfl ?_
      refine q_bipush (v := 36) C dX7_cellsBetween_29 (by decide) ?_
      refine q_icmp_ge (tgt := 75) C dX7_cellsBetween_31 (by decide) (fun c2 => ?_) (fun c2 => ?_)
      · replace hF := ift c2 hF
        cases hF
        refine q_sub [0, 1, 3] rfl ?_
        exact hx0
      · replace hF := ife c2 hF
        refine q_aload_n C 0 dX7_cellsBetween_34 rfl rfl ?_
        refine qg_6_5 C pi_240 tw_366 dX7_cellsBetween_35 ?_
        refine q_iload C 3 dX7_cellsBetween_38 rfl ?_
        refine q_lload C 2 dX7_cellsBetween_40 rfl ?_
        obtain ⟨g3, hF⟩ := grd hF
        refine q_last C pa_248 (vp_of g3) dX7_cellsBetween_42 ?_
        refine q_lload C 2 dX7_cellsBetween_43 rfl ?_
        refine q_aload_n C 0 dX7_cellsBetween_45 rfl rfl ?_
        refine qg_6_4 C pi_240 tw_365 dX7_cellsBetween_46 ?_
        refine q_lload C 2 dX7_cellsBetween_49 rfl ?_
        obtain ⟨q4, h5, hF⟩ := bnd hF
        try dsimp only at hF
        refine q_callVl C [.long x4] (c_X10_spread l D ad ca kz C.2.2.2.2.2.2.1 _ pi_242 _ _ _ h5) tw_955 gm_X10_spread pi_242.1 (pe_9 pi_242.2) rfl ⟨rfl, rfl⟩ ⟨Nat.le_trans (Nat.le_of_ble_eq_true rfl) hR.1, Nat.le_trans (Nat.le_of_ble_eq_true rfl) hR.2⟩ rfl (Nat.le_of_ble_eq_true rfl) dX7_cellsBetween_51 q00 ?_
        refine q_aload_n C 0 dX7_cellsBetween_54 rfl rfl ?_
        refine qg_6_4 C pi_240 tw_365 dX7_cellsBetween_55 ?_
        refine qg_9_6 C pi_242 tw_183 dX7_cellsBetween_58 ?_
        refine q_ldc2 C dX7_cellsBetween_61 tw_956 ?_
        refine q_lxor C dX7_cellsBetween_64 ?_
        refine q_land C dX7_cellsBetween_65 ?_
        refine q_lor C dX7_cellsBetween_66 ?_
        refine q_lstore C [(4, .long (x4 ||| (q4.1 &&& ((q4.2.2 242 6) ^^^ (-1 : Int64))))), (0, .ref (ad (240))), (2, .long x2), (6, .int x6)] dX7_cellsBetween_67 (by decide) rfl ?_
        refine q_iinc C 3 [(6, .int (x6 + 1)), (4, .long (x4 ||| (q4.1 &&& ((q4.2.2 242 6) ^^^ (-1 : Int64))))), (0, .ref (ad (240))), (2, .long x2)] dX7_cellsBetween_69 rfl rfl (by decide) rfl ?_
        refine q_goto (tgt := 18) C dX7_cellsBetween_72 (by decide) ?_
        refine q_sub [2, 3, 1, 0] rfl ?_
        exact ih _ _ _ _ hF
set_option maxHeartbeats 4000000 in
set_option maxRecDepth 100000 in
theorem l_X7_cellsBetween_87 {p : Program} {l : Launch} {e : Env} {R : Room} {s : State} {m : MethodId} {args : Array Value} {below : List Frame} {meth : Method} {c : Code} {D : va_G} {ad : Nat → Nat} {ca : Nat → ClassId} {kz : Nat → Nat} {Q : State → Prop} (C : pC p s m args c cX7_cellsBetween "AskedCamp$Siege" 14 D ad ca kz) (hR : 1 ≤ R.frames ∧ 28 ≤ R.locals) {n : Nat} (o : Int64 × PS) (hx0 : PW p l e R s m args below meth c 14 D ad ca 0 0 Q (o.2) 132 [(7, .long o.1)] []) : ∀ (k : Nat) (x7 : Int64) (x9 : Int64) (x11 : Int32) (σ : PS), L_X7_cellsBetween_87 n k x7 x9 x11 σ = some o → PW p l e R s m args below meth c 14 D ad ca 0 0 Q σ 87 [(0, .ref (ad (240))), (7, .long x7), (9, .long x9), (11, .int x11)] [] := by
  intro k
  induction k with
  | zero => intro x7 x9 x11 σ hF; exact nomatch (show (none : Option (Int64 × PS)) = some o from hF)
  | succ k ih =>
    intro x7 x9 x11 σ hF
    rw [L_X7_cellsBetween_87] at hF
    refine q_iload C 3 dX7_cellsBetween_87 rfl ?_
    refine q_if_le (tgt := 132) C dX7_cellsBetween_89 (by decide) (fun c8 => ?_) (fun c8 => ?_)
    · replace hF := ift c8 hF
      cases hF
      refine q_sub [1] rfl ?_
      exact hx0
    · replace hF := ife c8 hF
      refine q_aload_n C 0 dX7_cellsBetween_92 rfl rfl ?_
      refine qg_6_4 C pi_240 tw_365 dX7_cellsBetween_93 ?_
      refine q_lload C 2 dX7_cellsBetween_96 rfl ?_
      obtain ⟨q9, h10, hF⟩ := bnd hF
      try dsimp only at hF
      refine q_callVl C [.long x9] (c_X10_spread l D ad ca kz C.2.2.2.2.2.2.1 _ pi_242 _ _ _ h10) tw_955 gm_X10_spread pi_242.1 (pe_9 pi_242.2) rfl ⟨rfl, rfl⟩ ⟨Nat.le_trans (Nat.le_of_ble_eq_true rfl) hR.1, Nat.le_trans (Nat.le_of_ble_eq_true rfl) hR.2⟩ rfl (Nat.le_of_ble_eq_true rfl) dX7_cellsBetween_98 q00 ?_
      refine q_aload_n C 0 dX7_cellsBetween_101 rfl rfl ?_
      refine qg_6_5 C pi_240 tw_366 dX7_cellsBetween_102 ?_
      refine q_iload C 3 dX7_cellsBetween_105 rfl ?_
      obtain ⟨g11, hF⟩ := grd hF
      refine q_lald C pa_248 (vp_of g11) dX7_cellsBetween_107 ?_
      refine q_land C dX7_cellsBetween_108 ?_
      refine q_lstore C [(12, .long (q9.1 &&& (q9.2.2 248 x11.toNatClampNeg))), (0, .ref (ad (240))), (7, .long x7), (9, .long x9), (11, .int x11)] dX7_cellsBetween_109 (by decide) rfl ?_
      refine q_lload C 0 dX7_cellsBetween_111 rfl ?_
      refine q_lload C 0 dX7_cellsBetween_113 rfl ?_
      refine q_lneg C dX7_cellsBetween_115 ?_
      refine q_land C dX7_cellsBetween_116 ?_
      refine q_lstore C [(9, .long ((q9.1 &&& (q9.2.2 248 x11.toNatClampNeg)) &&& (-(q9.1 &&& (q9.2.2 248 x11.toNatClampNeg))))), (12, .long (q9.1 &&& (q9.2.2 248 x11.toNatClampNeg))), (0, .ref (ad (240))), (7, .long x7), (11, .int x11)] dX7_cellsBetween_117 (by decide) rfl ?_
      refine q_lload C 3 dX7_cellsBetween_119 rfl ?_
      refine q_lload C 0 dX7_cellsBetween_121 rfl ?_
      refine q_lor C dX7_cellsBetween_123 ?_
      refine q_lstore C [(7, .long (x7 ||| ((q9.1 &&& (q9.2.2 248 x11.toNatClampNeg)) &&& (-(q9.1 &&& (q9.2.2 248 x11.toNatClampNeg)))))), (9, .long ((q9.1 &&& (q9.2.2 248 x11.toNatClampNeg)) &&& (-(q9.1 &&& (q9.2.2 248 x11.toNatClampNeg))))), (12, .long (q9.1 &&& (q9.2.2 248 x11.toNatClampNeg))), (0, .ref (ad (240))), (11, .int x11)] dX7_cellsBetween_124 (by decide) rfl ?_
      refine q_iinc C 4 [(11, .int (x11 + (-1))), (7, .long (x7 ||| ((q9.1 &&& (q9.2.2 248 x11.toNatClampNeg)) &&& (-(q9.1 &&& (q9.2.2 248 x11.toNatClampNeg)))))), (9, .long ((q9.1 &&& (q9.2.2 248 x11.toNatClampNeg)) &&& (-(q9.1 &&& (q9.2.2 248 x11.toNatClampNeg))))), (12, .long (q9.1 &&& (q9.2.2 248 x11.toNatClampNeg))), (0, .ref (ad (240)))] dX7_cellsBetween_126 rfl rfl (by decide) rfl ?_
      refine q_goto (tgt := 87) C dX7_cellsBetween_129 (by decide) ?_
      refine q_sub [4, 1, 2, 0] rfl ?_
      exact ih _ _ _ _ hF
set_option maxHeartbeats 4000000 in
set_option maxRecDepth 100000 in
theorem c_X7_cellsBetween (l : Launch) (D : va_G) (ad : Nat → Nat) (ca : Nat → ClassId) (kz : Nat → Nat) (hJ : pInj ad) (n : Nat) (a1 : Int32) (σ : PS) (out : Int64 × PS) (hF : F_X7_cellsBetween n a1 σ = some out) : Met l yX7_cellsBetween (Cond.code yX7_cellsBetween cX7_cellsBetween 14 (Option.some Jvm.ClassFile.FieldType.long) :: gw_tbl) { frames := 1, cells := 0, slots := 0, locals := 28 } (va_Pc [.ref (ad (240)), .int a1] (pU D ad ca kz σ)) (pQl D ad ca out) 0 0 (pAD ad) := by
  refine q_entry (own := "AskedCamp$Siege") hJ (by decide) rfl (Nat.le_of_ble_eq_true rfl) (fun p e s m below meth c C hr hlk => ?_)
  refine q_lv [(0, .ref (ad (240))), (1, .int a1)] rfl ?_
  rw [F_X7_cellsBetween] at hF
  refine q_lconst (v := 1) C dX7_cellsBetween_0 (by decide) ?_
  refine q_iload_n C 1 dX7_cellsBetween_1 rfl rfl ?_
  refine q_lshl C dX7_cellsBetween_2 ?_
  refine q_lstore_n C [(2, .long ((1 : Int64) <<< (a1.toInt64 &&& 63))), (0, .ref (ad (240))), (1, .int a1)] dX7_cellsBetween_3 rfl (by decide) rfl ?_
  refine q_lconst (v := 1) C dX7_cellsBetween_4 (by decide) ?_
  refine q_aload_n C 1 dX7_cellsBetween_5 rfl rfl ?_
  refine qg_6_4 C pi_240 tw_365 dX7_cellsBetween_6 ?_
  refine qg_9_2 C pi_242 tw_165 dX7_cellsBetween_9 ?_
  refine q_lshl C dX7_cellsBetween_12 ?_
  refine q_lstore C [(4, .long ((1 : Int64) <<< ((σ.1 242 2).toInt64 &&& 63))), (2, .long ((1 : Int64) <<< (a1.toInt64 &&& 63))), (0, .ref (ad (240))), (1, .int a1)] dX7_cellsBetween_13 (by decide) rfl ?_
  refine q_iconst (v := 0) C dX7_cellsBetween_15 (by decide) ?_
  refine q_istore C [(6, .int 0), (4, .long ((1 : Int64) <<< ((σ.1 242 2).toInt64 &&& 63))), (2, .long ((1 : Int64) <<< (a1.toInt64 &&& 63))), (0, .ref (ad (240))), (1, .int a1)] dX7_cellsBetween_16 (by decide) rfl ?_
  obtain ⟨o6, h7, hF⟩ := bnd hF
  try dsimp only at hF
  refine q_sub [3, 2, 1, 0] rfl ?_
  refine l_X7_cellsBetween_18 C ⟨Nat.le_of_ble_eq_true rfl, Nat.le_of_ble_eq_true rfl⟩ o6 ?_ n _ _ _ _ h7
  refine q_lconst (v := 0) C dX7_cellsBetween_75 (by decide) ?_
  refine q_lstore C [(7, .long ((0 : Int64))), (0, .ref (ad (240))), (2, .long o6.1), (6, .int o6.2.1)] dX7_cellsBetween_76 (by decide) rfl ?_
  refine q_lload_n C 2 dX7_cellsBetween_78 rfl rfl ?_
  refine q_lstore C [(9, .long o6.1), (7, .long ((0 : Int64))), (0, .ref (ad (240))), (2, .long o6.1), (6, .int o6.2.1)] dX7_cellsBetween_79 (by decide) rfl ?_
  refine q_iload C 4 dX7_cellsBetween_81 rfl ?_
  refine q_iconst (v := 1) C dX7_cellsBetween_83 (by decide) ?_
  refine q_isub C dX7_cellsBetween_84 ?_
  refine q_istore C [(11, .int (o6.2.1 - (1 : Int32))), (9, .long o6.1), (7, .long ((0 : Int64))), (0, .ref (ad (240))), (2, .long o6.1), (6, .int o6.2.1)] dX7_cellsBetween_85 (by decide) rfl ?_
  obtain ⟨o12, h13, hF⟩ := bnd hF
  try dsimp only at hF
  refine q_sub [3, 2, 1, 0] rfl ?_
  refine l_X7_cellsBetween_87 C ⟨Nat.le_of_ble_eq_true rfl, Nat.le_of_ble_eq_true rfl⟩ o12 ?_ n _ _ _ _ h13
  refine q_lload C 0 dX7_cellsBetween_132 rfl ?_
  exact q_lret C hr hlk dX7_cellsBetween_134 hF
-- X7_isCutBy
def L_X7_isCutBy_43 (n : Nat) (rc : Int32 → Int32 → PS → Option (Int32 × PS)) : Nat → Int32 → Int32 → Int64 → Int32 → PS → Option (Nat × PS)
  | 0, _, _, _, _, _ => none
  | k + 1, x1, x2, x4, x6, σ => (if (σ.1 242 1) ≤ x6 then some (1, σ) else (if (lg_cmp (((x4.toUInt64 >>> (x6.toInt64.toUInt64 &&& Int64.toUInt64 63)).toInt64) &&& (1 : Int64)) (0 : Int64)) = 0 then L_X7_isCutBy_43 n rc k x1 x2 x4 (x6 + 1) σ else (rc x1 (x2 - (1 : Int32)) (psJ σ 242 6 ((σ.2 242 6) ||| ((1 : Int64) <<< (x6.toInt64 &&& 63))))).bind (fun q10 => (if q10.1 = 0 then L_X7_isCutBy_43 n rc k x1 x2 x4 (x6 + 1) (psJ q10.2 242 6 ((q10.2.2 242 6) &&& (((1 : Int64) <<< (x6.toInt64 &&& 63)) ^^^ (-1 : Int64)))) else some (0, psJ q10.2 242 6 ((q10.2.2 242 6) &&& (((1 : Int64) <<< (x6.toInt64 &&& 63)) ^^^ (-1 : Int64))))))))
def F_X7_isCutBy (n : Nat) : Nat → Int32 → Int32 → PS → Option (Int32 × PS)
  | 0, _, _, _ => none
  | d + 1, a1, a2, σ => (F_X10_distance n 242 (σ.1 242 2) ((1 : Int64) <<< (a1.toInt64 &&& 63)) σ).bind (fun q1 => (if q1.1 = (-1 : Int32) then some ((1 : Int32), q1.2) else (if a2 ≤ 0 then some ((0 : Int32), q1.2) else (if a2 ≤ (3 : Int32) then (F_X7_cellsBetween n a1 q1.2).bind (fun q6 => (L_X7_isCutBy_43 n (F_X7_isCutBy n d) n a1 a2 q6.1 (0 : Int32) q6.2).bind (fun o13 => (if o13.1 = 0 then some ((1 : Int32), o13.2) else some ((0 : Int32), o13.2)))) else some ((0 : Int32), q1.2)))))
theorem gm_X7_isCutBy : gS yX7_isCutBy (Cond.code yX7_isCutBy cX7_isCutBy 8 (Option.some Jvm.ClassFile.FieldType.boolean)) 3 := ⟨by decide +kernel, tw_948, tw_11, tw_949⟩
set_option maxHeartbeats 4000000 in
set_option maxRecDepth 100000 in
theorem l_X7_isCutBy_43 {p : Program} {l : Launch} {e : Env} {R : Room} {s : State} {m : MethodId} {args : Array Value} {below : List Frame} {meth : Method} {c : Code} {D : va_G} {ad : Nat → Nat} {ca : Nat → ClassId} {kz : Nat → Nat} {Q : State → Prop} (C : pC p s m args c cX7_isCutBy "AskedCamp$Siege" 8 D ad ca kz) (hR : 2 ≤ R.frames ∧ 61 ≤ R.locals) {n : Nat} {rc : Int32 → Int32 → PS → Option (Int32 × PS)} {fr lo : Nat} (hrc : ∀ (a1 : Int32) (a2 : Int32) (σ : PS) (out : Int32 × PS), rc a1 a2 σ = some out → Met l yX7_isCutBy (Cond.code yX7_isCutBy cX7_isCutBy 8 (Option.some Jvm.ClassFile.FieldType.boolean) :: gw_tbl) { frames := fr, cells := 0, slots := 0, locals := lo } (va_Pc [.ref (ad (240)), .int a1, .int a2] (pU D ad ca kz σ)) (pQi D ad ca out) 0 0 (pAD ad)) (hRr : fr + 1 ≤ R.frames ∧ 8 + (8 + 11) + lo ≤ R.locals) (o : Nat × PS) (hx0 : o.1 = 0 → PW p l e R s m args below meth c 8 D ad ca 0 0 Q (o.2) 109 [] []) (hx1 : o.1 = 1 → PW p l e R s m args below meth c 8 D ad ca 0 0 Q (o.2) 117 [] []) : ∀ (k : Nat) (x1 : Int32) (x2 : Int32) (x4 : Int64) (x6 : Int32) (σ : PS), L_X7_isCutBy_43 n rc k x1 x2 x4 x6 σ = some o → PW p l e R s m args below meth c 8 D ad ca 0 0 Q σ 43 [(0, .ref (ad (240))), (1, .int x1), (2, .int x2), (3, .ref (ad (242))), (4, .long x4), (6, .int x6)] [] := by
  intro k
  induction k with
  | zero => intro x1 x2 x4 x6 σ hF; exact nomatch (show (none : Option (Nat × PS)) = some o from hF)
  | succ k ih =>
    intro x1 x2 x4 x6 σ hF
    rw [L_X7_isCutBy_43] at hF
    refine q_iload C 5 dX7_isCutBy_43 rfl ?_
    refine q_aload_n C 3 dX7_isCutBy_45 rfl rfl ?_
    refine qg_9_1 C pi_242 tw_160 dX7_isCutBy_46 ?_
    refine q_icmp_ge (tgt := 117) C dX7_isCutBy_49 (by decide) (fun c8 => ?_) (fun c8 => ?_)
    · replace hF := ift c8 hF
      cases hF
      refine q_sub [] rfl ?_
      exact hx1 rfl
    · replace hF := ife c8 hF
      refine q_lload C 4 dX7_isCutBy_52 rfl ?_
      refine q_iload C 5 dX7_isCutBy_54 rfl ?_
      refine q_lushr C dX7_isCutBy_56 ?_
      refine q_lconst (v := 1) C dX7_isCutBy_57 (by decide) ?_
      refine q_land C dX7_isCutBy_58 ?_
      refine q_lconst (v := 0) C dX7_isCutBy_59 (by decide) ?_
      refine q_lcmp C dX7_isCutBy_60 ?_
      refine q_if_eq (tgt := 111) C dX7_isCutBy_61 (by decide) (fun c9 => ?_) (fun c9 => ?_)
      · replace hF := ift c9 hF
        refine q_iinc C 5 [(6, .int (x6 + 1)), (0, .ref (ad (240))), (1, .int x1), (2, .int x2), (3, .ref (ad (242))), (4, .long x4)] dX7_isCutBy_111 rfl rfl (by decide) rfl ?_
        refine q_goto (tgt := 43) C dX7_isCutBy_114 (by decide) ?_
        refine q_sub [1, 2, 3, 4, 5, 0] rfl ?_
        exact ih _ _ _ _ _ hF
      · replace hF := ife c9 hF
        refine q_aload_n C 3 dX7_isCutBy_64 rfl rfl ?_
        refine q_dup C dX7_isCutBy_65 rfl ?_
        refine qg_9_6 C pi_242 tw_183 dX7_isCutBy_66 ?_
        refine q_lconst (v := 1) C dX7_isCutBy_69 (by decide) ?_
        refine q_iload C 5 dX7_isCutBy_70 rfl ?_
        refine q_lshl C dX7_isCutBy_72 ?_
        refine q_lor C dX7_isCutBy_73 ?_
        refine qs_9_6 C pi_242 tw_183 dX7_isCutBy_74 ?_
        refine q_aload_n C 0 dX7_isCutBy_77 rfl rfl ?_
        refine q_iload_n C 1 dX7_isCutBy_78 rfl rfl ?_
        refine q_iload_n C 2 dX7_isCutBy_79 rfl rfl ?_
        refine q_iconst (v := 1) C dX7_isCutBy_80 (by decide) ?_
        refine q_isub C dX7_isCutBy_81 ?_
        obtain ⟨q10, h11, hF⟩ := bnd hF
        try dsimp only at hF
        refine q_callSi C [.ref (ad (240)), .int x1, .int (x2 - (1 : Int32))] (hrc _ _ _ _ h11) tw_947 gm_X7_isCutBy ⟨rfl, rfl⟩ hRr rfl (Nat.le_of_ble_eq_true rfl) dX7_isCutBy_82 q00 ?_
        refine q_istore C [(7, .int q10.1), (0, .ref (ad (240))), (1, .int x1), (2, .int x2), (3, .ref (ad (242))), (4, .long x4), (6, .int x6)] dX7_isCutBy_85 (by decide) rfl ?_
        refine q_aload_n C 4 dX7_isCutBy_87 rfl rfl ?_
        refine q_dup C dX7_isCutBy_88 rfl ?_
        refine qg_9_6 C pi_242 tw_183 dX7_isCutBy_89 ?_
        refine q_lconst (v := 1) C dX7_isCutBy_92 (by decide) ?_
        refine q_iload C 6 dX7_isCutBy_93 rfl ?_
        refine q_lshl C dX7_isCutBy_95 ?_
        refine q_ldc2 C dX7_isCutBy_96 tw_956 ?_
        refine q_lxor C dX7_isCutBy_99 ?_
        refine q_land C dX7_isCutBy_100 ?_
        refine qs_9_6 C pi_242 tw_183 dX7_isCutBy_101 ?_
        refine q_iload C 0 dX7_isCutBy_104 rfl ?_
        refine q_if_eq (tgt := 111) C dX7_isCutBy_106 (by decide) (fun c12 => ?_) (fun c12 => ?_)
        · replace hF := ift c12 hF
          refine q_iinc C 6 [(6, .int (x6 + 1)), (7, .int q10.1), (0, .ref (ad (240))), (1, .int x1), (2, .int x2), (3, .ref (ad (242))), (4, .long x4)] dX7_isCutBy_111 rfl rfl (by decide) rfl ?_
          refine q_goto (tgt := 43) C dX7_isCutBy_114 (by decide) ?_
          refine q_sub [2, 3, 4, 5, 6, 0] rfl ?_
          exact ih _ _ _ _ _ hF
        · replace hF := ife c12 hF
          cases hF
          refine q_sub [] rfl ?_
          exact hx0 rfl
set_option maxHeartbeats 4000000 in
set_option maxRecDepth 100000 in
theorem c_X7_isCutBy_d (l : Launch) (D : va_G) (ad : Nat → Nat) (ca : Nat → ClassId) (kz : Nat → Nat) (hJ : pInj ad) (n : Nat) : ∀ (d : Nat) (a1 : Int32) (a2 : Int32) (σ : PS) (out : Int32 × PS) (_ : F_X7_isCutBy n d a1 a2 σ = some out), Met l yX7_isCutBy (Cond.code yX7_isCutBy cX7_isCutBy 8 (Option.some Jvm.ClassFile.FieldType.boolean) :: gw_tbl) { frames := 2 + d, cells := 0, slots := 0, locals := 61 + 27 * d } (va_Pc [.ref (ad (240)), .int a1, .int a2] (pU D ad ca kz σ)) (pQi D ad ca out) 0 0 (pAD ad) := by
  intro d
  induction d with
  | zero => intro a1 a2 σ out hF; exact nomatch (show (none : Option (Int32 × PS)) = some out from hF)
  | succ d hrc =>
    intro a1 a2 σ out hF
    refine q_entry (own := "AskedCamp$Siege") hJ (by decide) rfl (Nat.le_of_ble_eq_true rfl) (fun p e s m below meth c C hr hlk => ?_)
    refine q_lv [(0, .ref (ad (240))), (1, .int a1), (2, .int a2)] rfl ?_
    rw [F_X7_isCutBy] at hF
    have hR : 2 ≤ 2 + (d + 1) ∧ 61 ≤ 61 + 27 * (d + 1) := ⟨Nat.le_add_right _ _, Nat.le_add_right _ _⟩
    have hRr : (2 + d) + 1 ≤ 2 + (d + 1) ∧ 8 + (8 + 11) + (61 + 27 * d) ≤ 61 + 27 * (d + 1) := ⟨by omega, by omega⟩
    refine q_aload_n C 0 dX7_isCutBy_0 rfl rfl ?_
    refine qg_6_4 C pi_240 tw_365 dX7_isCutBy_1 ?_
    refine q_astore_n C [(3, .ref (ad (242))), (0, .ref (ad (240))), (1, .int a1), (2, .int a2)] dX7_isCutBy_4 rfl (by decide) rfl ?_
    refine q_aload_n C 0 dX7_isCutBy_5 rfl rfl ?_
    refine q_aload_n C 0 dX7_isCutBy_6 rfl rfl ?_
    refine qg_9_2 C pi_242 tw_165 dX7_isCutBy_7 ?_
    refine q_lconst (v := 1) C dX7_isCutBy_10 (by decide) ?_
    refine q_iload_n C 2 dX7_isCutBy_11 rfl rfl ?_
    refine q_lshl C dX7_isCutBy_12 ?_
    obtain ⟨q1, h2, hF⟩ := bnd hF
    try dsimp only at hF
    refine q_callVi C [.int (σ.1 242 2), .long ((1 : Int64) <<< (a1.toInt64 &&& 63))] (c_X10_distance l D ad ca kz C.2.2.2.2.2.2.1 _ pi_242 _ _ _ _ h2) tw_950 gm_X10_distance pi_242.1 (pe_9 pi_242.2) rfl ⟨rfl, rfl⟩ ⟨Nat.le_trans (Nat.le_of_ble_eq_true rfl) hR.1, Nat.le_trans (Nat.le_of_ble_eq_true rfl) hR.2⟩ rfl (Nat.le_of_ble_eq_true rfl) dX7_isCutBy_13 q00 ?_
    refine q_iconst (v := -1) C dX7_isCutBy_16 (by decide) ?_
    refine q_icmp_ne (tgt := 22) C dX7_isCutBy_17 (by decide) (fun c3 => ?_) (fun c3 => ?_)
    · replace hF := ife c3 hF
      refine q_iload_n C 3 dX7_isCutBy_22 rfl rfl ?_
      refine q_if_le (tgt := 31) C dX7_isCutBy_23 (by decide) (fun c4 => ?_) (fun c4 => ?_)
      · replace hF := ift c4 hF
        refine q_iconst (v := 0) C dX7_isCutBy_31 (by decide) ?_
        exact q_zret C hr hlk dX7_isCutBy_32 (by decide) hF
      · replace hF := ife c4 hF
        refine q_iload_n C 3 dX7_isCutBy_26 rfl rfl ?_
        refine q_iconst (v := 3) C dX7_isCutBy_27 (by decide) ?_
        refine q_icmp_le (tgt := 33) C dX7_isCutBy_28 (by decide) (fun c5 => ?_) (fun c5 => ?_)
        · replace hF := ift c5 hF
          refine q_aload_n C 1 dX7_isCutBy_33 rfl rfl ?_
          refine q_iload_n C 2 dX7_isCutBy_34 rfl rfl ?_
          obtain ⟨q6, h7, hF⟩ := bnd hF
          try dsimp only at hF
          refine q_callVl C [.int a1] (c_X7_cellsBetween l D ad ca kz C.2.2.2.2.2.2.1 _ _ _ _ h7) tw_951 gm_X7_cellsBetween pi_240.1 (pe_6 pi_240.2) rfl ⟨rfl, rfl⟩ ⟨Nat.le_trans (Nat.le_of_ble_eq_true rfl) hR.1, Nat.le_trans (Nat.le_of_ble_eq_true rfl) hR.2⟩ rfl (Nat.le_of_ble_eq_true rfl) dX7_isCutBy_35 q00 ?_
          refine q_lstore C [(4, .long q6.1), (3, .ref (ad (242))), (0, .ref (ad (240))), (1, .int a1), (2, .int a2)] dX7_isCutBy_38 (by decide) rfl ?_
          refine q_iconst (v := 0) C dX7_isCutBy_40 (by decide) ?_
          refine q_istore C [(6, .int 0), (4, .long q6.1), (3, .ref (ad (242))), (0, .ref (ad (240))), (1, .int a1), (2, .int a2)] dX7_isCutBy_41 (by decide) rfl ?_
          obtain ⟨o13, h14, hF⟩ := bnd hF
          try dsimp only at hF
          refine q_sub [3, 4, 5, 2, 1, 0] rfl ?_
          refine l_X7_isCutBy_43 C ⟨hR.1, hR.2⟩ hrc hRr o13 (fun eo13_0 => ?_) (fun eo13_1 => ?_) n _ _ _ _ _ h14
          · -- exit 0
            replace hF := ift eo13_0 hF
            refine q_iconst (v := 1) C dX7_isCutBy_109 (by decide) ?_
            exact q_zret C hr hlk dX7_isCutBy_110 (by decide) hF
          · -- exit 1
            replace hF := ife (by rw [eo13_1]; decide) hF
            refine q_iconst (v := 0) C dX7_isCutBy_117 (by decide) ?_
            exact q_zret C hr hlk dX7_isCutBy_118 (by decide) hF
        · replace hF := ife c5 hF
          refine q_iconst (v := 0) C dX7_isCutBy_31 (by decide) ?_
          exact q_zret C hr hlk dX7_isCutBy_32 (by decide) hF
    · replace hF := ift c3 hF
      refine q_iconst (v := 1) C dX7_isCutBy_20 (by decide) ?_
      exact q_zret C hr hlk dX7_isCutBy_21 (by decide) hF
theorem c_X7_isCutBy (l : Launch) (D : va_G) (ad : Nat → Nat) (ca : Nat → ClassId) (kz : Nat → Nat) (hJ : pInj ad) (n : Nat) (a1 : Int32) (a2 : Int32) (σ : PS) (out : Int32 × PS) (hF : F_X7_isCutBy n 6 a1 a2 σ = some out) : Met l yX7_isCutBy (Cond.code yX7_isCutBy cX7_isCutBy 8 (Option.some Jvm.ClassFile.FieldType.boolean) :: gw_tbl) { frames := 8, cells := 0, slots := 0, locals := 223 } (va_Pc [.ref (ad (240)), .int a1, .int a2] (pU D ad ca kz σ)) (pQi D ad ca out) 0 0 (pAD ad) := c_X7_isCutBy_d l D ad ca kz hJ n 6 a1 a2 σ out hF
-- X7_findCut
def L_X7_findCut_24 (n : Nat) (a1 : Nat) : Nat → Int32 → Int32 → PS → Option (Int32 × PS)
  | 0, _, _, _ => none
  | k + 1, x3, x4, σ => (if (3 : Int32) < x4 then some (x3, σ) else (if (σ.1 240 0) = (-2 : Int32) then (F_X7_isCutBy n 6 x3 x4 σ).bind (fun q6 => (if q6.1 = 0 then L_X7_findCut_24 n a1 k x3 (x4 + 1) q6.2 else L_X7_findCut_24 n a1 k x3 (x4 + 1) (psI q6.2 240 0 x4))) else some (x3, σ)))
def L_X7_findCut_67 (n : Nat) (a1 : Nat) : Nat → Int32 → Int32 → Int32 → PS → Option (PS)
  | 0, _, _, _, _ => none
  | k + 1, x3, x4, x5, σ => (if (σ.1 a1 1) ≤ x5 then some σ else (if (σ.1 240 0) ≤ x4 then some σ else (if x5 = (σ.1 a1 2) then L_X7_findCut_67 n a1 k x3 x4 (x5 + 1) σ else (if x5 = x3 then L_X7_findCut_67 n a1 k x3 x4 (x5 + 1) σ else (F_X10_isFree n a1 x5 σ).bind (fun q15 => (if q15.1 = 0 then L_X7_findCut_67 n a1 k x3 x4 (x5 + 1) q15.2 else (F_X7_isCutBy n 6 x3 ((((psJ q15.2 242 6 ((q15.2.2 242 6) ||| ((1 : Int64) <<< (x5.toInt64 &&& 63)))).1 240 0) - x4) - (1 : Int32)) (psJ q15.2 242 6 ((q15.2.2 242 6) ||| ((1 : Int64) <<< (x5.toInt64 &&& 63))))).bind (fun q18 => (if q18.1 = 0 then L_X7_findCut_67 n a1 k x3 x4 (x5 + 1) (psJ q18.2 242 6 ((q18.2.2 242 6) &&& (((1 : Int64) <<< (x5.toInt64 &&& 63)) ^^^ (-1 : Int64)))) else (if 0 ≤ x4 ∧ x4.toNatClampNeg < 3 then L_X7_findCut_67 n a1 k x3 (x4 + 1) (x5 + 1) (psI q18.2 241 x4.toNatClampNeg x5) else none)))))))))
def F_X7_findCut (n : Nat) (a1 : Nat) (a2 : Int32) (σ : PS) : Option (PS) := (F_X10_copyFrom n 242 a1 σ).bind (fun q1 => (if 0 ≤ a2 ∧ a2.toNatClampNeg < 6 then (L_X7_findCut_24 n a1 n (q1.1 (a1 + 1) a2.toNatClampNeg) (0 : Int32) (psI q1 240 0 (-2 : Int32))).bind (fun o9 => (L_X7_findCut_67 n a1 n o9.1 (0 : Int32) (0 : Int32) o9.2).bind (fun o22 => some o22)) else none))
theorem gm_X7_findCut : gM "AskedCamp$Siege" yX7_findCut (Cond.code yX7_findCut cX7_findCut 6 (Option.none : Option Jvm.ClassFile.FieldType)) 2 := ⟨by decide +kernel, tw_943, tw_944, tw_11, tw_945⟩
set_option maxHeartbeats 4000000 in
set_option maxRecDepth 100000 in
theorem l_X7_findCut_24 {p : Program} {l : Launch} {e : Env} {R : Room} {s : State} {m : MethodId} {args : Array Value} {below : List Frame} {meth : Method} {c : Code} {D : va_G} {ad : Nat → Nat} {ca : Nat → ClassId} {kz : Nat → Nat} {Q : State → Prop} (C : pC p s m args c cX7_findCut "AskedCamp$Siege" 6 D ad ca kz) (hR : 9 ≤ R.frames ∧ 250 ≤ R.locals) {n : Nat} {a1 : Nat} (ha1 : pis a1 9) (o : Int32 × PS) (hx0 : PW p l e R s m args below meth c 6 D ad ca 0 0 Q (o.2) 61 [(0, .ref (ad (240))), (1, .ref (ad (a1))), (3, .int o.1)] []) : ∀ (k : Nat) (x3 : Int32) (x4 : Int32) (σ : PS), L_X7_findCut_24 n a1 k x3 x4 σ = some o → PW p l e R s m args below meth c 6 D ad ca 0 0 Q σ 24 [(0, .ref (ad (240))), (1, .ref (ad (a1))), (3, .int x3), (4, .int x4)] [] := by
  intro k
  induction k with
  | zero => intro x3 x4 σ hF; exact nomatch (show (none : Option (Int32 × PS)) = some o from hF)
  | succ k ih =>
    intro x3 x4 σ hF
    rw [L_X7_findCut_24] at hF
    refine q_iload C 3 dX7_findCut_24 rfl ?_
    refine q_iconst (v := 3) C dX7_findCut_26 (by decide) ?_
    refine q_icmp_gt (tgt := 61) C dX7_findCut_27 (by decide) (fun c4 => ?_) (fun c4 => ?_)
    · replace hF := ift c4 hF
      cases hF
      refine q_sub [0, 1, 2] rfl ?_
      exact hx0
    · replace hF := ife c4 hF
      refine q_aload_n C 0 dX7_findCut_30 rfl rfl ?_
      refine qg_6_0 C pi_240 tw_357 dX7_findCut_31 ?_
      refine q_bipush (v := -2) C dX7_findCut_34 (by decide) ?_
      refine q_icmp_ne (tgt := 61) C dX7_findCut_36 (by decide) (fun c5 => ?_) (fun c5 => ?_)
      · replace hF := ife c5 hF
        cases hF
        refine q_sub [0, 1, 2] rfl ?_
        exact hx0
      · replace hF := ift c5 hF
        refine q_aload_n C 0 dX7_findCut_39 rfl rfl ?_
        refine q_iload_n C 2 dX7_findCut_40 rfl rfl ?_
        refine q_iload C 3 dX7_findCut_41 rfl ?_
        obtain ⟨q6, h7, hF⟩ := bnd hF
        try dsimp only at hF
        refine q_callSi C [.ref (ad (240)), .int x3, .int x4] (c_X7_isCutBy l D ad ca kz C.2.2.2.2.2.2.1 _ _ _ _ _ h7) tw_947 gm_X7_isCutBy ⟨rfl, rfl⟩ ⟨Nat.le_trans (Nat.le_of_ble_eq_true rfl) hR.1, Nat.le_trans (Nat.le_of_ble_eq_true rfl) hR.2⟩ rfl (Nat.le_of_ble_eq_true rfl) dX7_findCut_43 q00 ?_
        refine q_if_eq (tgt := 55) C dX7_findCut_46 (by decide) (fun c8 => ?_) (fun c8 => ?_)
        · replace hF := ift c8 hF
          refine q_iinc C 3 [(4, .int (x4 + 1)), (0, .ref (ad (240))), (1, .ref (ad (a1))), (3, .int x3)] dX7_findCut_55 rfl rfl (by decide) rfl ?_
          refine q_goto (tgt := 24) C dX7_findCut_58 (by decide) ?_
          refine q_sub [1, 2, 3, 0] rfl ?_
          exact ih _ _ _ hF
        · replace hF := ife c8 hF
          refine q_aload_n C 0 dX7_findCut_49 rfl rfl ?_
          refine q_iload C 3 dX7_findCut_50 rfl ?_
          refine qs_6_0 C pi_240 tw_357 dX7_findCut_52 ?_
          refine q_iinc C 3 [(4, .int (x4 + 1)), (0, .ref (ad (240))), (1, .ref (ad (a1))), (3, .int x3)] dX7_findCut_55 rfl rfl (by decide) rfl ?_
          refine q_goto (tgt := 24) C dX7_findCut_58 (by decide) ?_
          refine q_sub [1, 2, 3, 0] rfl ?_
          exact ih _ _ _ hF
set_option maxHeartbeats 4000000 in
set_option maxRecDepth 100000 in
theorem l_X7_findCut_67 {p : Program} {l : Launch} {e : Env} {R : Room} {s : State} {m : MethodId} {args : Array Value} {below : List Frame} {meth : Method} {c : Code} {D : va_G} {ad : Nat → Nat} {ca : Nat → ClassId} {kz : Nat → Nat} {Q : State → Prop} (C : pC p s m args c cX7_findCut "AskedCamp$Siege" 6 D ad ca kz) (hR : 9 ≤ R.frames ∧ 250 ≤ R.locals) {n : Nat} {a1 : Nat} (ha1 : pis a1 9) (o : PS) (hx0 : PW p l e R s m args below meth c 6 D ad ca 0 0 Q (o) 186 [] []) : ∀ (k : Nat) (x3 : Int32) (x4 : Int32) (x5 : Int32) (σ : PS), L_X7_findCut_67 n a1 k x3 x4 x5 σ = some o → PW p l e R s m args below meth c 6 D ad ca 0 0 Q σ 67 [(0, .ref (ad (240))), (1, .ref (ad (a1))), (3, .int x3), (4, .int x4), (5, .int x5)] [] := by
  intro k
  induction k with
  | zero => intro x3 x4 x5 σ hF; exact nomatch (show (none : Option (PS)) = some o from hF)
  | succ k ih =>
    intro x3 x4 x5 σ hF
    rw [L_X7_findCut_67] at hF
    refine q_iload C 4 dX7_findCut_67 rfl ?_
    refine q_aload_n C 1 dX7_findCut_69 rfl rfl ?_
    refine qg_9_1 C ha1 tw_160 dX7_findCut_70 ?_
    refine q_icmp_ge (tgt := 186) C dX7_findCut_73 (by decide) (fun c11 => ?_) (fun c11 => ?_)
    · replace hF := ift c11 hF
      cases hF
      refine q_sub [] rfl ?_
      exact hx0
    · replace hF := ife c11 hF
      refine q_iload C 3 dX7_findCut_76 rfl ?_
      refine q_aload_n C 0 dX7_findCut_78 rfl rfl ?_
      refine qg_6_0 C pi_240 tw_357 dX7_findCut_79 ?_
      refine q_icmp_ge (tgt := 186) C dX7_findCut_82 (by decide) (fun c12 => ?_) (fun c12 => ?_)
      · replace hF := ift c12 hF
        cases hF
        refine q_sub [] rfl ?_
        exact hx0
      · replace hF := ife c12 hF
        refine q_iload C 4 dX7_findCut_85 rfl ?_
        refine q_aload_n C 1 dX7_findCut_87 rfl rfl ?_
        refine qg_9_2 C ha1 tw_165 dX7_findCut_88 ?_
        refine q_icmp_eq (tgt := 180) C dX7_findCut_91 (by decide) (fun c13 => ?_) (fun c13 => ?_)
        · replace hF := ift c13 hF
          refine q_iinc C 4 [(5, .int (x5 + 1)), (0, .ref (ad (240))), (1, .ref (ad (a1))), (3, .int x3), (4, .int x4)] dX7_findCut_180 rfl rfl (by decide) rfl ?_
          refine q_goto (tgt := 67) C dX7_findCut_183 (by decide) ?_
          refine q_sub [1, 2, 3, 4, 0] rfl ?_
          exact ih _ _ _ _ hF
        · replace hF := ife c13 hF
          refine q_iload C 4 dX7_findCut_94 rfl ?_
          refine q_iload_n C 2 dX7_findCut_96 rfl rfl ?_
          refine q_icmp_eq (tgt := 180) C dX7_findCut_97 (by decide) (fun c14 => ?_) (fun c14 => ?_)
          · replace hF := ift c14 hF
            refine q_iinc C 4 [(5, .int (x5 + 1)), (0, .ref (ad (240))), (1, .ref (ad (a1))), (3, .int x3), (4, .int x4)] dX7_findCut_180 rfl rfl (by decide) rfl ?_
            refine q_goto (tgt := 67) C dX7_findCut_183 (by decide) ?_
            refine q_sub [1, 2, 3, 4, 0] rfl ?_
            exact ih _ _ _ _ hF
          · replace hF := ife c14 hF
            refine q_aload_n C 1 dX7_findCut_100 rfl rfl ?_
            refine q_iload C 4 dX7_findCut_101 rfl ?_
            obtain ⟨q15, h16, hF⟩ := bnd hF
            try dsimp only at hF
            refine q_callVi C [.int x5] (c_X10_isFree l D ad ca kz C.2.2.2.2.2.2.1 _ ha1 _ _ _ h16) tw_957 gm_X10_isFree ha1.1 (pe_9 ha1.2) rfl ⟨rfl, rfl⟩ ⟨Nat.le_trans (Nat.le_of_ble_eq_true rfl) hR.1, Nat.le_trans (Nat.le_of_ble_eq_true rfl) hR.2⟩ rfl (Nat.le_of_ble_eq_true rfl) dX7_findCut_103 q00 ?_
            refine q_if_ne (tgt := 112) C dX7_findCut_106 (by decide) (fun c17 => ?_) (fun c17 => ?_)
            · replace hF := ife c17 hF
              refine q_aload_n C 0 dX7_findCut_112 rfl rfl ?_
              refine qg_6_4 C pi_240 tw_365 dX7_findCut_113 ?_
              refine q_dup C dX7_findCut_116 rfl ?_
              refine qg_9_6 C pi_242 tw_183 dX7_findCut_117 ?_
              refine q_lconst (v := 1) C dX7_findCut_120 (by decide) ?_
              refine q_iload C 4 dX7_findCut_121 rfl ?_
              refine q_lshl C dX7_findCut_123 ?_
              refine q_lor C dX7_findCut_124 ?_
              refine qs_9_6 C pi_242 tw_183 dX7_findCut_125 ?_
              refine q_aload_n C 0 dX7_findCut_128 rfl rfl ?_
              refine q_iload_n C 2 dX7_findCut_129 rfl rfl ?_
              refine q_aload_n C 0 dX7_findCut_130 rfl rfl ?_
              refine qg_6_0 C pi_240 tw_357 dX7_findCut_131 ?_
              refine q_iload C 3 dX7_findCut_134 rfl ?_
              refine q_isub C dX7_findCut_136 ?_
              refine q_iconst (v := 1) C dX7_findCut_137 (by decide) ?_
              refine q_isub C dX7_findCut_138 ?_
              obtain ⟨q18, h19, hF⟩ := bnd hF
              try dsimp only at hF
              refine q_callSi C [.ref (ad (240)), .int x3, .int ((((psJ q15.2 242 6 ((q15.2.2 242 6) ||| ((1 : Int64) <<< (x5.toInt64 &&& 63)))).1 240 0) - x4) - (1 : Int32))] (c_X7_isCutBy l D ad ca kz C.2.2.2.2.2.2.1 _ _ _ _ _ h19) tw_947 gm_X7_isCutBy ⟨rfl, rfl⟩ ⟨Nat.le_trans (Nat.le_of_ble_eq_true rfl) hR.1, Nat.le_trans (Nat.le_of_ble_eq_true rfl) hR.2⟩ rfl (Nat.le_of_ble_eq_true rfl) dX7_findCut_139 q00 ?_
              refine q_if_eq (tgt := 160) C dX7_findCut_142 (by decide) (fun c20 => ?_) (fun c20 => ?_)
              · replace hF := ift c20 hF
                refine q_aload_n C 0 dX7_findCut_160 rfl rfl ?_
                refine qg_6_4 C pi_240 tw_365 dX7_findCut_161 ?_
                refine q_dup C dX7_findCut_164 rfl ?_
                refine qg_9_6 C pi_242 tw_183 dX7_findCut_165 ?_
                refine q_lconst (v := 1) C dX7_findCut_168 (by decide) ?_
                refine q_iload C 4 dX7_findCut_169 rfl ?_
                refine q_lshl C dX7_findCut_171 ?_
                refine q_ldc2 C dX7_findCut_172 tw_956 ?_
                refine q_lxor C dX7_findCut_175 ?_
                refine q_land C dX7_findCut_176 ?_
                refine qs_9_6 C pi_242 tw_183 dX7_findCut_177 ?_
                refine q_iinc C 4 [(5, .int (x5 + 1)), (0, .ref (ad (240))), (1, .ref (ad (a1))), (3, .int x3), (4, .int x4)] dX7_findCut_180 rfl rfl (by decide) rfl ?_
                refine q_goto (tgt := 67) C dX7_findCut_183 (by decide) ?_
                refine q_sub [1, 2, 3, 4, 0] rfl ?_
                exact ih _ _ _ _ hF
              · replace hF := ife c20 hF
                refine q_aload_n C 0 dX7_findCut_145 rfl rfl ?_
                refine qg_6_1 C pi_240 tw_359 dX7_findCut_146 ?_
                refine q_iload C 3 dX7_findCut_149 rfl ?_
                refine q_iload C 4 dX7_findCut_151 rfl ?_
                obtain ⟨g21, hF⟩ := grd hF
                refine q_iast C pa_241 (vp_of g21) dX7_findCut_153 ?_
                refine q_iinc C 3 [(4, .int (x4 + 1)), (0, .ref (ad (240))), (1, .ref (ad (a1))), (3, .int x3), (5, .int x5)] dX7_findCut_154 rfl rfl (by decide) rfl ?_
                refine q_goto (tgt := 180) C dX7_findCut_157 (by decide) ?_
                refine q_iinc C 4 [(5, .int (x5 + 1)), (4, .int (x4 + 1)), (0, .ref (ad (240))), (1, .ref (ad (a1))), (3, .int x3)] dX7_findCut_180 rfl rfl (by decide) rfl ?_
                refine q_goto (tgt := 67) C dX7_findCut_183 (by decide) ?_
                refine q_sub [2, 3, 4, 1, 0] rfl ?_
                exact ih _ _ _ _ hF
            · replace hF := ift c17 hF
              refine q_goto (tgt := 180) C dX7_findCut_109 (by decide) ?_
              refine q_iinc C 4 [(5, .int (x5 + 1)), (0, .ref (ad (240))), (1, .ref (ad (a1))), (3, .int x3), (4, .int x4)] dX7_findCut_180 rfl rfl (by decide) rfl ?_
              refine q_goto (tgt := 67) C dX7_findCut_183 (by decide) ?_
              refine q_sub [1, 2, 3, 4, 0] rfl ?_
              exact ih _ _ _ _ hF
set_option maxHeartbeats 4000000 in
set_option maxRecDepth 100000 in
theorem c_X7_findCut (l : Launch) (D : va_G) (ad : Nat → Nat) (ca : Nat → ClassId) (kz : Nat → Nat) (hJ : pInj ad) (n : Nat) {a1 : Nat} (ha1 : pis a1 9) (a2 : Int32) (σ : PS) (out : PS) (hF : F_X7_findCut n a1 a2 σ = some out) : Met l yX7_findCut (Cond.code yX7_findCut cX7_findCut 6 (Option.none : Option Jvm.ClassFile.FieldType) :: gw_tbl) { frames := 9, cells := 0, slots := 0, locals := 250 } (va_Pc [.ref (ad (240)), .ref (ad (a1)), .int a2] (pU D ad ca kz σ)) (pQv D ad ca out) 0 0 (pAD ad) := by
  refine q_entry (own := "AskedCamp$Siege") hJ (by decide) rfl (Nat.le_of_ble_eq_true rfl) (fun p e s m below meth c C hr hlk => ?_)
  refine q_lv [(0, .ref (ad (240))), (1, .ref (ad (a1))), (2, .int a2)] rfl ?_
  rw [F_X7_findCut] at hF
  refine q_aload_n C 0 dX7_findCut_0 rfl rfl ?_
  refine qg_6_4 C pi_240 tw_365 dX7_findCut_1 ?_
  refine q_aload_n C 1 dX7_findCut_4 rfl rfl ?_
  obtain ⟨q1, h2, hF⟩ := bnd hF
  try dsimp only at hF
  refine q_callVv C [.ref (ad (a1))] (c_X10_copyFrom l D ad ca kz C.2.2.2.2.2.2.1 _ pi_242 ha1 _ _ h2) tw_946 gm_X10_copyFrom pi_242.1 (pe_9 pi_242.2) rfl ⟨rfl, rfl⟩ ⟨Nat.le_of_ble_eq_true rfl, Nat.le_of_ble_eq_true rfl⟩ rfl (Nat.le_of_ble_eq_true rfl) dX7_findCut_5 q00 ?_
  refine q_aload_n C 1 dX7_findCut_8 rfl rfl ?_
  refine qg_9_7 C ha1 tw_188 dX7_findCut_9 ?_
  refine q_iload_n C 2 dX7_findCut_12 rfl rfl ?_
  obtain ⟨g3, hF⟩ := grd hF
  refine q_iald C (pkW ha1).1 (vp_of g3) dX7_findCut_13 ?_
  refine q_istore_n C [(3, .int (q1.1 (a1 + 1) a2.toNatClampNeg)), (0, .ref (ad (240))), (1, .ref (ad (a1))), (2, .int a2)] dX7_findCut_14 rfl (by decide) rfl ?_
  refine q_aload_n C 1 dX7_findCut_15 rfl rfl ?_
  refine q_bipush (v := -2) C dX7_findCut_16 (by decide) ?_
  refine qs_6_0 C pi_240 tw_357 dX7_findCut_18 ?_
  refine q_iconst (v := 0) C dX7_findCut_21 (by decide) ?_
  refine q_istore C [(4, .int 0), (3, .int (q1.1 (a1 + 1) a2.toNatClampNeg)), (0, .ref (ad (240))), (1, .ref (ad (a1))), (2, .int a2)] dX7_findCut_22 (by decide) rfl ?_
  obtain ⟨o9, h10, hF⟩ := bnd hF
  try dsimp only at hF
  refine q_sub [2, 3, 1, 0] rfl ?_
  refine l_X7_findCut_24 C ⟨Nat.le_of_ble_eq_true rfl, Nat.le_of_ble_eq_true rfl⟩ ha1 o9 ?_ n _ _ _ h10
  refine q_iconst (v := 0) C dX7_findCut_61 (by decide) ?_
  refine q_istore C [(4, .int 0), (0, .ref (ad (240))), (1, .ref (ad (a1))), (3, .int o9.1)] dX7_findCut_62 (by decide) rfl ?_
  refine q_iconst (v := 0) C dX7_findCut_64 (by decide) ?_
  refine q_istore C [(5, .int 0), (4, .int 0), (0, .ref (ad (240))), (1, .ref (ad (a1))), (3, .int o9.1)] dX7_findCut_65 (by decide) rfl ?_
  obtain ⟨o22, h23, hF⟩ := bnd hF
  try dsimp only at hF
  refine q_sub [2, 3, 4, 1, 0] rfl ?_
  refine l_X7_findCut_67 C ⟨Nat.le_of_ble_eq_true rfl, Nat.le_of_ble_eq_true rfl⟩ ha1 o22 ?_ n _ _ _ _ h23
  exact q_vret C hr hlk dX7_findCut_186 hF
-- X11_cut
def F_X11_cut (n : Nat) (a1 : Int32) (a2 : Int32) (σ : PS) : Option (Int32 × PS) := (F_X10_hasTent n 25 a1 σ).bind (fun q1 => (if q1.1 = 0 then some ((-1 : Int32), q1.2) else (if a2 < 0 then some ((-1 : Int32), q1.2) else (if a2 ≤ (3 : Int32) then (F_X7_findCut n 25 a1 q1.2).bind (fun q6 => (if a2 = 0 then some ((q6.1 240 0), q6) else (if (q6.1 240 0) < a2 then some ((-2 : Int32), q6) else (if 0 ≤ (a2 - (1 : Int32)) ∧ (a2 - (1 : Int32)).toNatClampNeg < 3 then some ((q6.1 241 ((a2 - (1 : Int32)).toNatClampNeg)), q6) else none)))) else some ((-1 : Int32), q1.2)))))
theorem gm_X11_cut : gM "AskedCamp" yX11_cut (Cond.code yX11_cut cX11_cut 3 (Option.some Jvm.ClassFile.FieldType.int)) 2 := ⟨by decide +kernel, tw_939, tw_940, tw_1, tw_941⟩
set_option maxHeartbeats 4000000 in
set_option maxRecDepth 100000 in
theorem c_X11_cut (l : Launch) (D : va_G) (ad : Nat → Nat) (ca : Nat → ClassId) (kz : Nat → Nat) (hJ : pInj ad) (n : Nat) (a1 : Int32) (a2 : Int32) (σ : PS) (out : Int32 × PS) (hF : F_X11_cut n a1 a2 σ = some out) : Met l yX11_cut (Cond.code yX11_cut cX11_cut 3 (Option.some Jvm.ClassFile.FieldType.int) :: gw_tbl) { frames := 10, cells := 0, slots := 0, locals := 275 } (va_Pc [.ref (ad (0)), .int a1, .int a2] (pU D ad ca kz σ)) (pQi D ad ca out) 0 0 (pAD ad) := by
  refine q_entry (own := "AskedCamp") hJ (by decide) rfl (Nat.le_of_ble_eq_true rfl) (fun p e s m below meth c C hr hlk => ?_)
  refine q_lv [(0, .ref (ad (0))), (1, .int a1), (2, .int a2)] rfl ?_
  rw [F_X11_cut] at hF
  refine q_aload_n C 0 dX11_cut_0 rfl rfl ?_
  refine qg_10_4 C pi_0 tw_384 dX11_cut_1 ?_
  refine qg_5_1 C pi_18 tw_232 dX11_cut_4 ?_
  refine q_iload_n C 1 dX11_cut_7 rfl rfl ?_
  obtain ⟨q1, h2, hF⟩ := bnd hF
  try dsimp only at hF
  refine q_callVi C [.int a1] (c_X10_hasTent l D ad ca kz C.2.2.2.2.2.2.1 _ pi_25 _ _ _ h2) tw_663 gm_X10_hasTent pi_25.1 (pe_9 pi_25.2) rfl ⟨rfl, rfl⟩ ⟨Nat.le_of_ble_eq_true rfl, Nat.le_of_ble_eq_true rfl⟩ rfl (Nat.le_of_ble_eq_true rfl) dX11_cut_8 q00 ?_
  refine q_if_eq (tgt := 23) C dX11_cut_11 (by decide) (fun c3 => ?_) (fun c3 => ?_)
  · replace hF := ift c3 hF
    refine q_iconst (v := -1) C dX11_cut_23 (by decide) ?_
    exact q_iret C hr hlk dX11_cut_24 hF
  · replace hF := ife c3 hF
    refine q_iload_n C 2 dX11_cut_14 rfl rfl ?_
    refine q_if_lt (tgt := 23) C dX11_cut_15 (by decide) (fun c4 => ?_) (fun c4 => ?_)
    · replace hF := ift c4 hF
      refine q_iconst (v := -1) C dX11_cut_23 (by decide) ?_
      exact q_iret C hr hlk dX11_cut_24 hF
    · replace hF := ife c4 hF
      refine q_iload_n C 2 dX11_cut_18 rfl rfl ?_
      refine q_iconst (v := 3) C dX11_cut_19 (by decide) ?_
      refine q_icmp_le (tgt := 25) C dX11_cut_20 (by decide) (fun c5 => ?_) (fun c5 => ?_)
      · replace hF := ift c5 hF
        refine q_aload_n C 0 dX11_cut_25 rfl rfl ?_
        refine qg_10_9 C pi_0 tw_389 dX11_cut_26 ?_
        refine q_aload_n C 0 dX11_cut_29 rfl rfl ?_
        refine qg_10_4 C pi_0 tw_384 dX11_cut_30 ?_
        refine qg_5_1 C pi_18 tw_232 dX11_cut_33 ?_
        refine q_iload_n C 1 dX11_cut_36 rfl rfl ?_
        obtain ⟨q6, h7, hF⟩ := bnd hF
        try dsimp only at hF
        refine q_callVv C [.ref (ad (25)), .int a1] (c_X7_findCut l D ad ca kz C.2.2.2.2.2.2.1 _ pi_25 _ _ _ h7) tw_942 gm_X7_findCut pi_240.1 (pe_6 pi_240.2) rfl ⟨rfl, rfl⟩ ⟨Nat.le_of_ble_eq_true rfl, Nat.le_of_ble_eq_true rfl⟩ rfl (Nat.le_of_ble_eq_true rfl) dX11_cut_37 q00 ?_
        refine q_iload_n C 2 dX11_cut_40 rfl rfl ?_
        refine q_if_ne (tgt := 52) C dX11_cut_41 (by decide) (fun c8 => ?_) (fun c8 => ?_)
        · replace hF := ife c8 hF
          refine q_iload_n C 2 dX11_cut_52 rfl rfl ?_
          refine q_aload_n C 0 dX11_cut_53 rfl rfl ?_
          refine qg_10_9 C pi_0 tw_389 dX11_cut_54 ?_
          refine qg_6_0 C pi_240 tw_358 dX11_cut_57 ?_
          refine q_icmp_gt (tgt := 77) C dX11_cut_60 (by decide) (fun c9 => ?_) (fun c9 => ?_)
          · replace hF := ift c9 hF
            refine q_bipush (v := -2) C dX11_cut_77 (by decide) ?_
            exact q_iret C hr hlk dX11_cut_79 hF
          · replace hF := ife c9 hF
            refine q_aload_n C 0 dX11_cut_63 rfl rfl ?_
            refine qg_10_9 C pi_0 tw_389 dX11_cut_64 ?_
            refine qg_6_1 C pi_240 tw_360 dX11_cut_67 ?_
            refine q_iload_n C 2 dX11_cut_70 rfl rfl ?_
            refine q_iconst (v := 1) C dX11_cut_71 (by decide) ?_
            refine q_isub C dX11_cut_72 ?_
            obtain ⟨g10, hF⟩ := grd hF
            refine q_iald C pa_241 (vp_of g10) dX11_cut_73 ?_
            refine q_goto (tgt := 79) C dX11_cut_74 (by decide) ?_
            exact q_iret C hr hlk dX11_cut_79 hF
        · replace hF := ift c8 hF
          refine q_aload_n C 0 dX11_cut_44 rfl rfl ?_
          refine qg_10_9 C pi_0 tw_389 dX11_cut_45 ?_
          refine qg_6_0 C pi_240 tw_358 dX11_cut_48 ?_
          exact q_iret C hr hlk dX11_cut_51 hF
      · replace hF := ife c5 hF
        refine q_iconst (v := -1) C dX11_cut_23 (by decide) ?_
        exact q_iret C hr hlk dX11_cut_24 hF
-- X11_end
def F_X11_end (n : Nat) (a1 : Int32) (σ : PS) : Option (Int32 × PS) := (if a1 < 0 then some ((-1 : Int32), σ) else (if a1 ≤ (σ.1 1 1) then some (a1, psI σ 1 1 a1) else some ((-1 : Int32), σ)))
theorem gm_X11_end : gM "AskedCamp" yX11_end (Cond.code yX11_end cX11_end 2 (Option.some Jvm.ClassFile.FieldType.int)) 1 := ⟨by decide +kernel, tw_424, tw_425, tw_1, tw_426⟩
set_option maxHeartbeats 4000000 in
set_option maxRecDepth 100000 in
theorem c_X11_end (l : Launch) (D : va_G) (ad : Nat → Nat) (ca : Nat → ClassId) (kz : Nat → Nat) (hJ : pInj ad) (n : Nat) (a1 : Int32) (σ : PS) (out : Int32 × PS) (hF : F_X11_end n a1 σ = some out) : Met l yX11_end (Cond.code yX11_end cX11_end 2 (Option.some Jvm.ClassFile.FieldType.int) :: gw_tbl) { frames := 0, cells := 0, slots := 0, locals := 0 } (va_Pc [.ref (ad (0)), .int a1] (pU D ad ca kz σ)) (pQi D ad ca out) 0 0 (pAD ad) := by
  refine q_entry (own := "AskedCamp") hJ (by decide) rfl (Nat.le_of_ble_eq_true rfl) (fun p e s m below meth c C hr hlk => ?_)
  refine q_lv [(0, .ref (ad (0))), (1, .int a1)] rfl ?_
  rw [F_X11_end] at hF
  refine q_iload_n C 1 dX11_end_0 rfl rfl ?_
  refine q_if_lt (tgt := 15) C dX11_end_1 (by decide) (fun c1 => ?_) (fun c1 => ?_)
  · replace hF := ift c1 hF
    refine q_iconst (v := -1) C dX11_end_15 (by decide) ?_
    exact q_iret C hr hlk dX11_end_16 hF
  · replace hF := ife c1 hF
    refine q_iload_n C 1 dX11_end_4 rfl rfl ?_
    refine q_aload_n C 0 dX11_end_5 rfl rfl ?_
    refine qg_10_0 C pi_0 tw_380 dX11_end_6 ?_
    refine qg_8_1 C pi_1 tw_39 dX11_end_9 ?_
    refine q_icmp_le (tgt := 17) C dX11_end_12 (by decide) (fun c2 => ?_) (fun c2 => ?_)
    · replace hF := ift c2 hF
      refine q_aload_n C 0 dX11_end_17 rfl rfl ?_
      refine qg_10_0 C pi_0 tw_380 dX11_end_18 ?_
      refine q_iload_n C 1 dX11_end_21 rfl rfl ?_
      refine qs_8_1 C pi_1 tw_39 dX11_end_22 ?_
      refine q_iload_n C 1 dX11_end_25 rfl rfl ?_
      exact q_iret C hr hlk dX11_end_26 hF
    · replace hF := ife c2 hF
      refine q_iconst (v := -1) C dX11_end_15 (by decide) ?_
      exact q_iret C hr hlk dX11_end_16 hF
-- X9_append
def L_X9_append_3 (n : Nat) : Nat → Int32 → Int32 → PS → Option (PS)
  | 0, _, _, _ => none
  | k + 1, x1, x2, σ => (if x2 < 0 then some σ else (if (400 : Int32) ≤ (σ.1 1 1) then L_X9_append_3 n k x1 (x2 + (-8)) σ else (if 0 ≤ (σ.1 1 1) ∧ (σ.1 1 1).toNatClampNeg < 400 then L_X9_append_3 n k x1 (x2 + (-8)) (psI (psI σ 2 ((σ.1 1 1).toNatClampNeg) (vp_nar .byte (((x1.toUInt32 >>> (x2.toUInt32 &&& Int32.toUInt32 31)).toInt32).toInt8.toInt32))) 1 1 (((psI σ 2 ((σ.1 1 1).toNatClampNeg) (vp_nar .byte (((x1.toUInt32 >>> (x2.toUInt32 &&& Int32.toUInt32 31)).toInt32).toInt8.toInt32))).1 1 1) + (1 : Int32))) else none)))
def F_X9_append (n : Nat) (a1 : Int32) (σ : PS) : Option (PS) := (L_X9_append_3 n n a1 (24 : Int32) σ).bind (fun o4 => some o4)
theorem gm_X9_append : gM "AskedCamp$Tape" yX9_append (Cond.code yX9_append cX9_append 3 (Option.none : Option Jvm.ClassFile.FieldType)) 1 := ⟨by decide +kernel, tw_420, tw_421, tw_2, tw_422⟩
set_option maxHeartbeats 4000000 in
set_option maxRecDepth 100000 in
theorem l_X9_append_3 {p : Program} {l : Launch} {e : Env} {R : Room} {s : State} {m : MethodId} {args : Array Value} {below : List Frame} {meth : Method} {c : Code} {D : va_G} {ad : Nat → Nat} {ca : Nat → ClassId} {kz : Nat → Nat} {Q : State → Prop} (C : pC p s m args c cX9_append "AskedCamp$Tape" 3 D ad ca kz) (hR : 0 ≤ R.frames ∧ 0 ≤ R.locals) {n : Nat} (o : PS) (hx0 : PW p l e R s m args below meth c 3 D ad ca 0 0 Q (o) 46 [] []) : ∀ (k : Nat) (x1 : Int32) (x2 : Int32) (σ : PS), L_X9_append_3 n k x1 x2 σ = some o → PW p l e R s m args below meth c 3 D ad ca 0 0 Q σ 3 [(0, .ref (ad (1))), (1, .int x1), (2, .int x2)] [] := by
  intro k
  induction k with
  | zero => intro x1 x2 σ hF; exact nomatch (show (none : Option (PS)) = some o from hF)
  | succ k ih =>
    intro x1 x2 σ hF
    rw [L_X9_append_3] at hF
    refine q_iload_n C 2 dX9_append_3 rfl rfl ?_
    refine q_if_lt (tgt := 46) C dX9_append_4 (by decide) (fun c1 => ?_) (fun c1 => ?_)
    · replace hF := ift c1 hF
      cases hF
      refine q_sub [] rfl ?_
      exact hx0
    · replace hF := ife c1 hF
      refine q_aload_n C 0 dX9_append_7 rfl rfl ?_
      refine qg_8_1 C pi_1 tw_38 dX9_append_8 ?_
      refine q_sipush (v := 400) C dX9_append_11 (by decide) ?_
      refine q_icmp_ge (tgt := 40) C dX9_append_14 (by decide) (fun c2 => ?_) (fun c2 => ?_)
      · replace hF := ift c2 hF
        refine q_iinc C 2 [(2, .int (x2 + (-8))), (0, .ref (ad (1))), (1, .int x1)] dX9_append_40 rfl rfl (by decide) rfl ?_
        refine q_goto (tgt := 3) C dX9_append_43 (by decide) ?_
        refine q_sub [1, 2, 0] rfl ?_
        exact ih _ _ _ hF
      · replace hF := ife c2 hF
        refine q_aload_n C 0 dX9_append_17 rfl rfl ?_
        refine qg_8_0 C pi_1 tw_36 dX9_append_18 ?_
        refine q_aload_n C 0 dX9_append_21 rfl rfl ?_
        refine qg_8_1 C pi_1 tw_38 dX9_append_22 ?_
        refine q_iload_n C 1 dX9_append_25 rfl rfl ?_
        refine q_iload_n C 2 dX9_append_26 rfl rfl ?_
        refine q_iushr C dX9_append_27 ?_
        refine q_i2b C dX9_append_28 ?_
        obtain ⟨g3, hF⟩ := grd hF
        refine q_bast C pa_2 (vp_of g3) dX9_append_29 ?_
        refine q_aload_n C 0 dX9_append_30 rfl rfl ?_
        refine q_dup C dX9_append_31 rfl ?_
        refine qg_8_1 C pi_1 tw_38 dX9_append_32 ?_
        refine q_iconst (v := 1) C dX9_append_35 (by decide) ?_
        refine q_iadd C dX9_append_36 ?_
        refine qs_8_1 C pi_1 tw_38 dX9_append_37 ?_
        refine q_iinc C 2 [(2, .int (x2 + (-8))), (0, .ref (ad (1))), (1, .int x1)] dX9_append_40 rfl rfl (by decide) rfl ?_
        refine q_goto (tgt := 3) C dX9_append_43 (by decide) ?_
        refine q_sub [1, 2, 0] rfl ?_
        exact ih _ _ _ hF
set_option maxHeartbeats 4000000 in
set_option maxRecDepth 100000 in
theorem c_X9_append (l : Launch) (D : va_G) (ad : Nat → Nat) (ca : Nat → ClassId) (kz : Nat → Nat) (hJ : pInj ad) (n : Nat) (a1 : Int32) (σ : PS) (out : PS) (hF : F_X9_append n a1 σ = some out) : Met l yX9_append (Cond.code yX9_append cX9_append 3 (Option.none : Option Jvm.ClassFile.FieldType) :: gw_tbl) { frames := 0, cells := 0, slots := 0, locals := 0 } (va_Pc [.ref (ad (1)), .int a1] (pU D ad ca kz σ)) (pQv D ad ca out) 0 0 (pAD ad) := by
  refine q_entry (own := "AskedCamp$Tape") hJ (by decide) rfl (Nat.le_of_ble_eq_true rfl) (fun p e s m below meth c C hr hlk => ?_)
  refine q_lv [(0, .ref (ad (1))), (1, .int a1)] rfl ?_
  rw [F_X9_append] at hF
  refine q_bipush (v := 24) C dX9_append_0 (by decide) ?_
  refine q_istore_n C [(2, .int 24), (0, .ref (ad (1))), (1, .int a1)] dX9_append_2 rfl (by decide) rfl ?_
  obtain ⟨o4, h5, hF⟩ := bnd hF
  try dsimp only at hF
  refine q_sub [1, 2, 0] rfl ?_
  refine l_X9_append_3 C ⟨Nat.le_of_ble_eq_true rfl, Nat.le_of_ble_eq_true rfl⟩ o4 ?_ n _ _ _ h5
  exact q_vret C hr hlk dX9_append_46 hF
-- X9_hasRoom
def F_X9_hasRoom (n : Nat) (σ : PS) : Option (Int32 × PS) := (if (400 : Int32) < ((σ.1 1 1) + (20 : Int32)) then some ((0 : Int32), σ) else some ((1 : Int32), σ))
theorem gm_X9_hasRoom : gM "AskedCamp$Tape" yX9_hasRoom (Cond.code yX9_hasRoom cX9_hasRoom 1 (Option.some Jvm.ClassFile.FieldType.boolean)) 0 := ⟨by decide +kernel, tw_416, tw_417, tw_2, tw_418⟩
set_option maxHeartbeats 4000000 in
set_option maxRecDepth 100000 in
theorem c_X9_hasRoom (l : Launch) (D : va_G) (ad : Nat → Nat) (ca : Nat → ClassId) (kz : Nat → Nat) (hJ : pInj ad) (n : Nat) (σ : PS) (out : Int32 × PS) (hF : F_X9_hasRoom n σ = some out) : Met l yX9_hasRoom (Cond.code yX9_hasRoom cX9_hasRoom 1 (Option.some Jvm.ClassFile.FieldType.boolean) :: gw_tbl) { frames := 0, cells := 0, slots := 0, locals := 0 } (va_Pc [.ref (ad (1))] (pU D ad ca kz σ)) (pQi D ad ca out) 0 0 (pAD ad) := by
  refine q_entry (own := "AskedCamp$Tape") hJ (by decide) rfl (Nat.le_of_ble_eq_true rfl) (fun p e s m below meth c C hr hlk => ?_)
  refine q_lv [(0, .ref (ad (1)))] rfl ?_
  rw [F_X9_hasRoom] at hF
  refine q_aload_n C 0 dX9_hasRoom_0 rfl rfl ?_
  refine qg_8_1 C pi_1 tw_38 dX9_hasRoom_1 ?_
  refine q_bipush (v := 20) C dX9_hasRoom_4 (by decide) ?_
  refine q_iadd C dX9_hasRoom_6 ?_
  refine q_sipush (v := 400) C dX9_hasRoom_7 (by decide) ?_
  refine q_icmp_gt (tgt := 17) C dX9_hasRoom_10 (by decide) (fun c1 => ?_) (fun c1 => ?_)
  · replace hF := ift c1 hF
    refine q_iconst (v := 0) C dX9_hasRoom_17 (by decide) ?_
    exact q_zret C hr hlk dX9_hasRoom_18 (by decide) hF
  · replace hF := ife c1 hF
    refine q_iconst (v := 1) C dX9_hasRoom_13 (by decide) ?_
    refine q_goto (tgt := 18) C dX9_hasRoom_14 (by decide) ?_
    exact q_zret C hr hlk dX9_hasRoom_18 (by decide) hF
-- X11_feed
def F_X11_feed (n : Nat) (a1 : Int32) (a2 : Int32) (a3 : Int32) (a4 : Int32) (a5 : Int32) (σ : PS) : Option (Int32 × PS) := (F_X9_hasRoom n σ).bind (fun q1 => (if q1.1 = 0 then some ((-1 : Int32), q1.2) else (F_X9_append n a1 q1.2).bind (fun q4 => (F_X9_append n a2 q4).bind (fun q6 => (F_X9_append n a3 q6).bind (fun q8 => (F_X9_append n a4 q8).bind (fun q10 => (F_X9_append n a5 q10).bind (fun q12 => some ((q12.1 1 1), q12))))))))
theorem gm_X11_feed : gM "AskedCamp" yX11_feed (Cond.code yX11_feed cX11_feed 6 (Option.some Jvm.ClassFile.FieldType.int)) 5 := ⟨by decide +kernel, tw_412, tw_413, tw_1, tw_414⟩
set_option maxHeartbeats 4000000 in
set_option maxRecDepth 100000 in
theorem c_X11_feed (l : Launch) (D : va_G) (ad : Nat → Nat) (ca : Nat → ClassId) (kz : Nat → Nat) (hJ : pInj ad) (n : Nat) (a1 : Int32) (a2 : Int32) (a3 : Int32) (a4 : Int32) (a5 : Int32) (σ : PS) (out : Int32 × PS) (hF : F_X11_feed n a1 a2 a3 a4 a5 σ = some out) : Met l yX11_feed (Cond.code yX11_feed cX11_feed 6 (Option.some Jvm.ClassFile.FieldType.int) :: gw_tbl) { frames := 1, cells := 0, slots := 0, locals := 22 } (va_Pc [.ref (ad (0)), .int a1, .int a2, .int a3, .int a4, .int a5] (pU D ad ca kz σ)) (pQi D ad ca out) 0 0 (pAD ad) := by
  refine q_entry (own := "AskedCamp") hJ (by decide) rfl (Nat.le_of_ble_eq_true rfl) (fun p e s m below meth c C hr hlk => ?_)
  refine q_lv [(0, .ref (ad (0))), (1, .int a1), (2, .int a2), (3, .int a3), (4, .int a4), (5, .int a5)] rfl ?_
  rw [F_X11_feed] at hF
  refine q_aload_n C 0 dX11_feed_0 rfl rfl ?_
  refine qg_10_0 C pi_0 tw_380 dX11_feed_1 ?_
  obtain ⟨q1, h2, hF⟩ := bnd hF
  try dsimp only at hF
  refine q_callVi C [] (c_X9_hasRoom l D ad ca kz C.2.2.2.2.2.2.1 _ _ _ h2) tw_415 gm_X9_hasRoom pi_1.1 (pe_8 pi_1.2) rfl ⟨rfl, rfl⟩ ⟨Nat.le_of_ble_eq_true rfl, Nat.le_of_ble_eq_true rfl⟩ rfl (Nat.le_of_ble_eq_true rfl) dX11_feed_4 q00 ?_
  refine q_if_ne (tgt := 12) C dX11_feed_7 (by decide) (fun c3 => ?_) (fun c3 => ?_)
  · replace hF := ife c3 hF
    refine q_aload_n C 0 dX11_feed_12 rfl rfl ?_
    refine qg_10_0 C pi_0 tw_380 dX11_feed_13 ?_
    refine q_iload_n C 1 dX11_feed_16 rfl rfl ?_
    obtain ⟨q4, h5, hF⟩ := bnd hF
    try dsimp only at hF
    refine q_callVv C [.int a1] (c_X9_append l D ad ca kz C.2.2.2.2.2.2.1 _ _ _ _ h5) tw_419 gm_X9_append pi_1.1 (pe_8 pi_1.2) rfl ⟨rfl, rfl⟩ ⟨Nat.le_of_ble_eq_true rfl, Nat.le_of_ble_eq_true rfl⟩ rfl (Nat.le_of_ble_eq_true rfl) dX11_feed_17 q00 ?_
    refine q_aload_n C 0 dX11_feed_20 rfl rfl ?_
    refine qg_10_0 C pi_0 tw_380 dX11_feed_21 ?_
    refine q_iload_n C 2 dX11_feed_24 rfl rfl ?_
    obtain ⟨q6, h7, hF⟩ := bnd hF
    try dsimp only at hF
    refine q_callVv C [.int a2] (c_X9_append l D ad ca kz C.2.2.2.2.2.2.1 _ _ _ _ h7) tw_419 gm_X9_append pi_1.1 (pe_8 pi_1.2) rfl ⟨rfl, rfl⟩ ⟨Nat.le_of_ble_eq_true rfl, Nat.le_of_ble_eq_true rfl⟩ rfl (Nat.le_of_ble_eq_true rfl) dX11_feed_25 q00 ?_
    refine q_aload_n C 0 dX11_feed_28 rfl rfl ?_
    refine qg_10_0 C pi_0 tw_380 dX11_feed_29 ?_
    refine q_iload_n C 3 dX11_feed_32 rfl rfl ?_
    obtain ⟨q8, h9, hF⟩ := bnd hF
    try dsimp only at hF
    refine q_callVv C [.int a3] (c_X9_append l D ad ca kz C.2.2.2.2.2.2.1 _ _ _ _ h9) tw_419 gm_X9_append pi_1.1 (pe_8 pi_1.2) rfl ⟨rfl, rfl⟩ ⟨Nat.le_of_ble_eq_true rfl, Nat.le_of_ble_eq_true rfl⟩ rfl (Nat.le_of_ble_eq_true rfl) dX11_feed_33 q00 ?_
    refine q_aload_n C 0 dX11_feed_36 rfl rfl ?_
    refine qg_10_0 C pi_0 tw_380 dX11_feed_37 ?_
    refine q_iload C 4 dX11_feed_40 rfl ?_
    obtain ⟨q10, h11, hF⟩ := bnd hF
    try dsimp only at hF
    refine q_callVv C [.int a4] (c_X9_append l D ad ca kz C.2.2.2.2.2.2.1 _ _ _ _ h11) tw_419 gm_X9_append pi_1.1 (pe_8 pi_1.2) rfl ⟨rfl, rfl⟩ ⟨Nat.le_of_ble_eq_true rfl, Nat.le_of_ble_eq_true rfl⟩ rfl (Nat.le_of_ble_eq_true rfl) dX11_feed_42 q00 ?_
    refine q_aload_n C 0 dX11_feed_45 rfl rfl ?_
    refine qg_10_0 C pi_0 tw_380 dX11_feed_46 ?_
    refine q_iload C 5 dX11_feed_49 rfl ?_
    obtain ⟨q12, h13, hF⟩ := bnd hF
    try dsimp only at hF
    refine q_callVv C [.int a5] (c_X9_append l D ad ca kz C.2.2.2.2.2.2.1 _ _ _ _ h13) tw_419 gm_X9_append pi_1.1 (pe_8 pi_1.2) rfl ⟨rfl, rfl⟩ ⟨Nat.le_of_ble_eq_true rfl, Nat.le_of_ble_eq_true rfl⟩ rfl (Nat.le_of_ble_eq_true rfl) dX11_feed_51 q00 ?_
    refine q_aload_n C 0 dX11_feed_54 rfl rfl ?_
    refine qg_10_0 C pi_0 tw_380 dX11_feed_55 ?_
    refine qg_8_1 C pi_1 tw_39 dX11_feed_58 ?_
    exact q_iret C hr hlk dX11_feed_61 hF
  · replace hF := ift c3 hF
    refine q_iconst (v := -1) C dX11_feed_10 (by decide) ?_
    exact q_iret C hr hlk dX11_feed_11 hF
-- X2_firstAsked
def L_X2_firstAsked_13 (n : Nat) (a1 : Nat) : Nat → Int32 → Int32 → PS → Option (Nat × Int32 × PS)
  | 0, _, _, _ => none
  | k + 1, x2, x3, σ => (if (200 : Int32) ≤ x3 then some (1, 0, σ) else (F_X4_stride n 217 (σ.1 a1 5) (1 : Int32) σ).bind (fun q4 => (if 0 ≤ x2 ∧ x2.toNatClampNeg < 6 then (if (q4.1 220 x2.toNatClampNeg) ≤ (q4.1 (a1 + 7 + 3) x2.toNatClampNeg) then L_X2_firstAsked_13 n a1 k x2 (x3 + 1) q4 else some (0, x3, q4)) else none)))
def F_X2_firstAsked (n : Nat) (a1 : Nat) (a2 : Int32) (σ : PS) : Option (Int32 × PS) := (F_X10_copyFrom n 217 (a1 + 7) σ).bind (fun q1 => (L_X2_firstAsked_13 n a1 n a2 (0 : Int32) q1).bind (fun o8 => (if o8.1 = 0 then some (((o8.2.2.1 (a1 + 7) 3) + o8.2.1), o8.2.2) else some ((-2 : Int32), o8.2.2))))
theorem gm_X2_firstAsked : gM "AskedCamp$Foresight" yX2_firstAsked (Cond.code yX2_firstAsked cX2_firstAsked 4 (Option.some Jvm.ClassFile.FieldType.int)) 2 := ⟨by decide +kernel, tw_850, tw_851, tw_9, tw_852⟩
set_option maxHeartbeats 4000000 in
set_option maxRecDepth 100000 in
theorem l_X2_firstAsked_13 {p : Program} {l : Launch} {e : Env} {R : Room} {s : State} {m : MethodId} {args : Array Value} {below : List Frame} {meth : Method} {c : Code} {D : va_G} {ad : Nat → Nat} {ca : Nat → ClassId} {kz : Nat → Nat} {Q : State → Prop} (C : pC p s m args c cX2_firstAsked "AskedCamp$Foresight" 4 D ad ca kz) (hR : 6 ≤ R.frames ∧ 154 ≤ R.locals) {n : Nat} {a1 : Nat} (ha1 : pis a1 5) (o : Nat × Int32 × PS) (hx0 : o.1 = 0 → PW p l e R s m args below meth c 4 D ad ca 0 0 Q (o.2.2) 57 [(1, .ref (ad (a1))), (3, .int o.2.1)] []) (hx1 : o.1 = 1 → PW p l e R s m args below meth c 4 D ad ca 0 0 Q (o.2.2) 73 [] []) : ∀ (k : Nat) (x2 : Int32) (x3 : Int32) (σ : PS), L_X2_firstAsked_13 n a1 k x2 x3 σ = some o → PW p l e R s m args below meth c 4 D ad ca 0 0 Q σ 13 [(0, .ref (ad (216))), (1, .ref (ad (a1))), (2, .int x2), (3, .int x3)] [] := by
  intro k
  induction k with
  | zero => intro x2 x3 σ hF; exact nomatch (show (none : Option (Nat × Int32 × PS)) = some o from hF)
  | succ k ih =>
    intro x2 x3 σ hF
    rw [L_X2_firstAsked_13] at hF
    refine q_iload_n C 3 dX2_firstAsked_13 rfl rfl ?_
    refine q_sipush (v := 200) C dX2_firstAsked_14 (by decide) ?_
    refine q_icmp_ge (tgt := 73) C dX2_firstAsked_17 (by decide) (fun c3 => ?_) (fun c3 => ?_)
    · replace hF := ift c3 hF
      cases hF
      refine q_sub [] rfl ?_
      exact hx1 rfl
    · replace hF := ife c3 hF
      refine q_aload_n C 0 dX2_firstAsked_20 rfl rfl ?_
      refine qg_2_1 C pi_216 tw_295 dX2_firstAsked_21 ?_
      refine q_aload_n C 0 dX2_firstAsked_24 rfl rfl ?_
      refine qg_2_0 C pi_216 tw_293 dX2_firstAsked_25 ?_
      refine q_aload_n C 1 dX2_firstAsked_28 rfl rfl ?_
      refine qg_5_5 C ha1 tw_241 dX2_firstAsked_29 ?_
      refine q_iconst (v := 1) C dX2_firstAsked_32 (by decide) ?_
      obtain ⟨q4, h5, hF⟩ := bnd hF
      try dsimp only at hF
      refine q_callVv C [.ref (ad (217)), .int (σ.1 a1 5), .int 1] (c_X4_stride l D ad ca kz C.2.2.2.2.2.2.1 _ pi_217 _ _ _ _ h5) tw_844 gm_X4_stride pi_7.1 (pe_3 pi_7.2) rfl ⟨rfl, rfl⟩ ⟨Nat.le_trans (Nat.le_of_ble_eq_true rfl) hR.1, Nat.le_trans (Nat.le_of_ble_eq_true rfl) hR.2⟩ rfl (Nat.le_of_ble_eq_true rfl) dX2_firstAsked_33 q00 ?_
      refine q_aload_n C 0 dX2_firstAsked_36 rfl rfl ?_
      refine qg_2_0 C pi_216 tw_293 dX2_firstAsked_37 ?_
      refine qg_9_9 C pi_217 tw_194 dX2_firstAsked_40 ?_
      refine q_iload_n C 2 dX2_firstAsked_43 rfl rfl ?_
      obtain ⟨g6, hF⟩ := grd hF
      refine q_iald C pa_220 (vp_of g6) dX2_firstAsked_44 ?_
      refine q_aload_n C 1 dX2_firstAsked_45 rfl rfl ?_
      refine qg_5_1 C ha1 tw_231 dX2_firstAsked_46 ?_
      refine qg_9_9 C (pkS ha1).2.1 tw_194 dX2_firstAsked_49 ?_
      refine q_iload_n C 2 dX2_firstAsked_52 rfl rfl ?_
      refine q_iald C (pkW (pkS ha1).2.1).2.2.1 (vp_of g6) dX2_firstAsked_53 ?_
      refine q_icmp_le (tgt := 67) C dX2_firstAsked_54 (by decide) (fun c7 => ?_) (fun c7 => ?_)
      · replace hF := ift c7 hF
        refine q_iinc C 3 [(3, .int (x3 + 1)), (0, .ref (ad (216))), (1, .ref (ad (a1))), (2, .int x2)] dX2_firstAsked_67 rfl rfl (by decide) rfl ?_
        refine q_goto (tgt := 13) C dX2_firstAsked_70 (by decide) ?_
        refine q_sub [1, 2, 3, 0] rfl ?_
        exact ih _ _ _ hF
      · replace hF := ife c7 hF
        cases hF
        refine q_sub [1, 3] rfl ?_
        exact hx0 rfl
set_option maxHeartbeats 4000000 in
set_option maxRecDepth 100000 in
theorem c_X2_firstAsked (l : Launch) (D : va_G) (ad : Nat → Nat) (ca : Nat → ClassId) (kz : Nat → Nat) (hJ : pInj ad) (n : Nat) {a1 : Nat} (ha1 : pis a1 5) (a2 : Int32) (σ : PS) (out : Int32 × PS) (hF : F_X2_firstAsked n a1 a2 σ = some out) : Met l yX2_firstAsked (Cond.code yX2_firstAsked cX2_firstAsked 4 (Option.some Jvm.ClassFile.FieldType.int) :: gw_tbl) { frames := 6, cells := 0, slots := 0, locals := 154 } (va_Pc [.ref (ad (216)), .ref (ad (a1)), .int a2] (pU D ad ca kz σ)) (pQi D ad ca out) 0 0 (pAD ad) := by
  refine q_entry (own := "AskedCamp$Foresight") hJ (by decide) rfl (Nat.le_of_ble_eq_true rfl) (fun p e s m below meth c C hr hlk => ?_)
  refine q_lv [(0, .ref (ad (216))), (1, .ref (ad (a1))), (2, .int a2)] rfl ?_
  rw [F_X2_firstAsked] at hF
  refine q_aload_n C 0 dX2_firstAsked_0 rfl rfl ?_
  refine qg_2_0 C pi_216 tw_293 dX2_firstAsked_1 ?_
  refine q_aload_n C 1 dX2_firstAsked_4 rfl rfl ?_
  refine qg_5_1 C ha1 tw_231 dX2_firstAsked_5 ?_
  obtain ⟨q1, h2, hF⟩ := bnd hF
  try dsimp only at hF
  refine q_callVv C [.ref (ad (a1 + 7))] (c_X10_copyFrom l D ad ca kz C.2.2.2.2.2.2.1 _ pi_217 (pkS ha1).2.1 _ _ h2) tw_843 gm_X10_copyFrom pi_217.1 (pe_9 pi_217.2) rfl ⟨rfl, rfl⟩ ⟨Nat.le_of_ble_eq_true rfl, Nat.le_of_ble_eq_true rfl⟩ rfl (Nat.le_of_ble_eq_true rfl) dX2_firstAsked_8 q00 ?_
  refine q_iconst (v := 0) C dX2_firstAsked_11 (by decide) ?_
  refine q_istore_n C [(3, .int 0), (0, .ref (ad (216))), (1, .ref (ad (a1))), (2, .int a2)] dX2_firstAsked_12 rfl (by decide) rfl ?_
  obtain ⟨o8, h9, hF⟩ := bnd hF
  try dsimp only at hF
  refine q_sub [1, 2, 3, 0] rfl ?_
  refine l_X2_firstAsked_13 C ⟨Nat.le_of_ble_eq_true rfl, Nat.le_of_ble_eq_true rfl⟩ ha1 o8 (fun eo8_0 => ?_) (fun eo8_1 => ?_) n _ _ _ h9
  · -- exit 0
    replace hF := ift eo8_0 hF
    refine q_aload_n C 0 dX2_firstAsked_57 rfl rfl ?_
    refine qg_5_1 C ha1 tw_231 dX2_firstAsked_58 ?_
    refine qg_9_3 C (pkS ha1).2.1 tw_171 dX2_firstAsked_61 ?_
    refine q_iload_n C 1 dX2_firstAsked_64 rfl rfl ?_
    refine q_iadd C dX2_firstAsked_65 ?_
    exact q_iret C hr hlk dX2_firstAsked_66 hF
  · -- exit 1
    replace hF := ife (by rw [eo8_1]; decide) hF
    refine q_bipush (v := -2) C dX2_firstAsked_73 (by decide) ?_
    exact q_iret C hr hlk dX2_firstAsked_75 hF
-- X11_first
def F_X11_first (n : Nat) (a1 : Int32) (σ : PS) : Option (Int32 × PS) := (F_X10_hasTent n 25 a1 σ).bind (fun q1 => (if q1.1 = 0 then some ((-1 : Int32), q1.2) else (F_X2_firstAsked n 18 a1 q1.2).bind (fun q4 => some (q4.1, q4.2))))
theorem gm_X11_first : gM "AskedCamp" yX11_first (Cond.code yX11_first cX11_first 2 (Option.some Jvm.ClassFile.FieldType.int)) 1 := ⟨by decide +kernel, tw_846, tw_847, tw_1, tw_848⟩
set_option maxHeartbeats 4000000 in
set_option maxRecDepth 100000 in
theorem c_X11_first (l : Launch) (D : va_G) (ad : Nat → Nat) (ca : Nat → ClassId) (kz : Nat → Nat) (hJ : pInj ad) (n : Nat) (a1 : Int32) (σ : PS) (out : Int32 × PS) (hF : F_X11_first n a1 σ = some out) : Met l yX11_first (Cond.code yX11_first cX11_first 2 (Option.some Jvm.ClassFile.FieldType.int) :: gw_tbl) { frames := 7, cells := 0, slots := 0, locals := 177 } (va_Pc [.ref (ad (0)), .int a1] (pU D ad ca kz σ)) (pQi D ad ca out) 0 0 (pAD ad) := by
  refine q_entry (own := "AskedCamp") hJ (by decide) rfl (Nat.le_of_ble_eq_true rfl) (fun p e s m below meth c C hr hlk => ?_)
  refine q_lv [(0, .ref (ad (0))), (1, .int a1)] rfl ?_
  rw [F_X11_first] at hF
  refine q_aload_n C 0 dX11_first_0 rfl rfl ?_
  refine qg_10_4 C pi_0 tw_384 dX11_first_1 ?_
  refine qg_5_1 C pi_18 tw_232 dX11_first_4 ?_
  refine q_iload_n C 1 dX11_first_7 rfl rfl ?_
  obtain ⟨q1, h2, hF⟩ := bnd hF
  try dsimp only at hF
  refine q_callVi C [.int a1] (c_X10_hasTent l D ad ca kz C.2.2.2.2.2.2.1 _ pi_25 _ _ _ h2) tw_663 gm_X10_hasTent pi_25.1 (pe_9 pi_25.2) rfl ⟨rfl, rfl⟩ ⟨Nat.le_of_ble_eq_true rfl, Nat.le_of_ble_eq_true rfl⟩ rfl (Nat.le_of_ble_eq_true rfl) dX11_first_8 q00 ?_
  refine q_if_eq (tgt := 29) C dX11_first_11 (by decide) (fun c3 => ?_) (fun c3 => ?_)
  · replace hF := ift c3 hF
    refine q_iconst (v := -1) C dX11_first_29 (by decide) ?_
    exact q_iret C hr hlk dX11_first_30 hF
  · replace hF := ife c3 hF
    refine q_aload_n C 0 dX11_first_14 rfl rfl ?_
    refine qg_10_7 C pi_0 tw_387 dX11_first_15 ?_
    refine q_aload_n C 0 dX11_first_18 rfl rfl ?_
    refine qg_10_4 C pi_0 tw_384 dX11_first_19 ?_
    refine q_iload_n C 1 dX11_first_22 rfl rfl ?_
    obtain ⟨q4, h5, hF⟩ := bnd hF
    try dsimp only at hF
    refine q_callVi C [.ref (ad (18)), .int a1] (c_X2_firstAsked l D ad ca kz C.2.2.2.2.2.2.1 _ pi_18 _ _ _ h5) tw_849 gm_X2_firstAsked pi_216.1 (pe_2 pi_216.2) rfl ⟨rfl, rfl⟩ ⟨Nat.le_of_ble_eq_true rfl, Nat.le_of_ble_eq_true rfl⟩ rfl (Nat.le_of_ble_eq_true rfl) dX11_first_23 q00 ?_
    refine q_goto (tgt := 30) C dX11_first_26 (by decide) ?_
    exact q_iret C hr hlk dX11_first_30 hF
-- X11_force
def F_X11_force (n : Nat) (a1 : Int32) (σ : PS) : Option (Int32 × PS) := (if a1 = (-1 : Int32) then some ((σ.1 18 5), psI σ 18 5 a1) else (F_X4_has n a1 σ).bind (fun q2 => (if q2.1 = 0 then some ((-2 : Int32), q2.2) else some ((q2.2.1 18 5), psI q2.2 18 5 a1))))
theorem gm_X11_force : gM "AskedCamp" yX11_force (Cond.code yX11_force cX11_force 3 (Option.some Jvm.ClassFile.FieldType.int)) 1 := ⟨by decide +kernel, tw_652, tw_653, tw_1, tw_654⟩
set_option maxHeartbeats 4000000 in
set_option maxRecDepth 100000 in
theorem c_X11_force (l : Launch) (D : va_G) (ad : Nat → Nat) (ca : Nat → ClassId) (kz : Nat → Nat) (hJ : pInj ad) (n : Nat) (a1 : Int32) (σ : PS) (out : Int32 × PS) (hF : F_X11_force n a1 σ = some out) : Met l yX11_force (Cond.code yX11_force cX11_force 3 (Option.some Jvm.ClassFile.FieldType.int) :: gw_tbl) { frames := 1, cells := 0, slots := 0, locals := 21 } (va_Pc [.ref (ad (0)), .int a1] (pU D ad ca kz σ)) (pQi D ad ca out) 0 0 (pAD ad) := by
  refine q_entry (own := "AskedCamp") hJ (by decide) rfl (Nat.le_of_ble_eq_true rfl) (fun p e s m below meth c C hr hlk => ?_)
  refine q_lv [(0, .ref (ad (0))), (1, .int a1)] rfl ?_
  rw [F_X11_force] at hF
  refine q_iload_n C 1 dX11_force_0 rfl rfl ?_
  refine q_iconst (v := -1) C dX11_force_1 (by decide) ?_
  refine q_icmp_eq (tgt := 19) C dX11_force_2 (by decide) (fun c1 => ?_) (fun c1 => ?_)
  · replace hF := ift c1 hF
    refine q_aload_n C 0 dX11_force_19 rfl rfl ?_
    refine qg_10_4 C pi_0 tw_384 dX11_force_20 ?_
    refine qg_5_5 C pi_18 tw_242 dX11_force_23 ?_
    refine q_istore_n C [(2, .int (σ.1 18 5)), (0, .ref (ad (0))), (1, .int a1)] dX11_force_26 rfl (by decide) rfl ?_
    refine q_aload_n C 1 dX11_force_27 rfl rfl ?_
    refine qg_10_4 C pi_0 tw_384 dX11_force_28 ?_
    refine q_iload_n C 2 dX11_force_31 rfl rfl ?_
    refine qs_5_5 C pi_18 tw_242 dX11_force_32 ?_
    refine q_iload_n C 0 dX11_force_35 rfl rfl ?_
    exact q_iret C hr hlk dX11_force_36 hF
  · replace hF := ife c1 hF
    refine q_aload_n C 0 dX11_force_5 rfl rfl ?_
    refine qg_10_3 C pi_0 tw_383 dX11_force_6 ?_
    refine q_iload_n C 1 dX11_force_9 rfl rfl ?_
    obtain ⟨q2, h3, hF⟩ := bnd hF
    try dsimp only at hF
    refine q_callVi C [.int a1] (c_X4_has l D ad ca kz C.2.2.2.2.2.2.1 _ _ _ _ h3) tw_655 gm_X4_has pi_7.1 (pe_3 pi_7.2) rfl ⟨rfl, rfl⟩ ⟨Nat.le_of_ble_eq_true rfl, Nat.le_of_ble_eq_true rfl⟩ rfl (Nat.le_of_ble_eq_true rfl) dX11_force_10 q00 ?_
    refine q_if_ne (tgt := 19) C dX11_force_13 (by decide) (fun c4 => ?_) (fun c4 => ?_)
    · replace hF := ife c4 hF
      refine q_aload_n C 0 dX11_force_19 rfl rfl ?_
      refine qg_10_4 C pi_0 tw_384 dX11_force_20 ?_
      refine qg_5_5 C pi_18 tw_242 dX11_force_23 ?_
      refine q_istore_n C [(2, .int (q2.2.1 18 5)), (0, .ref (ad (0))), (1, .int a1)] dX11_force_26 rfl (by decide) rfl ?_
      refine q_aload_n C 1 dX11_force_27 rfl rfl ?_
      refine qg_10_4 C pi_0 tw_384 dX11_force_28 ?_
      refine q_iload_n C 2 dX11_force_31 rfl rfl ?_
      refine qs_5_5 C pi_18 tw_242 dX11_force_32 ?_
      refine q_iload_n C 0 dX11_force_35 rfl rfl ?_
      exact q_iret C hr hlk dX11_force_36 hF
    · replace hF := ift c4 hF
      refine q_bipush (v := -2) C dX11_force_16 (by decide) ?_
      exact q_iret C hr hlk dX11_force_18 hF
-- X7_ended
def L_X7_ended_22 (n : Nat) (a0 : Nat) (rc : Int32 → Int32 → Int32 → Int32 → PS → Option (Int32 × PS)) : Nat → Int32 → Int32 → Int32 → Int32 → Int32 → Int32 → PS → Option (Int32 × PS)
  | 0, _, _, _, _, _, _, _ => none
  | k + 1, x1, x2, x3, x4, x5, x6, σ => (if (5 : Int32) ≤ x6 then some (x5, σ) else (if 0 ≤ x6 ∧ x6.toNatClampNeg < 5 then (if x4 = 0 then (F_X10_beside n a0 x2 (pTb1.getD x6.toNatClampNeg 0) σ).bind (fun q8 => (if q8.1 = (-1 : Int32) then L_X7_ended_22 n a0 rc k x1 x2 x3 x4 x5 (x6 + 1) q8.2 else (if x4 = 0 then (rc x1 q8.1 (x3 - (1 : Int32)) (1 : Int32) q8.2).bind (fun q12 => (if x5 = (-1 : Int32) then L_X7_ended_22 n a0 rc k x1 x2 x3 x4 q12.1 (x6 + 1) q12.2 else (if x4 = 0 then (if x4 = 0 then (if q12.1 ≤ x5 then L_X7_ended_22 n a0 rc k x1 x2 x3 x4 x5 (x6 + 1) q12.2 else L_X7_ended_22 n a0 rc k x1 x2 x3 x4 q12.1 (x6 + 1) q12.2) else L_X7_ended_22 n a0 rc k x1 x2 x3 x4 x5 (x6 + 1) q12.2) else (if q12.1 < x5 then L_X7_ended_22 n a0 rc k x1 x2 x3 x4 q12.1 (x6 + 1) q12.2 else (if x4 = 0 then (if q12.1 ≤ x5 then L_X7_ended_22 n a0 rc k x1 x2 x3 x4 x5 (x6 + 1) q12.2 else L_X7_ended_22 n a0 rc k x1 x2 x3 x4 q12.1 (x6 + 1) q12.2) else L_X7_ended_22 n a0 rc k x1 x2 x3 x4 x5 (x6 + 1) q12.2))))) else (rc q8.1 x2 (x3 - (1 : Int32)) (0 : Int32) q8.2).bind (fun q21 => (if x5 = (-1 : Int32) then L_X7_ended_22 n a0 rc k x1 x2 x3 x4 q21.1 (x6 + 1) q21.2 else (if x4 = 0 then (if x4 = 0 then (if q21.1 ≤ x5 then L_X7_ended_22 n a0 rc k x1 x2 x3 x4 x5 (x6 + 1) q21.2 else L_X7_ended_22 n a0 rc k x1 x2 x3 x4 q21.1 (x6 + 1) q21.2) else L_X7_ended_22 n a0 rc k x1 x2 x3 x4 x5 (x6 + 1) q21.2) else (if q21.1 < x5 then L_X7_ended_22 n a0 rc k x1 x2 x3 x4 q21.1 (x6 + 1) q21.2 else (if x4 = 0 then (if q21.1 ≤ x5 then L_X7_ended_22 n a0 rc k x1 x2 x3 x4 x5 (x6 + 1) q21.2 else L_X7_ended_22 n a0 rc k x1 x2 x3 x4 q21.1 (x6 + 1) q21.2) else L_X7_ended_22 n a0 rc k x1 x2 x3 x4 x5 (x6 + 1) q21.2)))))))) else (F_X10_passable n a0 x1 (pTb1.getD x6.toNatClampNeg 0) σ).bind (fun q30 => (if q30.1 = (-1 : Int32) then L_X7_ended_22 n a0 rc k x1 x2 x3 x4 x5 (x6 + 1) q30.2 else (if x4 = 0 then (rc x1 q30.1 (x3 - (1 : Int32)) (1 : Int32) q30.2).bind (fun q34 => (if x5 = (-1 : Int32) then L_X7_ended_22 n a0 rc k x1 x2 x3 x4 q34.1 (x6 + 1) q34.2 else (if x4 = 0 then (if x4 = 0 then (if q34.1 ≤ x5 then L_X7_ended_22 n a0 rc k x1 x2 x3 x4 x5 (x6 + 1) q34.2 else L_X7_ended_22 n a0 rc k x1 x2 x3 x4 q34.1 (x6 + 1) q34.2) else L_X7_ended_22 n a0 rc k x1 x2 x3 x4 x5 (x6 + 1) q34.2) else (if q34.1 < x5 then L_X7_ended_22 n a0 rc k x1 x2 x3 x4 q34.1 (x6 + 1) q34.2 else (if x4 = 0 then (if q34.1 ≤ x5 then L_X7_ended_22 n a0 rc k x1 x2 x3 x4 x5 (x6 + 1) q34.2 else L_X7_ended_22 n a0 rc k x1 x2 x3 x4 q34.1 (x6 + 1) q34.2) else L_X7_ended_22 n a0 rc k x1 x2 x3 x4 x5 (x6 + 1) q34.2))))) else (rc q30.1 x2 (x3 - (1 : Int32)) (0 : Int32) q30.2).bind (fun q43 => (if x5 = (-1 : Int32) then L_X7_ended_22 n a0 rc k x1 x2 x3 x4 q43.1 (x6 + 1) q43.2 else (if x4 = 0 then (if x4 = 0 then (if q43.1 ≤ x5 then L_X7_ended_22 n a0 rc k x1 x2 x3 x4 x5 (x6 + 1) q43.2 else L_X7_ended_22 n a0 rc k x1 x2 x3 x4 q43.1 (x6 + 1) q43.2) else L_X7_ended_22 n a0 rc k x1 x2 x3 x4 x5 (x6 + 1) q43.2) else (if q43.1 < x5 then L_X7_ended_22 n a0 rc k x1 x2 x3 x4 q43.1 (x6 + 1) q43.2 else (if x4 = 0 then (if q43.1 ≤ x5 then L_X7_ended_22 n a0 rc k x1 x2 x3 x4 x5 (x6 + 1) q43.2 else L_X7_ended_22 n a0 rc k x1 x2 x3 x4 q43.1 (x6 + 1) q43.2) else L_X7_ended_22 n a0 rc k x1 x2 x3 x4 x5 (x6 + 1) q43.2))))))))) else none))
def F_X7_ended (n : Nat) (a0 : Nat) : Nat → Int32 → Int32 → Int32 → Int32 → PS → Option (Int32 × PS)
  | 0, _, _, _, _, _ => none
  | d + 1, a1, a2, a3, a4, σ => (if a3 ≤ 0 then (F_X10_gapBetween n a0 a1 a2 σ).bind (fun q2 => some (q2.1, q2.2)) else (if a3 ≤ (4 : Int32) then (L_X7_ended_22 n a0 (F_X7_ended n a0 d) n a1 a2 a3 a4 (-1 : Int32) (0 : Int32) σ).bind (fun o52 => some (o52.1, o52.2)) else (F_X10_gapBetween n a0 a1 a2 σ).bind (fun q54 => some (q54.1, q54.2))))
theorem gm_X7_ended : gS yX7_ended (Cond.code yX7_ended cX7_ended 10 (Option.some Jvm.ClassFile.FieldType.int)) 5 := ⟨by decide +kernel, tw_970, tw_11, tw_971⟩
set_option maxHeartbeats 4000000 in
set_option maxRecDepth 100000 in
theorem l_X7_ended_22 {p : Program} {l : Launch} {e : Env} {R : Room} {s : State} {m : MethodId} {args : Array Value} {below : List Frame} {meth : Method} {c : Code} {D : va_G} {ad : Nat → Nat} {ca : Nat → ClassId} {kz : Nat → Nat} {Q : State → Prop} (C : pC p s m args c cX7_ended "AskedCamp$Siege" 10 D ad ca kz) (hR : 2 ≤ R.frames ∧ 46 ≤ R.locals) {n : Nat} {a0 : Nat} (ha0 : pis a0 9) {rc : Int32 → Int32 → Int32 → Int32 → PS → Option (Int32 × PS)} {fr lo : Nat} (hrc : ∀ (a1 : Int32) (a2 : Int32) (a3 : Int32) (a4 : Int32) (σ : PS) (out : Int32 × PS), rc a1 a2 a3 a4 σ = some out → Met l yX7_ended (Cond.code yX7_ended cX7_ended 10 (Option.some Jvm.ClassFile.FieldType.int) :: gw_tbl) { frames := fr, cells := 0, slots := 0, locals := lo } (va_Pc [.ref (ad (a0)), .int a1, .int a2, .int a3, .int a4] (pU D ad ca kz σ)) (pQi D ad ca out) 0 0 (pAD ad)) (hRr : fr + 1 ≤ R.frames ∧ 8 + (10 + 11) + lo ≤ R.locals) (o : Int32 × PS) (hx0 : PW p l e R s m args below meth c 10 D ad ca 0 0 Q (o.2) 144 [(5, .int o.1)] []) : ∀ (k : Nat) (x1 : Int32) (x2 : Int32) (x3 : Int32) (x4 : Int32) (x5 : Int32) (x6 : Int32) (σ : PS), L_X7_ended_22 n a0 rc k x1 x2 x3 x4 x5 x6 σ = some o → PW p l e R s m args below meth c 10 D ad ca 0 0 Q σ 22 [(0, .ref (ad (a0))), (1, .int x1), (2, .int x2), (3, .int x3), (4, .int x4), (5, .int x5), (6, .int x6)] [] := by
  intro k
  induction k with
  | zero => intro x1 x2 x3 x4 x5 x6 σ hF; exact nomatch (show (none : Option (Int32 × PS)) = some o from hF)
  | succ k ih =>
    intro x1 x2 x3 x4 x5 x6 σ hF
    rw [L_X7_ended_22] at hF
    refine q_iload C 6 dX7_ended_22 rfl ?_
    refine q_sn2 C dX7_ended_24 ?_
    refine q_stlen1 C dX7_ended_27 ?_
    refine q_icmp_ge (tgt := 144) C dX7_ended_28 (by decide) (fun c5 => ?_) (fun c5 => ?_)
    · replace hF := ift c5 hF
      cases hF
      refine q_sub [5] rfl ?_
      exact hx0
    · replace hF := ife c5 hF
      refine q_sn2 C dX7_ended_31 ?_
      refine q_iload C 6 dX7_ended_34 rfl ?_
      obtain ⟨g6, hF⟩ := grd hF
      refine q_stald1 C (vp_of g6) dX7_ended_36 ?_
      refine q_istore C [(7, .int (pTb1.getD x6.toNatClampNeg 0)), (0, .ref (ad (a0))), (1, .int x1), (2, .int x2), (3, .int x3), (4, .int x4), (5, .int x5), (6, .int x6)] dX7_ended_37 (by decide) rfl ?_
      refine q_iload C 5 dX7_ended_39 rfl ?_
      refine q_if_eq (tgt := 54) C dX7_ended_41 (by decide) (fun c7 => ?_) (fun c7 => ?_)
      · replace hF := ift c7 hF
        refine q_aload_n C 1 dX7_ended_54 rfl rfl ?_
        refine q_iload_n C 3 dX7_ended_55 rfl rfl ?_
        refine q_iload C 0 dX7_ended_56 rfl ?_
        obtain ⟨q8, h9, hF⟩ := bnd hF
        try dsimp only at hF
        refine q_callVi C [.int x2, .int (pTb1.getD x6.toNatClampNeg 0)] (c_X10_beside l D ad ca kz C.2.2.2.2.2.2.1 _ ha0 _ _ _ _ h9) tw_981 gm_X10_beside ha0.1 (pe_9 ha0.2) rfl ⟨rfl, rfl⟩ ⟨Nat.le_trans (Nat.le_of_ble_eq_true rfl) hR.1, Nat.le_trans (Nat.le_of_ble_eq_true rfl) hR.2⟩ rfl (Nat.le_of_ble_eq_true rfl) dX7_ended_58 q00 ?_
        refine q_istore C [(8, .int q8.1), (7, .int (pTb1.getD x6.toNatClampNeg 0)), (0, .ref (ad (a0))), (1, .int x1), (2, .int x2), (3, .int x3), (4, .int x4), (5, .int x5), (6, .int x6)] dX7_ended_61 (by decide) rfl ?_
        refine q_iload C 0 dX7_ended_63 rfl ?_
        refine q_iconst (v := -1) C dX7_ended_65 (by decide) ?_
        refine q_icmp_ne (tgt := 72) C dX7_ended_66 (by decide) (fun c10 => ?_) (fun c10 => ?_)
        · replace hF := ife c10 hF
          refine q_iload C 6 dX7_ended_72 rfl ?_
          refine q_if_eq (tgt := 91) C dX7_ended_74 (by decide) (fun c11 => ?_) (fun c11 => ?_)
          · replace hF := ift c11 hF
            refine q_aload_n C 2 dX7_ended_91 rfl rfl ?_
            refine q_iload_n C 3 dX7_ended_92 rfl rfl ?_
            refine q_iload C 0 dX7_ended_93 rfl ?_
            refine q_iload_n C 5 dX7_ended_95 rfl rfl ?_
            refine q_iconst (v := 1) C dX7_ended_96 (by decide) ?_
            refine q_isub C dX7_ended_97 ?_
            refine q_iconst (v := 1) C dX7_ended_98 (by decide) ?_
            obtain ⟨q12, h13, hF⟩ := bnd hF
            try dsimp only at hF
            refine q_callSi C [.ref (ad (a0)), .int x1, .int q8.1, .int (x3 - (1 : Int32)), .int 1] (hrc _ _ _ _ _ _ h13) tw_969 gm_X7_ended ⟨rfl, rfl⟩ hRr rfl (Nat.le_of_ble_eq_true rfl) dX7_ended_99 q00 ?_
            refine q_istore C [(9, .int q12.1), (8, .int q8.1), (7, .int (pTb1.getD x6.toNatClampNeg 0)), (0, .ref (ad (a0))), (1, .int x1), (2, .int x2), (3, .int x3), (4, .int x4), (5, .int x5), (6, .int x6)] dX7_ended_102 (by decide) rfl ?_
            refine q_iload C 8 dX7_ended_104 rfl ?_
            refine q_iconst (v := -1) C dX7_ended_106 (by decide) ?_
            refine q_icmp_eq (tgt := 134) C dX7_ended_107 (by decide) (fun c14 => ?_) (fun c14 => ?_)
            · replace hF := ift c14 hF
              refine q_iload C 0 dX7_ended_134 rfl ?_
              refine q_istore C [(5, .int q12.1), (9, .int q12.1), (8, .int q8.1), (7, .int (pTb1.getD x6.toNatClampNeg 0)), (0, .ref (ad (a0))), (1, .int x1), (2, .int x2), (3, .int x3), (4, .int x4), (6, .int x6)] dX7_ended_136 (by decide) rfl ?_
              refine q_iinc C 9 [(6, .int (x6 + 1)), (5, .int q12.1), (9, .int q12.1), (8, .int q8.1), (7, .int (pTb1.getD x6.toNatClampNeg 0)), (0, .ref (ad (a0))), (1, .int x1), (2, .int x2), (3, .int x3), (4, .int x4)] dX7_ended_138 rfl rfl (by decide) rfl ?_
              refine q_goto (tgt := 22) C dX7_ended_141 (by decide) ?_
              refine q_sub [5, 6, 7, 8, 9, 1, 0] rfl ?_
              exact ih _ _ _ _ _ _ _ hF
            · replace hF := ife c14 hF
              refine q_iload C 7 dX7_ended_110 rfl ?_
              refine q_if_eq (tgt := 122) C dX7_ended_112 (by decide) (fun c15 => ?_) (fun c15 => ?_)
              · replace hF := ift c15 hF
                refine q_iload C 7 dX7_ended_122 rfl ?_
                refine q_if_ne (tgt := 138) C dX7_ended_124 (by decide) (fun c16 => ?_) (fun c16 => ?_)
                · replace hF := ife c16 hF
                  refine q_iinc C 9 [(6, .int (x6 + 1)), (9, .int q12.1), (8, .int q8.1), (7, .int (pTb1.getD x6.toNatClampNeg 0)), (0, .ref (ad (a0))), (1, .int x1), (2, .int x2), (3, .int x3), (4, .int x4), (5, .int x5)] dX7_ended_138 rfl rfl (by decide) rfl ?_
                  refine q_goto (tgt := 22) C dX7_ended_141 (by decide) ?_
                  refine q_sub [4, 5, 6, 7, 8, 9, 0] rfl ?_
                  exact ih _ _ _ _ _ _ _ hF
                · replace hF := ift c16 hF
                  refine q_iload C 0 dX7_ended_127 rfl ?_
                  refine q_iload C 8 dX7_ended_129 rfl ?_
                  refine q_icmp_le (tgt := 138) C dX7_ended_131 (by decide) (fun c17 => ?_) (fun c17 => ?_)
                  · replace hF := ift c17 hF
                    refine q_iinc C 9 [(6, .int (x6 + 1)), (9, .int q12.1), (8, .int q8.1), (7, .int (pTb1.getD x6.toNatClampNeg 0)), (0, .ref (ad (a0))), (1, .int x1), (2, .int x2), (3, .int x3), (4, .int x4), (5, .int x5)] dX7_ended_138 rfl rfl (by decide) rfl ?_
                    refine q_goto (tgt := 22) C dX7_ended_141 (by decide) ?_
                    refine q_sub [4, 5, 6, 7, 8, 9, 0] rfl ?_
                    exact ih _ _ _ _ _ _ _ hF
                  · replace hF := ife c17 hF
                    refine q_iload C 0 dX7_ended_134 rfl ?_
                    refine q_istore C [(5, .int q12.1), (9, .int q12.1), (8, .int q8.1), (7, .int (pTb1.getD x6.toNatClampNeg 0)), (0, .ref (ad (a0))), (1, .int x1), (2, .int x2), (3, .int x3), (4, .int x4), (6, .int x6)] dX7_ended_136 (by decide) rfl ?_
                    refine q_iinc C 9 [(6, .int (x6 + 1)), (5, .int q12.1), (9, .int q12.1), (8, .int q8.1), (7, .int (pTb1.getD x6.toNatClampNeg 0)), (0, .ref (ad (a0))), (1, .int x1), (2, .int x2), (3, .int x3), (4, .int x4)] dX7_ended_138 rfl rfl (by decide) rfl ?_
                    refine q_goto (tgt := 22) C dX7_ended_141 (by decide) ?_
                    refine q_sub [5, 6, 7, 8, 9, 1, 0] rfl ?_
                    exact ih _ _ _ _ _ _ _ hF
              · replace hF := ife c15 hF
                refine q_iload C 0 dX7_ended_115 rfl ?_
                refine q_iload C 8 dX7_ended_117 rfl ?_
                refine q_icmp_lt (tgt := 134) C dX7_ended_119 (by decide) (fun c18 => ?_) (fun c18 => ?_)
                · replace hF := ift c18 hF
                  refine q_iload C 0 dX7_ended_134 rfl ?_
                  refine q_istore C [(5, .int q12.1), (9, .int q12.1), (8, .int q8.1), (7, .int (pTb1.getD x6.toNatClampNeg 0)), (0, .ref (ad (a0))), (1, .int x1), (2, .int x2), (3, .int x3), (4, .int x4), (6, .int x6)] dX7_ended_136 (by decide) rfl ?_
                  refine q_iinc C 9 [(6, .int (x6 + 1)), (5, .int q12.1), (9, .int q12.1), (8, .int q8.1), (7, .int (pTb1.getD x6.toNatClampNeg 0)), (0, .ref (ad (a0))), (1, .int x1), (2, .int x2), (3, .int x3), (4, .int x4)] dX7_ended_138 rfl rfl (by decide) rfl ?_
                  refine q_goto (tgt := 22) C dX7_ended_141 (by decide) ?_
                  refine q_sub [5, 6, 7, 8, 9, 1, 0] rfl ?_
                  exact ih _ _ _ _ _ _ _ hF
                · replace hF := ife c18 hF
                  refine q_iload C 7 dX7_ended_122 rfl ?_
                  refine q_if_ne (tgt := 138) C dX7_ended_124 (by decide) (fun c19 => ?_) (fun c19 => ?_)
                  · replace hF := ife c19 hF
                    refine q_iinc C 9 [(6, .int (x6 + 1)), (9, .int q12.1), (8, .int q8.1), (7, .int (pTb1.getD x6.toNatClampNeg 0)), (0, .ref (ad (a0))), (1, .int x1), (2, .int x2), (3, .int x3), (4, .int x4), (5, .int x5)] dX7_ended_138 rfl rfl (by decide) rfl ?_
                    refine q_goto (tgt := 22) C dX7_ended_141 (by decide) ?_
                    refine q_sub [4, 5, 6, 7, 8, 9, 0] rfl ?_
                    exact ih _ _ _ _ _ _ _ hF
                  · replace hF := ift c19 hF
                    refine q_iload C 0 dX7_ended_127 rfl ?_
                    refine q_iload C 8 dX7_ended_129 rfl ?_
                    refine q_icmp_le (tgt := 138) C dX7_ended_131 (by decide) (fun c20 => ?_) (fun c20 => ?_)
                    · replace hF := ift c20 hF
                      refine q_iinc C 9 [(6, .int (x6 + 1)), (9, .int q12.1), (8, .int q8.1), (7, .int (pTb1.getD x6.toNatClampNeg 0)), (0, .ref (ad (a0))), (1, .int x1), (2, .int x2), (3, .int x3), (4, .int x4), (5, .int x5)] dX7_ended_138 rfl rfl (by decide) rfl ?_
                      refine q_goto (tgt := 22) C dX7_ended_141 (by decide) ?_
                      refine q_sub [4, 5, 6, 7, 8, 9, 0] rfl ?_
                      exact ih _ _ _ _ _ _ _ hF
                    · replace hF := ife c20 hF
                      refine q_iload C 0 dX7_ended_134 rfl ?_
                      refine q_istore C [(5, .int q12.1), (9, .int q12.1), (8, .int q8.1), (7, .int (pTb1.getD x6.toNatClampNeg 0)), (0, .ref (ad (a0))), (1, .int x1), (2, .int x2), (3, .int x3), (4, .int x4), (6, .int x6)] dX7_ended_136 (by decide) rfl ?_
                      refine q_iinc C 9 [(6, .int (x6 + 1)), (5, .int q12.1), (9, .int q12.1), (8, .int q8.1), (7, .int (pTb1.getD x6.toNatClampNeg 0)), (0, .ref (ad (a0))), (1, .int x1), (2, .int x2), (3, .int x3), (4, .int x4)] dX7_ended_138 rfl rfl (by decide) rfl ?_
                      refine q_goto (tgt := 22) C dX7_ended_141 (by decide) ?_
                      refine q_sub [5, 6, 7, 8, 9, 1, 0] rfl ?_
                      exact ih _ _ _ _ _ _ _ hF
          · replace hF := ife c11 hF
            refine q_aload_n C 2 dX7_ended_77 rfl rfl ?_
            refine q_iload C 0 dX7_ended_78 rfl ?_
            refine q_iload_n C 4 dX7_ended_80 rfl rfl ?_
            refine q_iload_n C 5 dX7_ended_81 rfl rfl ?_
            refine q_iconst (v := 1) C dX7_ended_82 (by decide) ?_
            refine q_isub C dX7_ended_83 ?_
            refine q_iconst (v := 0) C dX7_ended_84 (by decide) ?_
            obtain ⟨q21, h22, hF⟩ := bnd hF
            try dsimp only at hF
            refine q_callSi C [.ref (ad (a0)), .int q8.1, .int x2, .int (x3 - (1 : Int32)), .int 0] (hrc _ _ _ _ _ _ h22) tw_969 gm_X7_ended ⟨rfl, rfl⟩ hRr rfl (Nat.le_of_ble_eq_true rfl) dX7_ended_85 q00 ?_
            refine q_goto (tgt := 102) C dX7_ended_88 (by decide) ?_
            refine q_istore C [(9, .int q21.1), (8, .int q8.1), (7, .int (pTb1.getD x6.toNatClampNeg 0)), (0, .ref (ad (a0))), (1, .int x1), (2, .int x2), (3, .int x3), (4, .int x4), (5, .int x5), (6, .int x6)] dX7_ended_102 (by decide) rfl ?_
            refine q_iload C 8 dX7_ended_104 rfl ?_
            refine q_iconst (v := -1) C dX7_ended_106 (by decide) ?_
            refine q_icmp_eq (tgt := 134) C dX7_ended_107 (by decide) (fun c23 => ?_) (fun c23 => ?_)
            · replace hF := ift c23 hF
              refine q_iload C 0 dX7_ended_134 rfl ?_
              refine q_istore C [(5, .int q21.1), (9, .int q21.1), (8, .int q8.1), (7, .int (pTb1.getD x6.toNatClampNeg 0)), (0, .ref (ad (a0))), (1, .int x1), (2, .int x2), (3, .int x3), (4, .int x4), (6, .int x6)] dX7_ended_136 (by decide) rfl ?_
              refine q_iinc C 9 [(6, .int (x6 + 1)), (5, .int q21.1), (9, .int q21.1), (8, .int q8.1), (7, .int (pTb1.getD x6.toNatClampNeg 0)), (0, .ref (ad (a0))), (1, .int x1), (2, .int x2), (3, .int x3), (4, .int x4)] dX7_ended_138 rfl rfl (by decide) rfl ?_
              refine q_goto (tgt := 22) C dX7_ended_141 (by decide) ?_
              refine q_sub [5, 6, 7, 8, 9, 1, 0] rfl ?_
              exact ih _ _ _ _ _ _ _ hF
            · replace hF := ife c23 hF
              refine q_iload C 7 dX7_ended_110 rfl ?_
              refine q_if_eq (tgt := 122) C dX7_ended_112 (by decide) (fun c24 => ?_) (fun c24 => ?_)
              · replace hF := ift c24 hF
                refine q_iload C 7 dX7_ended_122 rfl ?_
                refine q_if_ne (tgt := 138) C dX7_ended_124 (by decide) (fun c25 => ?_) (fun c25 => ?_)
                · replace hF := ife c25 hF
                  refine q_iinc C 9 [(6, .int (x6 + 1)), (9, .int q21.1), (8, .int q8.1), (7, .int (pTb1.getD x6.toNatClampNeg 0)), (0, .ref (ad (a0))), (1, .int x1), (2, .int x2), (3, .int x3), (4, .int x4), (5, .int x5)] dX7_ended_138 rfl rfl (by decide) rfl ?_
                  refine q_goto (tgt := 22) C dX7_ended_141 (by decide) ?_
                  refine q_sub [4, 5, 6, 7, 8, 9, 0] rfl ?_
                  exact ih _ _ _ _ _ _ _ hF
                · replace hF := ift c25 hF
                  refine q_iload C 0 dX7_ended_127 rfl ?_
                  refine q_iload C 8 dX7_ended_129 rfl ?_
                  refine q_icmp_le (tgt := 138) C dX7_ended_131 (by decide) (fun c26 => ?_) (fun c26 => ?_)
                  · replace hF := ift c26 hF
                    refine q_iinc C 9 [(6, .int (x6 + 1)), (9, .int q21.1), (8, .int q8.1), (7, .int (pTb1.getD x6.toNatClampNeg 0)), (0, .ref (ad (a0))), (1, .int x1), (2, .int x2), (3, .int x3), (4, .int x4), (5, .int x5)] dX7_ended_138 rfl rfl (by decide) rfl ?_
                    refine q_goto (tgt := 22) C dX7_ended_141 (by decide) ?_
                    refine q_sub [4, 5, 6, 7, 8, 9, 0] rfl ?_
                    exact ih _ _ _ _ _ _ _ hF
                  · replace hF := ife c26 hF
                    refine q_iload C 0 dX7_ended_134 rfl ?_
                    refine q_istore C [(5, .int q21.1), (9, .int q21.1), (8, .int q8.1), (7, .int (pTb1.getD x6.toNatClampNeg 0)), (0, .ref (ad (a0))), (1, .int x1), (2, .int x2), (3, .int x3), (4, .int x4), (6, .int x6)] dX7_ended_136 (by decide) rfl ?_
                    refine q_iinc C 9 [(6, .int (x6 + 1)), (5, .int q21.1), (9, .int q21.1), (8, .int q8.1), (7, .int (pTb1.getD x6.toNatClampNeg 0)), (0, .ref (ad (a0))), (1, .int x1), (2, .int x2), (3, .int x3), (4, .int x4)] dX7_ended_138 rfl rfl (by decide) rfl ?_
                    refine q_goto (tgt := 22) C dX7_ended_141 (by decide) ?_
                    refine q_sub [5, 6, 7, 8, 9, 1, 0] rfl ?_
                    exact ih _ _ _ _ _ _ _ hF
              · replace hF := ife c24 hF
                refine q_iload C 0 dX7_ended_115 rfl ?_
                refine q_iload C 8 dX7_ended_117 rfl ?_
                refine q_icmp_lt (tgt := 134) C dX7_ended_119 (by decide) (fun c27 => ?_) (fun c27 => ?_)
                · replace hF := ift c27 hF
                  refine q_iload C 0 dX7_ended_134 rfl ?_
                  refine q_istore C [(5, .int q21.1), (9, .int q21.1), (8, .int q8.1), (7, .int (pTb1.getD x6.toNatClampNeg 0)), (0, .ref (ad (a0))), (1, .int x1), (2, .int x2), (3, .int x3), (4, .int x4), (6, .int x6)] dX7_ended_136 (by decide) rfl ?_
                  refine q_iinc C 9 [(6, .int (x6 + 1)), (5, .int q21.1), (9, .int q21.1), (8, .int q8.1), (7, .int (pTb1.getD x6.toNatClampNeg 0)), (0, .ref (ad (a0))), (1, .int x1), (2, .int x2), (3, .int x3), (4, .int x4)] dX7_ended_138 rfl rfl (by decide) rfl ?_
                  refine q_goto (tgt := 22) C dX7_ended_141 (by decide) ?_
                  refine q_sub [5, 6, 7, 8, 9, 1, 0] rfl ?_
                  exact ih _ _ _ _ _ _ _ hF
                · replace hF := ife c27 hF
                  refine q_iload C 7 dX7_ended_122 rfl ?_
                  refine q_if_ne (tgt := 138) C dX7_ended_124 (by decide) (fun c28 => ?_) (fun c28 => ?_)
                  · replace hF := ife c28 hF
                    refine q_iinc C 9 [(6, .int (x6 + 1)), (9, .int q21.1), (8, .int q8.1), (7, .int (pTb1.getD x6.toNatClampNeg 0)), (0, .ref (ad (a0))), (1, .int x1), (2, .int x2), (3, .int x3), (4, .int x4), (5, .int x5)] dX7_ended_138 rfl rfl (by decide) rfl ?_
                    refine q_goto (tgt := 22) C dX7_ended_141 (by decide) ?_
                    refine q_sub [4, 5, 6, 7, 8, 9, 0] rfl ?_
                    exact ih _ _ _ _ _ _ _ hF
                  · replace hF := ift c28 hF
                    refine q_iload C 0 dX7_ended_127 rfl ?_
                    refine q_iload C 8 dX7_ended_129 rfl ?_
                    refine q_icmp_le (tgt := 138) C dX7_ended_131 (by decide) (fun c29 => ?_) (fun c29 => ?_)
                    · replace hF := ift c29 hF
                      refine q_iinc C 9 [(6, .int (x6 + 1)), (9, .int q21.1), (8, .int q8.1), (7, .int (pTb1.getD x6.toNatClampNeg 0)), (0, .ref (ad (a0))), (1, .int x1), (2, .int x2), (3, .int x3), (4, .int x4), (5, .int x5)] dX7_ended_138 rfl rfl (by decide) rfl ?_
                      refine q_goto (tgt := 22) C dX7_ended_141 (by decide) ?_
                      refine q_sub [4, 5, 6, 7, 8, 9, 0] rfl ?_
                      exact ih _ _ _ _ _ _ _ hF
                    · replace hF := ife c29 hF
                      refine q_iload C 0 dX7_ended_134 rfl ?_
                      refine q_istore C [(5, .int q21.1), (9, .int q21.1), (8, .int q8.1), (7, .int (pTb1.getD x6.toNatClampNeg 0)), (0, .ref (ad (a0))), (1, .int x1), (2, .int x2), (3, .int x3), (4, .int x4), (6, .int x6)] dX7_ended_136 (by decide) rfl ?_
                      refine q_iinc C 9 [(6, .int (x6 + 1)), (5, .int q21.1), (9, .int q21.1), (8, .int q8.1), (7, .int (pTb1.getD x6.toNatClampNeg 0)), (0, .ref (ad (a0))), (1, .int x1), (2, .int x2), (3, .int x3), (4, .int x4)] dX7_ended_138 rfl rfl (by decide) rfl ?_
                      refine q_goto (tgt := 22) C dX7_ended_141 (by decide) ?_
                      refine q_sub [5, 6, 7, 8, 9, 1, 0] rfl ?_
                      exact ih _ _ _ _ _ _ _ hF
        · replace hF := ift c10 hF
          refine q_goto (tgt := 138) C dX7_ended_69 (by decide) ?_
          refine q_iinc C 8 [(6, .int (x6 + 1)), (8, .int q8.1), (7, .int (pTb1.getD x6.toNatClampNeg 0)), (0, .ref (ad (a0))), (1, .int x1), (2, .int x2), (3, .int x3), (4, .int x4), (5, .int x5)] dX7_ended_138 rfl rfl (by decide) rfl ?_
          refine q_goto (tgt := 22) C dX7_ended_141 (by decide) ?_
          refine q_sub [3, 4, 5, 6, 7, 8, 0] rfl ?_
          exact ih _ _ _ _ _ _ _ hF
      · replace hF := ife c7 hF
        refine q_aload_n C 1 dX7_ended_44 rfl rfl ?_
        refine q_iload_n C 2 dX7_ended_45 rfl rfl ?_
        refine q_iload C 0 dX7_ended_46 rfl ?_
        obtain ⟨q30, h31, hF⟩ := bnd hF
        try dsimp only at hF
        refine q_callVi C [.int x1, .int (pTb1.getD x6.toNatClampNeg 0)] (c_X10_passable l D ad ca kz C.2.2.2.2.2.2.1 _ ha0 _ _ _ _ h31) tw_968 gm_X10_passable ha0.1 (pe_9 ha0.2) rfl ⟨rfl, rfl⟩ ⟨Nat.le_trans (Nat.le_of_ble_eq_true rfl) hR.1, Nat.le_trans (Nat.le_of_ble_eq_true rfl) hR.2⟩ rfl (Nat.le_of_ble_eq_true rfl) dX7_ended_48 q00 ?_
        refine q_goto (tgt := 61) C dX7_ended_51 (by decide) ?_
        refine q_istore C [(8, .int q30.1), (7, .int (pTb1.getD x6.toNatClampNeg 0)), (0, .ref (ad (a0))), (1, .int x1), (2, .int x2), (3, .int x3), (4, .int x4), (5, .int x5), (6, .int x6)] dX7_ended_61 (by decide) rfl ?_
        refine q_iload C 0 dX7_ended_63 rfl ?_
        refine q_iconst (v := -1) C dX7_ended_65 (by decide) ?_
        refine q_icmp_ne (tgt := 72) C dX7_ended_66 (by decide) (fun c32 => ?_) (fun c32 => ?_)
        · replace hF := ife c32 hF
          refine q_iload C 6 dX7_ended_72 rfl ?_
          refine q_if_eq (tgt := 91) C dX7_ended_74 (by decide) (fun c33 => ?_) (fun c33 => ?_)
          · replace hF := ift c33 hF
            refine q_aload_n C 2 dX7_ended_91 rfl rfl ?_
            refine q_iload_n C 3 dX7_ended_92 rfl rfl ?_
            refine q_iload C 0 dX7_ended_93 rfl ?_
            refine q_iload_n C 5 dX7_ended_95 rfl rfl ?_
            refine q_iconst (v := 1) C dX7_ended_96 (by decide) ?_
            refine q_isub C dX7_ended_97 ?_
            refine q_iconst (v := 1) C dX7_ended_98 (by decide) ?_
            obtain ⟨q34, h35, hF⟩ := bnd hF
            try dsimp only at hF
            refine q_callSi C [.ref (ad (a0)), .int x1, .int q30.1, .int (x3 - (1 : Int32)), .int 1] (hrc _ _ _ _ _ _ h35) tw_969 gm_X7_ended ⟨rfl, rfl⟩ hRr rfl (Nat.le_of_ble_eq_true rfl) dX7_ended_99 q00 ?_
            refine q_istore C [(9, .int q34.1), (8, .int q30.1), (7, .int (pTb1.getD x6.toNatClampNeg 0)), (0, .ref (ad (a0))), (1, .int x1), (2, .int x2), (3, .int x3), (4, .int x4), (5, .int x5), (6, .int x6)] dX7_ended_102 (by decide) rfl ?_
            refine q_iload C 8 dX7_ended_104 rfl ?_
            refine q_iconst (v := -1) C dX7_ended_106 (by decide) ?_
            refine q_icmp_eq (tgt := 134) C dX7_ended_107 (by decide) (fun c36 => ?_) (fun c36 => ?_)
            · replace hF := ift c36 hF
              refine q_iload C 0 dX7_ended_134 rfl ?_
              refine q_istore C [(5, .int q34.1), (9, .int q34.1), (8, .int q30.1), (7, .int (pTb1.getD x6.toNatClampNeg 0)), (0, .ref (ad (a0))), (1, .int x1), (2, .int x2), (3, .int x3), (4, .int x4), (6, .int x6)] dX7_ended_136 (by decide) rfl ?_
              refine q_iinc C 9 [(6, .int (x6 + 1)), (5, .int q34.1), (9, .int q34.1), (8, .int q30.1), (7, .int (pTb1.getD x6.toNatClampNeg 0)), (0, .ref (ad (a0))), (1, .int x1), (2, .int x2), (3, .int x3), (4, .int x4)] dX7_ended_138 rfl rfl (by decide) rfl ?_
              refine q_goto (tgt := 22) C dX7_ended_141 (by decide) ?_
              refine q_sub [5, 6, 7, 8, 9, 1, 0] rfl ?_
              exact ih _ _ _ _ _ _ _ hF
            · replace hF := ife c36 hF
              refine q_iload C 7 dX7_ended_110 rfl ?_
              refine q_if_eq (tgt := 122) C dX7_ended_112 (by decide) (fun c37 => ?_) (fun c37 => ?_)
              · replace hF := ift c37 hF
                refine q_iload C 7 dX7_ended_122 rfl ?_
                refine q_if_ne (tgt := 138) C dX7_ended_124 (by decide) (fun c38 => ?_) (fun c38 => ?_)
                · replace hF := ife c38 hF
                  refine q_iinc C 9 [(6, .int (x6 + 1)), (9, .int q34.1), (8, .int q30.1), (7, .int (pTb1.getD x6.toNatClampNeg 0)), (0, .ref (ad (a0))), (1, .int x1), (2, .int x2), (3, .int x3), (4, .int x4), (5, .int x5)] dX7_ended_138 rfl rfl (by decide) rfl ?_
                  refine q_goto (tgt := 22) C dX7_ended_141 (by decide) ?_
                  refine q_sub [4, 5, 6, 7, 8, 9, 0] rfl ?_
                  exact ih _ _ _ _ _ _ _ hF
                · replace hF := ift c38 hF
                  refine q_iload C 0 dX7_ended_127 rfl ?_
                  refine q_iload C 8 dX7_ended_129 rfl ?_
                  refine q_icmp_le (tgt := 138) C dX7_ended_131 (by decide) (fun c39 => ?_) (fun c39 => ?_)
                  · replace hF := ift c39 hF
                    refine q_iinc C 9 [(6, .int (x6 + 1)), (9, .int q34.1), (8, .int q30.1), (7, .int (pTb1.getD x6.toNatClampNeg 0)), (0, .ref (ad (a0))), (1, .int x1), (2, .int x2), (3, .int x3), (4, .int x4), (5, .int x5)] dX7_ended_138 rfl rfl (by decide) rfl ?_
                    refine q_goto (tgt := 22) C dX7_ended_141 (by decide) ?_
                    refine q_sub [4, 5, 6, 7, 8, 9, 0] rfl ?_
                    exact ih _ _ _ _ _ _ _ hF
                  · replace hF := ife c39 hF
                    refine q_iload C 0 dX7_ended_134 rfl ?_
                    refine q_istore C [(5, .int q34.1), (9, .int q34.1), (8, .int q30.1), (7, .int (pTb1.getD x6.toNatClampNeg 0)), (0, .ref (ad (a0))), (1, .int x1), (2, .int x2), (3, .int x3), (4, .int x4), (6, .int x6)] dX7_ended_136 (by decide) rfl ?_
                    refine q_iinc C 9 [(6, .int (x6 + 1)), (5, .int q34.1), (9, .int q34.1), (8, .int q30.1), (7, .int (pTb1.getD x6.toNatClampNeg 0)), (0, .ref (ad (a0))), (1, .int x1), (2, .int x2), (3, .int x3), (4, .int x4)] dX7_ended_138 rfl rfl (by decide) rfl ?_
                    refine q_goto (tgt := 22) C dX7_ended_141 (by decide) ?_
                    refine q_sub [5, 6, 7, 8, 9, 1, 0] rfl ?_
                    exact ih _ _ _ _ _ _ _ hF
              · replace hF := ife c37 hF
                refine q_iload C 0 dX7_ended_115 rfl ?_
                refine q_iload C 8 dX7_ended_117 rfl ?_
                refine q_icmp_lt (tgt := 134) C dX7_ended_119 (by decide) (fun c40 => ?_) (fun c40 => ?_)
                · replace hF := ift c40 hF
                  refine q_iload C 0 dX7_ended_134 rfl ?_
                  refine q_istore C [(5, .int q34.1), (9, .int q34.1), (8, .int q30.1), (7, .int (pTb1.getD x6.toNatClampNeg 0)), (0, .ref (ad (a0))), (1, .int x1), (2, .int x2), (3, .int x3), (4, .int x4), (6, .int x6)] dX7_ended_136 (by decide) rfl ?_
                  refine q_iinc C 9 [(6, .int (x6 + 1)), (5, .int q34.1), (9, .int q34.1), (8, .int q30.1), (7, .int (pTb1.getD x6.toNatClampNeg 0)), (0, .ref (ad (a0))), (1, .int x1), (2, .int x2), (3, .int x3), (4, .int x4)] dX7_ended_138 rfl rfl (by decide) rfl ?_
                  refine q_goto (tgt := 22) C dX7_ended_141 (by decide) ?_
                  refine q_sub [5, 6, 7, 8, 9, 1, 0] rfl ?_
                  exact ih _ _ _ _ _ _ _ hF
                · replace hF := ife c40 hF
                  refine q_iload C 7 dX7_ended_122 rfl ?_
                  refine q_if_ne (tgt := 138) C dX7_ended_124 (by decide) (fun c41 => ?_) (fun c41 => ?_)
                  · replace hF := ife c41 hF
                    refine q_iinc C 9 [(6, .int (x6 + 1)), (9, .int q34.1), (8, .int q30.1), (7, .int (pTb1.getD x6.toNatClampNeg 0)), (0, .ref (ad (a0))), (1, .int x1), (2, .int x2), (3, .int x3), (4, .int x4), (5, .int x5)] dX7_ended_138 rfl rfl (by decide) rfl ?_
                    refine q_goto (tgt := 22) C dX7_ended_141 (by decide) ?_
                    refine q_sub [4, 5, 6, 7, 8, 9, 0] rfl ?_
                    exact ih _ _ _ _ _ _ _ hF
                  · replace hF := ift c41 hF
                    refine q_iload C 0 dX7_ended_127 rfl ?_
                    refine q_iload C 8 dX7_ended_129 rfl ?_
                    refine q_icmp_le (tgt := 138) C dX7_ended_131 (by decide) (fun c42 => ?_) (fun c42 => ?_)
                    · replace hF := ift c42 hF
                      refine q_iinc C 9 [(6, .int (x6 + 1)), (9, .int q34.1), (8, .int q30.1), (7, .int (pTb1.getD x6.toNatClampNeg 0)), (0, .ref (ad (a0))), (1, .int x1), (2, .int x2), (3, .int x3), (4, .int x4), (5, .int x5)] dX7_ended_138 rfl rfl (by decide) rfl ?_
                      refine q_goto (tgt := 22) C dX7_ended_141 (by decide) ?_
                      refine q_sub [4, 5, 6, 7, 8, 9, 0] rfl ?_
                      exact ih _ _ _ _ _ _ _ hF
                    · replace hF := ife c42 hF
                      refine q_iload C 0 dX7_ended_134 rfl ?_
                      refine q_istore C [(5, .int q34.1), (9, .int q34.1), (8, .int q30.1), (7, .int (pTb1.getD x6.toNatClampNeg 0)), (0, .ref (ad (a0))), (1, .int x1), (2, .int x2), (3, .int x3), (4, .int x4), (6, .int x6)] dX7_ended_136 (by decide) rfl ?_
                      refine q_iinc C 9 [(6, .int (x6 + 1)), (5, .int q34.1), (9, .int q34.1), (8, .int q30.1), (7, .int (pTb1.getD x6.toNatClampNeg 0)), (0, .ref (ad (a0))), (1, .int x1), (2, .int x2), (3, .int x3), (4, .int x4)] dX7_ended_138 rfl rfl (by decide) rfl ?_
                      refine q_goto (tgt := 22) C dX7_ended_141 (by decide) ?_
                      refine q_sub [5, 6, 7, 8, 9, 1, 0] rfl ?_
                      exact ih _ _ _ _ _ _ _ hF
          · replace hF := ife c33 hF
            refine q_aload_n C 2 dX7_ended_77 rfl rfl ?_
            refine q_iload C 0 dX7_ended_78 rfl ?_
            refine q_iload_n C 4 dX7_ended_80 rfl rfl ?_
            refine q_iload_n C 5 dX7_ended_81 rfl rfl ?_
            refine q_iconst (v := 1) C dX7_ended_82 (by decide) ?_
            refine q_isub C dX7_ended_83 ?_
            refine q_iconst (v := 0) C dX7_ended_84 (by decide) ?_
            obtain ⟨q43, h44, hF⟩ := bnd hF
            try dsimp only at hF
            refine q_callSi C [.ref (ad (a0)), .int q30.1, .int x2, .int (x3 - (1 : Int32)), .int 0] (hrc _ _ _ _ _ _ h44) tw_969 gm_X7_ended ⟨rfl, rfl⟩ hRr rfl (Nat.le_of_ble_eq_true rfl) dX7_ended_85 q00 ?_
            refine q_goto (tgt := 102) C dX7_ended_88 (by decide) ?_
            refine q_istore C [(9, .int q43.1), (8, .int q30.1), (7, .int (pTb1.getD x6.toNatClampNeg 0)), (0, .ref (ad (a0))), (1, .int x1), (2, .int x2), (3, .int x3), (4, .int x4), (5, .int x5), (6, .int x6)] dX7_ended_102 (by decide) rfl ?_
            refine q_iload C 8 dX7_ended_104 rfl ?_
            refine q_iconst (v := -1) C dX7_ended_106 (by decide) ?_
            refine q_icmp_eq (tgt := 134) C dX7_ended_107 (by decide) (fun c45 => ?_) (fun c45 => ?_)
            · replace hF := ift c45 hF
              refine q_iload C 0 dX7_ended_134 rfl ?_
              refine q_istore C [(5, .int q43.1), (9, .int q43.1), (8, .int q30.1), (7, .int (pTb1.getD x6.toNatClampNeg 0)), (0, .ref (ad (a0))), (1, .int x1), (2, .int x2), (3, .int x3), (4, .int x4), (6, .int x6)] dX7_ended_136 (by decide) rfl ?_
              refine q_iinc C 9 [(6, .int (x6 + 1)), (5, .int q43.1), (9, .int q43.1), (8, .int q30.1), (7, .int (pTb1.getD x6.toNatClampNeg 0)), (0, .ref (ad (a0))), (1, .int x1), (2, .int x2), (3, .int x3), (4, .int x4)] dX7_ended_138 rfl rfl (by decide) rfl ?_
              refine q_goto (tgt := 22) C dX7_ended_141 (by decide) ?_
              refine q_sub [5, 6, 7, 8, 9, 1, 0] rfl ?_
              exact ih _ _ _ _ _ _ _ hF
            · replace hF := ife c45 hF
              refine q_iload C 7 dX7_ended_110 rfl ?_
              refine q_if_eq (tgt := 122) C dX7_ended_112 (by decide) (fun c46 => ?_) (fun c46 => ?_)
              · replace hF := ift c46 hF
                refine q_iload C 7 dX7_ended_122 rfl ?_
                refine q_if_ne (tgt := 138) C dX7_ended_124 (by decide) (fun c47 => ?_) (fun c47 => ?_)
                · replace hF := ife c47 hF
                  refine q_iinc C 9 [(6, .int (x6 + 1)), (9, .int q43.1), (8, .int q30.1), (7, .int (pTb1.getD x6.toNatClampNeg 0)), (0, .ref (ad (a0))), (1, .int x1), (2, .int x2), (3, .int x3), (4, .int x4), (5, .int x5)] dX7_ended_138 rfl rfl (by decide) rfl ?_
                  refine q_goto (tgt := 22) C dX7_ended_141 (by decide) ?_
                  refine q_sub [4, 5, 6, 7, 8, 9, 0] rfl ?_
                  exact ih _ _ _ _ _ _ _ hF
                · replace hF := ift c47 hF
                  refine q_iload C 0 dX7_ended_127 rfl ?_
                  refine q_iload C 8 dX7_ended_129 rfl ?_
                  refine q_icmp_le (tgt := 138) C dX7_ended_131 (by decide) (fun c48 => ?_) (fun c48 => ?_)
                  · replace hF := ift c48 hF
                    refine q_iinc C 9 [(6, .int (x6 + 1)), (9, .int q43.1), (8, .int q30.1), (7, .int (pTb1.getD x6.toNatClampNeg 0)), (0, .ref (ad (a0))), (1, .int x1), (2, .int x2), (3, .int x3), (4, .int x4), (5, .int x5)] dX7_ended_138 rfl rfl (by decide) rfl ?_
                    refine q_goto (tgt := 22) C dX7_ended_141 (by decide) ?_
                    refine q_sub [4, 5, 6, 7, 8, 9, 0] rfl ?_
                    exact ih _ _ _ _ _ _ _ hF
                  · replace hF := ife c48 hF
                    refine q_iload C 0 dX7_ended_134 rfl ?_
                    refine q_istore C [(5, .int q43.1), (9, .int q43.1), (8, .int q30.1), (7, .int (pTb1.getD x6.toNatClampNeg 0)), (0, .ref (ad (a0))), (1, .int x1), (2, .int x2), (3, .int x3), (4, .int x4), (6, .int x6)] dX7_ended_136 (by decide) rfl ?_
                    refine q_iinc C 9 [(6, .int (x6 + 1)), (5, .int q43.1), (9, .int q43.1), (8, .int q30.1), (7, .int (pTb1.getD x6.toNatClampNeg 0)), (0, .ref (ad (a0))), (1, .int x1), (2, .int x2), (3, .int x3), (4, .int x4)] dX7_ended_138 rfl rfl (by decide) rfl ?_
                    refine q_goto (tgt := 22) C dX7_ended_141 (by decide) ?_
                    refine q_sub [5, 6, 7, 8, 9, 1, 0] rfl ?_
                    exact ih _ _ _ _ _ _ _ hF
              · replace hF := ife c46 hF
                refine q_iload C 0 dX7_ended_115 rfl ?_
                refine q_iload C 8 dX7_ended_117 rfl ?_
                refine q_icmp_lt (tgt := 134) C dX7_ended_119 (by decide) (fun c49 => ?_) (fun c49 => ?_)
                · replace hF := ift c49 hF
                  refine q_iload C 0 dX7_ended_134 rfl ?_
                  refine q_istore C [(5, .int q43.1), (9, .int q43.1), (8, .int q30.1), (7, .int (pTb1.getD x6.toNatClampNeg 0)), (0, .ref (ad (a0))), (1, .int x1), (2, .int x2), (3, .int x3), (4, .int x4), (6, .int x6)] dX7_ended_136 (by decide) rfl ?_
                  refine q_iinc C 9 [(6, .int (x6 + 1)), (5, .int q43.1), (9, .int q43.1), (8, .int q30.1), (7, .int (pTb1.getD x6.toNatClampNeg 0)), (0, .ref (ad (a0))), (1, .int x1), (2, .int x2), (3, .int x3), (4, .int x4)] dX7_ended_138 rfl rfl (by decide) rfl ?_
                  refine q_goto (tgt := 22) C dX7_ended_141 (by decide) ?_
                  refine q_sub [5, 6, 7, 8, 9, 1, 0] rfl ?_
                  exact ih _ _ _ _ _ _ _ hF
                · replace hF := ife c49 hF
                  refine q_iload C 7 dX7_ended_122 rfl ?_
                  refine q_if_ne (tgt := 138) C dX7_ended_124 (by decide) (fun c50 => ?_) (fun c50 => ?_)
                  · replace hF := ife c50 hF
                    refine q_iinc C 9 [(6, .int (x6 + 1)), (9, .int q43.1), (8, .int q30.1), (7, .int (pTb1.getD x6.toNatClampNeg 0)), (0, .ref (ad (a0))), (1, .int x1), (2, .int x2), (3, .int x3), (4, .int x4), (5, .int x5)] dX7_ended_138 rfl rfl (by decide) rfl ?_
                    refine q_goto (tgt := 22) C dX7_ended_141 (by decide) ?_
                    refine q_sub [4, 5, 6, 7, 8, 9, 0] rfl ?_
                    exact ih _ _ _ _ _ _ _ hF
                  · replace hF := ift c50 hF
                    refine q_iload C 0 dX7_ended_127 rfl ?_
                    refine q_iload C 8 dX7_ended_129 rfl ?_
                    refine q_icmp_le (tgt := 138) C dX7_ended_131 (by decide) (fun c51 => ?_) (fun c51 => ?_)
                    · replace hF := ift c51 hF
                      refine q_iinc C 9 [(6, .int (x6 + 1)), (9, .int q43.1), (8, .int q30.1), (7, .int (pTb1.getD x6.toNatClampNeg 0)), (0, .ref (ad (a0))), (1, .int x1), (2, .int x2), (3, .int x3), (4, .int x4), (5, .int x5)] dX7_ended_138 rfl rfl (by decide) rfl ?_
                      refine q_goto (tgt := 22) C dX7_ended_141 (by decide) ?_
                      refine q_sub [4, 5, 6, 7, 8, 9, 0] rfl ?_
                      exact ih _ _ _ _ _ _ _ hF
                    · replace hF := ife c51 hF
                      refine q_iload C 0 dX7_ended_134 rfl ?_
                      refine q_istore C [(5, .int q43.1), (9, .int q43.1), (8, .int q30.1), (7, .int (pTb1.getD x6.toNatClampNeg 0)), (0, .ref (ad (a0))), (1, .int x1), (2, .int x2), (3, .int x3), (4, .int x4), (6, .int x6)] dX7_ended_136 (by decide) rfl ?_
                      refine q_iinc C 9 [(6, .int (x6 + 1)), (5, .int q43.1), (9, .int q43.1), (8, .int q30.1), (7, .int (pTb1.getD x6.toNatClampNeg 0)), (0, .ref (ad (a0))), (1, .int x1), (2, .int x2), (3, .int x3), (4, .int x4)] dX7_ended_138 rfl rfl (by decide) rfl ?_
                      refine q_goto (tgt := 22) C dX7_ended_141 (by decide) ?_
                      refine q_sub [5, 6, 7, 8, 9, 1, 0] rfl ?_
                      exact ih _ _ _ _ _ _ _ hF
        · replace hF := ift c32 hF
          refine q_goto (tgt := 138) C dX7_ended_69 (by decide) ?_
          refine q_iinc C 8 [(6, .int (x6 + 1)), (8, .int q30.1), (7, .int (pTb1.getD x6.toNatClampNeg 0)), (0, .ref (ad (a0))), (1, .int x1), (2, .int x2), (3, .int x3), (4, .int x4), (5, .int x5)] dX7_ended_138 rfl rfl (by decide) rfl ?_
          refine q_goto (tgt := 22) C dX7_ended_141 (by decide) ?_
          refine q_sub [3, 4, 5, 6, 7, 8, 0] rfl ?_
          exact ih _ _ _ _ _ _ _ hF
set_option maxHeartbeats 4000000 in
set_option maxRecDepth 100000 in
theorem c_X7_ended_d (l : Launch) (D : va_G) (ad : Nat → Nat) (ca : Nat → ClassId) (kz : Nat → Nat) (hJ : pInj ad) (n : Nat) {a0 : Nat} (ha0 : pis a0 9) : ∀ (d : Nat) (a1 : Int32) (a2 : Int32) (a3 : Int32) (a4 : Int32) (σ : PS) (out : Int32 × PS) (_ : F_X7_ended n a0 d a1 a2 a3 a4 σ = some out), Met l yX7_ended (Cond.code yX7_ended cX7_ended 10 (Option.some Jvm.ClassFile.FieldType.int) :: gw_tbl) { frames := 2 + d, cells := 0, slots := 0, locals := 46 + 29 * d } (va_Pc [.ref (ad (a0)), .int a1, .int a2, .int a3, .int a4] (pU D ad ca kz σ)) (pQi D ad ca out) 0 0 (pAD ad) := by
  intro d
  induction d with
  | zero => intro a1 a2 a3 a4 σ out hF; exact nomatch (show (none : Option (Int32 × PS)) = some out from hF)
  | succ d hrc =>
    intro a1 a2 a3 a4 σ out hF
    refine q_entry (own := "AskedCamp$Siege") hJ (by decide) rfl (Nat.le_of_ble_eq_true rfl) (fun p e s m below meth c C hr hlk => ?_)
    refine q_lv [(0, .ref (ad (a0))), (1, .int a1), (2, .int a2), (3, .int a3), (4, .int a4)] rfl ?_
    rw [F_X7_ended] at hF
    have hR : 2 ≤ 2 + (d + 1) ∧ 46 ≤ 46 + 29 * (d + 1) := ⟨Nat.le_add_right _ _, Nat.le_add_right _ _⟩
    have hRr : (2 + d) + 1 ≤ 2 + (d + 1) ∧ 8 + (10 + 11) + (46 + 29 * d) ≤ 46 + 29 * (d + 1) := ⟨by omega, by omega⟩
    refine q_iload_n C 3 dX7_ended_0 rfl rfl ?_
    refine q_if_le (tgt := 9) C dX7_ended_1 (by decide) (fun c1 => ?_) (fun c1 => ?_)
    · replace hF := ift c1 hF
      refine q_aload_n C 0 dX7_ended_9 rfl rfl ?_
      refine q_iload_n C 1 dX7_ended_10 rfl rfl ?_
      refine q_iload_n C 2 dX7_ended_11 rfl rfl ?_
      obtain ⟨q2, h3, hF⟩ := bnd hF
      try dsimp only at hF
      refine q_callVi C [.int a1, .int a2] (c_X10_gapBetween l D ad ca kz C.2.2.2.2.2.2.1 _ ha0 _ _ _ _ h3) tw_972 gm_X10_gapBetween ha0.1 (pe_9 ha0.2) rfl ⟨rfl, rfl⟩ ⟨Nat.le_trans (Nat.le_of_ble_eq_true rfl) hR.1, Nat.le_trans (Nat.le_of_ble_eq_true rfl) hR.2⟩ rfl (Nat.le_of_ble_eq_true rfl) dX7_ended_12 q00 ?_
      exact q_iret C hr hlk dX7_ended_15 hF
    · replace hF := ife c1 hF
      refine q_iload_n C 3 dX7_ended_4 rfl rfl ?_
      refine q_iconst (v := 4) C dX7_ended_5 (by decide) ?_
      refine q_icmp_le (tgt := 16) C dX7_ended_6 (by decide) (fun c4 => ?_) (fun c4 => ?_)
      · replace hF := ift c4 hF
        refine q_iconst (v := -1) C dX7_ended_16 (by decide) ?_
        refine q_istore C [(5, .int (-1)), (0, .ref (ad (a0))), (1, .int a1), (2, .int a2), (3, .int a3), (4, .int a4)] dX7_ended_17 (by decide) rfl ?_
        refine q_iconst (v := 0) C dX7_ended_19 (by decide) ?_
        refine q_istore C [(6, .int 0), (5, .int (-1)), (0, .ref (ad (a0))), (1, .int a1), (2, .int a2), (3, .int a3), (4, .int a4)] dX7_ended_20 (by decide) rfl ?_
        obtain ⟨o52, h53, hF⟩ := bnd hF
        try dsimp only at hF
        refine q_sub [2, 3, 4, 5, 6, 1, 0] rfl ?_
        refine l_X7_ended_22 C ⟨hR.1, hR.2⟩ ha0 hrc hRr o52 ?_ n _ _ _ _ _ _ _ h53
        refine q_iload C 0 dX7_ended_144 rfl ?_
        exact q_iret C hr hlk dX7_ended_146 hF
      · replace hF := ife c4 hF
        refine q_aload_n C 0 dX7_ended_9 rfl rfl ?_
        refine q_iload_n C 1 dX7_ended_10 rfl rfl ?_
        refine q_iload_n C 2 dX7_ended_11 rfl rfl ?_
        obtain ⟨q54, h55, hF⟩ := bnd hF
        try dsimp only at hF
        refine q_callVi C [.int a1, .int a2] (c_X10_gapBetween l D ad ca kz C.2.2.2.2.2.2.1 _ ha0 _ _ _ _ h55) tw_972 gm_X10_gapBetween ha0.1 (pe_9 ha0.2) rfl ⟨rfl, rfl⟩ ⟨Nat.le_trans (Nat.le_of_ble_eq_true rfl) hR.1, Nat.le_trans (Nat.le_of_ble_eq_true rfl) hR.2⟩ rfl (Nat.le_of_ble_eq_true rfl) dX7_ended_12 q00 ?_
        exact q_iret C hr hlk dX7_ended_15 hF
theorem c_X7_ended (l : Launch) (D : va_G) (ad : Nat → Nat) (ca : Nat → ClassId) (kz : Nat → Nat) (hJ : pInj ad) (n : Nat) {a0 : Nat} (ha0 : pis a0 9) (a1 : Int32) (a2 : Int32) (a3 : Int32) (a4 : Int32) (σ : PS) (out : Int32 × PS) (hF : F_X7_ended n a0 6 a1 a2 a3 a4 σ = some out) : Met l yX7_ended (Cond.code yX7_ended cX7_ended 10 (Option.some Jvm.ClassFile.FieldType.int) :: gw_tbl) { frames := 8, cells := 0, slots := 0, locals := 220 } (va_Pc [.ref (ad (a0)), .int a1, .int a2, .int a3, .int a4] (pU D ad ca kz σ)) (pQi D ad ca out) 0 0 (pAD ad) := c_X7_ended_d l D ad ca kz hJ n ha0 6 a1 a2 a3 a4 σ out hF
