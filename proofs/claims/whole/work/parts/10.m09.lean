-- X12_begins
def L_X12_begins_32 (n : Nat) : Nat → Int32 → PS → Option (PS)
  | 0, _, _ => none
  | k + 1, x1, σ => (if (6 : Int32) ≤ x1 then some σ else (if 0 ≤ ((110 : Int32) + x1) ∧ ((110 : Int32) + x1).toNatClampNeg < 179 then (if 0 ≤ ((13 : Int32) + ((4 : Int32) * x1)) ∧ ((13 : Int32) + ((4 : Int32) * x1)).toNatClampNeg < 179 then (if 0 ≤ ((116 : Int32) + x1) ∧ ((116 : Int32) + x1).toNatClampNeg < 179 then (if 0 ≤ (((13 : Int32) + ((4 : Int32) * x1)) + (1 : Int32)) ∧ (((13 : Int32) + ((4 : Int32) * x1)) + (1 : Int32)).toNatClampNeg < 179 then (if 0 ≤ (((13 : Int32) + ((4 : Int32) * x1)) + (2 : Int32)) ∧ (((13 : Int32) + ((4 : Int32) * x1)) + (2 : Int32)).toNatClampNeg < 179 then (if 0 ≤ (((13 : Int32) + ((4 : Int32) * x1)) + (3 : Int32)) ∧ (((13 : Int32) + ((4 : Int32) * x1)) + (3 : Int32)).toNatClampNeg < 179 then L_X12_begins_32 n k (x1 + 1) (psI (psI (psI (psI σ 259 (((13 : Int32) + ((4 : Int32) * x1)).toNatClampNeg) (σ.1 259 (((110 : Int32) + x1).toNatClampNeg))) 259 ((((13 : Int32) + ((4 : Int32) * x1)) + (1 : Int32)).toNatClampNeg) ((psI σ 259 (((13 : Int32) + ((4 : Int32) * x1)).toNatClampNeg) (σ.1 259 (((110 : Int32) + x1).toNatClampNeg))).1 259 (((116 : Int32) + x1).toNatClampNeg))) 259 ((((13 : Int32) + ((4 : Int32) * x1)) + (2 : Int32)).toNatClampNeg) (0 : Int32)) 259 ((((13 : Int32) + ((4 : Int32) * x1)) + (3 : Int32)).toNatClampNeg) ((1 : Int32) <<< (x1 &&& 31))) else none) else none) else none) else none) else none) else none))
def L_X12_begins_105 (n : Nat) : Nat → Int32 → PS → Option (PS)
  | 0, _, _ => none
  | k + 1, x1, σ => (if (36 : Int32) ≤ x1 then some σ else (if 0 ≤ ((122 : Int32) + x1) ∧ ((122 : Int32) + x1).toNatClampNeg < 179 then (if 0 ≤ ((37 : Int32) + x1) ∧ ((37 : Int32) + x1).toNatClampNeg < 179 then (if 0 ≤ ((73 : Int32) + x1) ∧ ((73 : Int32) + x1).toNatClampNeg < 179 then L_X12_begins_105 n k (x1 + 1) (psI (psI σ 259 (((37 : Int32) + x1).toNatClampNeg) (σ.1 259 (((122 : Int32) + x1).toNatClampNeg))) 259 (((73 : Int32) + x1).toNatClampNeg) (0 : Int32)) else none) else none) else none))
def F_X12_begins (n : Nat) (σ : PS) : Option (PS) := (L_X12_begins_32 n n (0 : Int32) (psI (psI (psI σ 259 10 (0 : Int32)) 259 11 ((psI σ 259 10 (0 : Int32)).1 259 109)) 259 12 (0 : Int32))).bind (fun o8 => (L_X12_begins_105 n n (0 : Int32) o8).bind (fun o14 => some o14))
theorem gm_X12_begins : gM "AskedCampModel" yX12_begins (Cond.code yX12_begins cX12_begins 3 (Option.none : Option Jvm.ClassFile.FieldType)) 0 := ⟨by decide +kernel, tw_1355, tw_p57, tw_12, tw_1356⟩
set_option maxHeartbeats 4000000 in
set_option maxRecDepth 100000 in
theorem l_X12_begins_32 {p : Program} {l : Launch} {e : Env} {R : Room} {s : State} {m : MethodId} {args : Array Value} {below : List Frame} {meth : Method} {c : Code} {D : va_G} {ad : Nat → Nat} {ca : Nat → ClassId} {kz : Nat → Nat} {Q : State → Prop} (C : pC p s m args c cX12_begins "AskedCampModel" 3 D ad ca kz) (hR : 0 ≤ R.frames ∧ 0 ≤ R.locals) {n : Nat} (o : PS) (hx0 : PW p l e R s m args below meth c 3 D ad ca 0 0 Q (o) 103 [(0, .ref (ad (249)))] []) : ∀ (k : Nat) (x1 : Int32) (σ : PS), L_X12_begins_32 n k x1 σ = some o → PW p l e R s m args below meth c 3 D ad ca 0 0 Q σ 32 [(0, .ref (ad (249))), (1, .int x1)] [] := by
  intro k
  induction k with
  | zero => intro x1 σ hF; exact nomatch (show (none : Option (PS)) = some o from hF)
  | succ k ih =>
    intro x1 σ hF
    rw [L_X12_begins_32] at hF
    refine q_iload_n C 1 dX12_begins_32 rfl rfl ?_
    refine q_bipush (v := 6) C dX12_begins_33 (by decide) ?_
    refine q_icmp_ge (tgt := 103) C dX12_begins_35 (by decide) (fun c1 => ?_) (fun c1 => ?_)
    · replace hF := ift c1 hF
      cases hF
      refine q_sub [0] rfl ?_
      exact hx0
    · replace hF := ife c1 hF
      refine q_bipush (v := 13) C dX12_begins_38 (by decide) ?_
      refine q_iconst (v := 4) C dX12_begins_40 (by decide) ?_
      refine q_iload_n C 1 dX12_begins_41 rfl rfl ?_
      refine q_imul C dX12_begins_42 ?_
      refine q_iadd C dX12_begins_43 ?_
      refine q_istore_n C [(2, .int ((13 : Int32) + ((4 : Int32) * x1))), (0, .ref (ad (249))), (1, .int x1)] dX12_begins_44 rfl (by decide) rfl ?_
      refine q_aload_n C 1 dX12_begins_45 rfl rfl ?_
      refine qg_11_20 C pi_249 tw_1073 dX12_begins_46 ?_
      refine q_iload_n C 0 dX12_begins_49 rfl rfl ?_
      refine q_aload_n C 1 dX12_begins_50 rfl rfl ?_
      refine qg_11_20 C pi_249 tw_1073 dX12_begins_51 ?_
      refine q_bipush (v := 110) C dX12_begins_54 (by decide) ?_
      refine q_iload_n C 2 dX12_begins_56 rfl rfl ?_
      refine q_iadd C dX12_begins_57 ?_
      obtain ⟨g2, hF⟩ := grd hF
      refine q_iald C pa_259 (vp_of g2) dX12_begins_58 ?_
      obtain ⟨g3, hF⟩ := grd hF
      refine q_iast C pa_259 (vp_of g3) dX12_begins_59 ?_
      refine q_aload_n C 1 dX12_begins_60 rfl rfl ?_
      refine qg_11_20 C pi_249 tw_1073 dX12_begins_61 ?_
      refine q_iload_n C 0 dX12_begins_64 rfl rfl ?_
      refine q_iconst (v := 1) C dX12_begins_65 (by decide) ?_
      refine q_iadd C dX12_begins_66 ?_
      refine q_aload_n C 1 dX12_begins_67 rfl rfl ?_
      refine qg_11_20 C pi_249 tw_1073 dX12_begins_68 ?_
      refine q_bipush (v := 116) C dX12_begins_71 (by decide) ?_
      refine q_iload_n C 2 dX12_begins_73 rfl rfl ?_
      refine q_iadd C dX12_begins_74 ?_
      obtain ⟨g4, hF⟩ := grd hF
      refine q_iald C pa_259 (vp_of g4) dX12_begins_75 ?_
      obtain ⟨g5, hF⟩ := grd hF
      refine q_iast C pa_259 (vp_of g5) dX12_begins_76 ?_
      refine q_aload_n C 1 dX12_begins_77 rfl rfl ?_
      refine qg_11_20 C pi_249 tw_1073 dX12_begins_78 ?_
      refine q_iload_n C 0 dX12_begins_81 rfl rfl ?_
      refine q_iconst (v := 2) C dX12_begins_82 (by decide) ?_
      refine q_iadd C dX12_begins_83 ?_
      refine q_iconst (v := 0) C dX12_begins_84 (by decide) ?_
      obtain ⟨g6, hF⟩ := grd hF
      refine q_iast C pa_259 (vp_of g6) dX12_begins_85 ?_
      refine q_aload_n C 1 dX12_begins_86 rfl rfl ?_
      refine qg_11_20 C pi_249 tw_1073 dX12_begins_87 ?_
      refine q_iload_n C 0 dX12_begins_90 rfl rfl ?_
      refine q_iconst (v := 3) C dX12_begins_91 (by decide) ?_
      refine q_iadd C dX12_begins_92 ?_
      refine q_iconst (v := 1) C dX12_begins_93 (by decide) ?_
      refine q_iload_n C 2 dX12_begins_94 rfl rfl ?_
      refine q_ishl C dX12_begins_95 ?_
      obtain ⟨g7, hF⟩ := grd hF
      refine q_iast C pa_259 (vp_of g7) dX12_begins_96 ?_
      refine q_iinc C 2 [(1, .int (x1 + 1)), (2, .int ((13 : Int32) + ((4 : Int32) * x1))), (0, .ref (ad (249)))] dX12_begins_97 rfl rfl (by decide) rfl ?_
      refine q_goto (tgt := 32) C dX12_begins_100 (by decide) ?_
      refine q_sub [2, 0] rfl ?_
      exact ih _ _ hF
set_option maxHeartbeats 4000000 in
set_option maxRecDepth 100000 in
theorem l_X12_begins_105 {p : Program} {l : Launch} {e : Env} {R : Room} {s : State} {m : MethodId} {args : Array Value} {below : List Frame} {meth : Method} {c : Code} {D : va_G} {ad : Nat → Nat} {ca : Nat → ClassId} {kz : Nat → Nat} {Q : State → Prop} (C : pC p s m args c cX12_begins "AskedCampModel" 3 D ad ca kz) (hR : 0 ≤ R.frames ∧ 0 ≤ R.locals) {n : Nat} (o : PS) (hx0 : PW p l e R s m args below meth c 3 D ad ca 0 0 Q (o) 145 [] []) : ∀ (k : Nat) (x1 : Int32) (σ : PS), L_X12_begins_105 n k x1 σ = some o → PW p l e R s m args below meth c 3 D ad ca 0 0 Q σ 105 [(0, .ref (ad (249))), (1, .int x1)] [] := by
  intro k
  induction k with
  | zero => intro x1 σ hF; exact nomatch (show (none : Option (PS)) = some o from hF)
  | succ k ih =>
    intro x1 σ hF
    rw [L_X12_begins_105] at hF
    refine q_iload_n C 1 dX12_begins_105 rfl rfl ?_
    refine q_bipush (v := 36) C dX12_begins_106 (by decide) ?_
    refine q_icmp_ge (tgt := 145) C dX12_begins_108 (by decide) (fun c10 => ?_) (fun c10 => ?_)
    · replace hF := ift c10 hF
      cases hF
      refine q_sub [] rfl ?_
      exact hx0
    · replace hF := ife c10 hF
      refine q_aload_n C 0 dX12_begins_111 rfl rfl ?_
      refine qg_11_20 C pi_249 tw_1073 dX12_begins_112 ?_
      refine q_bipush (v := 37) C dX12_begins_115 (by decide) ?_
      refine q_iload_n C 1 dX12_begins_117 rfl rfl ?_
      refine q_iadd C dX12_begins_118 ?_
      refine q_aload_n C 0 dX12_begins_119 rfl rfl ?_
      refine qg_11_20 C pi_249 tw_1073 dX12_begins_120 ?_
      refine q_bipush (v := 122) C dX12_begins_123 (by decide) ?_
      refine q_iload_n C 1 dX12_begins_125 rfl rfl ?_
      refine q_iadd C dX12_begins_126 ?_
      obtain ⟨g11, hF⟩ := grd hF
      refine q_iald C pa_259 (vp_of g11) dX12_begins_127 ?_
      obtain ⟨g12, hF⟩ := grd hF
      refine q_iast C pa_259 (vp_of g12) dX12_begins_128 ?_
      refine q_aload_n C 0 dX12_begins_129 rfl rfl ?_
      refine qg_11_20 C pi_249 tw_1073 dX12_begins_130 ?_
      refine q_bipush (v := 73) C dX12_begins_133 (by decide) ?_
      refine q_iload_n C 1 dX12_begins_135 rfl rfl ?_
      refine q_iadd C dX12_begins_136 ?_
      refine q_iconst (v := 0) C dX12_begins_137 (by decide) ?_
      obtain ⟨g13, hF⟩ := grd hF
      refine q_iast C pa_259 (vp_of g13) dX12_begins_138 ?_
      refine q_iinc C 1 [(1, .int (x1 + 1)), (0, .ref (ad (249)))] dX12_begins_139 rfl rfl (by decide) rfl ?_
      refine q_goto (tgt := 105) C dX12_begins_142 (by decide) ?_
      refine q_sub [1, 0] rfl ?_
      exact ih _ _ hF
set_option maxHeartbeats 4000000 in
set_option maxRecDepth 100000 in
theorem c_X12_begins (l : Launch) (D : va_G) (ad : Nat → Nat) (ca : Nat → ClassId) (kz : Nat → Nat) (hJ : pInj ad) (n : Nat) (σ : PS) (out : PS) (hF : F_X12_begins n σ = some out) : Met l yX12_begins (Cond.code yX12_begins cX12_begins 3 (Option.none : Option Jvm.ClassFile.FieldType) :: gw_tbl) { frames := 0, cells := 0, slots := 0, locals := 0 } (va_Pc [.ref (ad (249))] (pU D ad ca kz σ)) (pQv D ad ca out) 0 0 (pAD ad) := by
  refine q_entry (own := "AskedCampModel") hJ (by decide) rfl (Nat.le_of_ble_eq_true rfl) (fun p e s m below meth c C hr hlk => ?_)
  refine q_lv [(0, .ref (ad (249)))] rfl ?_
  rw [F_X12_begins] at hF
  refine q_aload_n C 0 dX12_begins_0 rfl rfl ?_
  refine qg_11_20 C pi_249 tw_1073 dX12_begins_1 ?_
  refine q_bipush (v := 10) C dX12_begins_4 (by decide) ?_
  refine q_iconst (v := 0) C dX12_begins_6 (by decide) ?_
  refine q_iastk (jn := 10) C pa_259 (vp_of (by decide)) rfl dX12_begins_7 ?_
  refine q_aload_n C 0 dX12_begins_8 rfl rfl ?_
  refine qg_11_20 C pi_249 tw_1073 dX12_begins_9 ?_
  refine q_bipush (v := 11) C dX12_begins_12 (by decide) ?_
  refine q_aload_n C 0 dX12_begins_14 rfl rfl ?_
  refine qg_11_20 C pi_249 tw_1073 dX12_begins_15 ?_
  refine q_bipush (v := 109) C dX12_begins_18 (by decide) ?_
  refine q_ialdk (jn := 109) C pa_259 (vp_of (by decide)) rfl dX12_begins_20 ?_
  refine q_iastk (jn := 11) C pa_259 (vp_of (by decide)) rfl dX12_begins_21 ?_
  refine q_aload_n C 0 dX12_begins_22 rfl rfl ?_
  refine qg_11_20 C pi_249 tw_1073 dX12_begins_23 ?_
  refine q_bipush (v := 12) C dX12_begins_26 (by decide) ?_
  refine q_iconst (v := 0) C dX12_begins_28 (by decide) ?_
  refine q_iastk (jn := 12) C pa_259 (vp_of (by decide)) rfl dX12_begins_29 ?_
  refine q_iconst (v := 0) C dX12_begins_30 (by decide) ?_
  refine q_istore_n C [(1, .int 0), (0, .ref (ad (249)))] dX12_begins_31 rfl (by decide) rfl ?_
  obtain ⟨o8, h9, hF⟩ := bnd hF
  try dsimp only at hF
  refine q_sub [1, 0] rfl ?_
  refine l_X12_begins_32 C ⟨Nat.le_of_ble_eq_true rfl, Nat.le_of_ble_eq_true rfl⟩ o8 ?_ n _ _ h9
  refine q_iconst (v := 0) C dX12_begins_103 (by decide) ?_
  refine q_istore_n C [(1, .int 0), (0, .ref (ad (249)))] dX12_begins_104 rfl (by decide) rfl ?_
  obtain ⟨o14, h15, hF⟩ := bnd hF
  try dsimp only at hF
  refine q_sub [1, 0] rfl ?_
  refine l_X12_begins_105 C ⟨Nat.le_of_ble_eq_true rfl, Nat.le_of_ble_eq_true rfl⟩ o14 ?_ n _ _ h15
  exact q_vret C hr hlk dX12_begins_145 hF
-- X12_beginsTurn
def F_X12_beginsTurn (n : Nat) (a1 : Int32) (a2 : Int32) (a3 : Int32) (σ : PS) : Option (PS) := (if 0 ≤ a1 ∧ a1.toNatClampNeg < 5 then some (psI (psI (psI (psI σ 266 a1.toNatClampNeg a2) 267 a1.toNatClampNeg a3) 268 a1.toNatClampNeg (-1 : Int32)) 269 a1.toNatClampNeg (-1 : Int32)) else none)
theorem gm_X12_beginsTurn : gM "AskedCampModel" yX12_beginsTurn (Cond.code yX12_beginsTurn cX12_beginsTurn 4 (Option.none : Option Jvm.ClassFile.FieldType)) 3 := ⟨by decide +kernel, tw_1596, tw_p93, tw_12, tw_1597⟩
set_option maxHeartbeats 4000000 in
set_option maxRecDepth 100000 in
theorem c_X12_beginsTurn (l : Launch) (D : va_G) (ad : Nat → Nat) (ca : Nat → ClassId) (kz : Nat → Nat) (hJ : pInj ad) (n : Nat) (a1 : Int32) (a2 : Int32) (a3 : Int32) (σ : PS) (out : PS) (hF : F_X12_beginsTurn n a1 a2 a3 σ = some out) : Met l yX12_beginsTurn (Cond.code yX12_beginsTurn cX12_beginsTurn 4 (Option.none : Option Jvm.ClassFile.FieldType) :: gw_tbl) { frames := 0, cells := 0, slots := 0, locals := 0 } (va_Pc [.ref (ad (249)), .int a1, .int a2, .int a3] (pU D ad ca kz σ)) (pQv D ad ca out) 0 0 (pAD ad) := by
  refine q_entry (own := "AskedCampModel") hJ (by decide) rfl (Nat.le_of_ble_eq_true rfl) (fun p e s m below meth c C hr hlk => ?_)
  refine q_lv [(0, .ref (ad (249))), (1, .int a1), (2, .int a2), (3, .int a3)] rfl ?_
  rw [F_X12_beginsTurn] at hF
  refine q_aload_n C 0 dX12_beginsTurn_0 rfl rfl ?_
  refine qg_11_30 C pi_249 tw_1083 dX12_beginsTurn_1 ?_
  refine q_iload_n C 1 dX12_beginsTurn_4 rfl rfl ?_
  refine q_iload_n C 2 dX12_beginsTurn_5 rfl rfl ?_
  obtain ⟨g1, hF⟩ := grd hF
  refine q_iast C pa_266 (vp_of g1) dX12_beginsTurn_6 ?_
  refine q_aload_n C 0 dX12_beginsTurn_7 rfl rfl ?_
  refine qg_11_31 C pi_249 tw_1084 dX12_beginsTurn_8 ?_
  refine q_iload_n C 1 dX12_beginsTurn_11 rfl rfl ?_
  refine q_iload_n C 3 dX12_beginsTurn_12 rfl rfl ?_
  refine q_iast C pa_267 (vp_of g1) dX12_beginsTurn_13 ?_
  refine q_aload_n C 0 dX12_beginsTurn_14 rfl rfl ?_
  refine qg_11_32 C pi_249 tw_1085 dX12_beginsTurn_15 ?_
  refine q_iload_n C 1 dX12_beginsTurn_18 rfl rfl ?_
  refine q_iconst (v := -1) C dX12_beginsTurn_19 (by decide) ?_
  refine q_iast C pa_268 (vp_of g1) dX12_beginsTurn_20 ?_
  refine q_aload_n C 0 dX12_beginsTurn_21 rfl rfl ?_
  refine qg_11_33 C pi_249 tw_1086 dX12_beginsTurn_22 ?_
  refine q_iload_n C 1 dX12_beginsTurn_25 rfl rfl ?_
  refine q_iconst (v := -1) C dX12_beginsTurn_26 (by decide) ?_
  refine q_iast C pa_269 (vp_of g1) dX12_beginsTurn_27 ?_
  exact q_vret C hr hlk dX12_beginsTurn_28 hF
-- X12_draw
def F_X12_draw (n : Nat) (a1 : Int32) (σ : PS) : Option (Int32 × PS) := (if a1.toInt64 = 0 then none else some ((((((psJ σ 249 38 ((((σ.2 249 38) * (1103515245 : Int64)) + (12345 : Int64)) - (((σ.2 249 38) * (1103515245 : Int64)) + (12345 : Int64)) / (2147483648 : Int64) * (2147483648 : Int64))).2 249 38) / (65536 : Int64)) - (((psJ σ 249 38 ((((σ.2 249 38) * (1103515245 : Int64)) + (12345 : Int64)) - (((σ.2 249 38) * (1103515245 : Int64)) + (12345 : Int64)) / (2147483648 : Int64) * (2147483648 : Int64))).2 249 38) / (65536 : Int64)) / a1.toInt64 * a1.toInt64).toInt32), psJ σ 249 38 ((((σ.2 249 38) * (1103515245 : Int64)) + (12345 : Int64)) - (((σ.2 249 38) * (1103515245 : Int64)) + (12345 : Int64)) / (2147483648 : Int64) * (2147483648 : Int64))))
theorem gm_X12_draw : gM "AskedCampModel" yX12_draw (Cond.code yX12_draw cX12_draw 2 (Option.some Jvm.ClassFile.FieldType.int)) 1 := ⟨by decide +kernel, tw_1657, tw_p101, tw_12, tw_1658⟩
set_option maxHeartbeats 4000000 in
set_option maxRecDepth 100000 in
theorem c_X12_draw (l : Launch) (D : va_G) (ad : Nat → Nat) (ca : Nat → ClassId) (kz : Nat → Nat) (hJ : pInj ad) (n : Nat) (a1 : Int32) (σ : PS) (out : Int32 × PS) (hF : F_X12_draw n a1 σ = some out) : Met l yX12_draw (Cond.code yX12_draw cX12_draw 2 (Option.some Jvm.ClassFile.FieldType.int) :: gw_tbl) { frames := 0, cells := 0, slots := 0, locals := 0 } (va_Pc [.ref (ad (249)), .int a1] (pU D ad ca kz σ)) (pQi D ad ca out) 0 0 (pAD ad) := by
  refine q_entry (own := "AskedCampModel") hJ (by decide) rfl (Nat.le_of_ble_eq_true rfl) (fun p e s m below meth c C hr hlk => ?_)
  refine q_lv [(0, .ref (ad (249))), (1, .int a1)] rfl ?_
  rw [F_X12_draw] at hF
  refine q_aload_n C 0 dX12_draw_0 rfl rfl ?_
  refine q_aload_n C 0 dX12_draw_1 rfl rfl ?_
  refine qg_11_38 C pi_249 tw_1091 dX12_draw_2 ?_
  refine q_ldc2 C dX12_draw_5 tw_1659 ?_
  refine q_lmul C dX12_draw_8 ?_
  refine q_ldc2 C dX12_draw_9 tw_1660 ?_
  refine q_ladd C dX12_draw_12 ?_
  refine q_ldc2 C dX12_draw_13 tw_1661 ?_
  refine q_lrem C dX12_draw_16 (by decide) ?_
  refine qs_11_38 C pi_249 tw_1091 dX12_draw_17 ?_
  refine q_aload_n C 0 dX12_draw_20 rfl rfl ?_
  refine qg_11_38 C pi_249 tw_1091 dX12_draw_21 ?_
  refine q_ldc2 C dX12_draw_24 tw_1662 ?_
  refine q_ldiv C dX12_draw_27 (by decide) ?_
  refine q_iload_n C 1 dX12_draw_28 rfl rfl ?_
  refine q_i2l C dX12_draw_29 ?_
  obtain ⟨g1, hF⟩ := grn hF
  refine q_lrem C dX12_draw_30 g1 ?_
  refine q_l2i C dX12_draw_31 ?_
  exact q_iret C hr hlk dX12_draw_32 hF
-- X12_blows
def F_X12_blows (n : Nat) (σ : PS) : Option (PS) := (F_X12_draw n (4 : Int32) σ).bind (fun q1 => (F_X12_besideOf n (σ.1 259 11) q1.1 q1.2).bind (fun q3 => (if q3.1 < 0 then some q3.2 else (F_X12_isBush n q3.1 q3.2).bind (fun q6 => (if q6.1 = 0 then some (psI q6.2 259 11 q3.1) else some q6.2)))))
theorem gm_X12_blows : gM "AskedCampModel" yX12_blows (Cond.code yX12_blows cX12_blows 2 (Option.none : Option Jvm.ClassFile.FieldType)) 0 := ⟨by decide +kernel, tw_1665, tw_p102, tw_12, tw_1666⟩
set_option maxHeartbeats 4000000 in
set_option maxRecDepth 100000 in
theorem c_X12_blows (l : Launch) (D : va_G) (ad : Nat → Nat) (ca : Nat → ClassId) (kz : Nat → Nat) (hJ : pInj ad) (n : Nat) (σ : PS) (out : PS) (hF : F_X12_blows n σ = some out) : Met l yX12_blows (Cond.code yX12_blows cX12_blows 2 (Option.none : Option Jvm.ClassFile.FieldType) :: gw_tbl) { frames := 2, cells := 0, slots := 0, locals := 43 } (va_Pc [.ref (ad (249))] (pU D ad ca kz σ)) (pQv D ad ca out) 0 0 (pAD ad) := by
  refine q_entry (own := "AskedCampModel") hJ (by decide) rfl (Nat.le_of_ble_eq_true rfl) (fun p e s m below meth c C hr hlk => ?_)
  refine q_lv [(0, .ref (ad (249)))] rfl ?_
  rw [F_X12_blows] at hF
  refine q_aload_n C 0 dX12_blows_0 rfl rfl ?_
  refine q_aload_n C 0 dX12_blows_1 rfl rfl ?_
  refine qg_11_20 C pi_249 tw_1073 dX12_blows_2 ?_
  refine q_bipush (v := 11) C dX12_blows_5 (by decide) ?_
  refine q_ialdk (jn := 11) C pa_259 (vp_of (by decide)) rfl dX12_blows_7 ?_
  refine q_aload_n C 0 dX12_blows_8 rfl rfl ?_
  refine q_iconst (v := 4) C dX12_blows_9 (by decide) ?_
  obtain ⟨q1, h2, hF⟩ := bnd hF
  try dsimp only at hF
  refine q_callVi C [.int 4] (c_X12_draw l D ad ca kz C.2.2.2.2.2.2.1 _ _ _ _ h2) tw_1655 gm_X12_draw pi_249.1 (pe_11 pi_249.2) rfl ⟨rfl, rfl⟩ ⟨Nat.le_of_ble_eq_true rfl, Nat.le_of_ble_eq_true rfl⟩ rfl (Nat.le_of_ble_eq_true rfl) dX12_blows_10 q00 ?_
  obtain ⟨q3, h4, hF⟩ := bnd hF
  try dsimp only at hF
  refine q_callVi C [.int (σ.1 259 11), .int q1.1] (c_X12_besideOf l D ad ca kz C.2.2.2.2.2.2.1 _ _ _ _ _ h4) tw_1427 gm_X12_besideOf pi_249.1 (pe_11 pi_249.2) rfl ⟨rfl, rfl⟩ ⟨Nat.le_of_ble_eq_true rfl, Nat.le_of_ble_eq_true rfl⟩ rfl (Nat.le_of_ble_eq_true rfl) dX12_blows_13 q00 ?_
  refine q_istore_n C [(1, .int q3.1), (0, .ref (ad (249)))] dX12_blows_16 rfl (by decide) rfl ?_
  refine q_iload_n C 0 dX12_blows_17 rfl rfl ?_
  refine q_if_lt (tgt := 37) C dX12_blows_18 (by decide) (fun c5 => ?_) (fun c5 => ?_)
  · replace hF := ift c5 hF
    exact q_vret C hr hlk dX12_blows_37 hF
  · replace hF := ife c5 hF
    refine q_aload_n C 1 dX12_blows_21 rfl rfl ?_
    refine q_iload_n C 0 dX12_blows_22 rfl rfl ?_
    obtain ⟨q6, h7, hF⟩ := bnd hF
    try dsimp only at hF
    refine q_callVi C [.int q3.1] (c_X12_isBush l D ad ca kz C.2.2.2.2.2.2.1 _ _ _ _ h7) tw_1431 gm_X12_isBush pi_249.1 (pe_11 pi_249.2) rfl ⟨rfl, rfl⟩ ⟨Nat.le_of_ble_eq_true rfl, Nat.le_of_ble_eq_true rfl⟩ rfl (Nat.le_of_ble_eq_true rfl) dX12_blows_23 q00 ?_
    refine q_if_ne (tgt := 37) C dX12_blows_26 (by decide) (fun c8 => ?_) (fun c8 => ?_)
    · replace hF := ife c8 hF
      exact q_vret C hr hlk dX12_blows_37 hF
    · replace hF := ift c8 hF
      refine q_aload_n C 1 dX12_blows_29 rfl rfl ?_
      refine qg_11_20 C pi_249 tw_1073 dX12_blows_30 ?_
      refine q_bipush (v := 11) C dX12_blows_33 (by decide) ?_
      refine q_iload_n C 0 dX12_blows_35 rfl rfl ?_
      refine q_iastk (jn := 11) C pa_259 (vp_of (by decide)) rfl dX12_blows_36 ?_
      exact q_vret C hr hlk dX12_blows_37 hF
-- X12_isCell
def F_X12_isCell (n : Nat) (a1 : Int32) (σ : PS) : Option (Int32 × PS) := (if a1 < 0 then some ((0 : Int32), σ) else (F_X12_cells n σ).bind (fun q2 => (if q2.1 ≤ a1 then some ((0 : Int32), q2.2) else some ((1 : Int32), q2.2))))
theorem gm_X12_isCell : gM "AskedCampModel" yX12_isCell (Cond.code yX12_isCell cX12_isCell 2 (Option.some Jvm.ClassFile.FieldType.boolean)) 1 := ⟨by decide +kernel, tw_1380, tw_p60, tw_12, tw_1381⟩
set_option maxHeartbeats 4000000 in
set_option maxRecDepth 100000 in
theorem c_X12_isCell (l : Launch) (D : va_G) (ad : Nat → Nat) (ca : Nat → ClassId) (kz : Nat → Nat) (hJ : pInj ad) (n : Nat) (a1 : Int32) (σ : PS) (out : Int32 × PS) (hF : F_X12_isCell n a1 σ = some out) : Met l yX12_isCell (Cond.code yX12_isCell cX12_isCell 2 (Option.some Jvm.ClassFile.FieldType.boolean) :: gw_tbl) { frames := 1, cells := 0, slots := 0, locals := 20 } (va_Pc [.ref (ad (249)), .int a1] (pU D ad ca kz σ)) (pQi D ad ca out) 0 0 (pAD ad) := by
  refine q_entry (own := "AskedCampModel") hJ (by decide) rfl (Nat.le_of_ble_eq_true rfl) (fun p e s m below meth c C hr hlk => ?_)
  refine q_lv [(0, .ref (ad (249))), (1, .int a1)] rfl ?_
  rw [F_X12_isCell] at hF
  refine q_iload_n C 1 dX12_isCell_0 rfl rfl ?_
  refine q_if_lt (tgt := 16) C dX12_isCell_1 (by decide) (fun c1 => ?_) (fun c1 => ?_)
  · replace hF := ift c1 hF
    refine q_iconst (v := 0) C dX12_isCell_16 (by decide) ?_
    exact q_zret C hr hlk dX12_isCell_17 (by decide) hF
  · replace hF := ife c1 hF
    refine q_iload_n C 1 dX12_isCell_4 rfl rfl ?_
    refine q_aload_n C 0 dX12_isCell_5 rfl rfl ?_
    obtain ⟨q2, h3, hF⟩ := bnd hF
    try dsimp only at hF
    refine q_callVi C [] (c_X12_cells l D ad ca kz C.2.2.2.2.2.2.1 _ _ _ h3) tw_1382 gm_X12_cells pi_249.1 (pe_11 pi_249.2) rfl ⟨rfl, rfl⟩ ⟨Nat.le_of_ble_eq_true rfl, Nat.le_of_ble_eq_true rfl⟩ rfl (Nat.le_of_ble_eq_true rfl) dX12_isCell_6 q00 ?_
    refine q_icmp_ge (tgt := 16) C dX12_isCell_9 (by decide) (fun c4 => ?_) (fun c4 => ?_)
    · replace hF := ift c4 hF
      refine q_iconst (v := 0) C dX12_isCell_16 (by decide) ?_
      exact q_zret C hr hlk dX12_isCell_17 (by decide) hF
    · replace hF := ife c4 hF
      refine q_iconst (v := 1) C dX12_isCell_12 (by decide) ?_
      refine q_goto (tgt := 17) C dX12_isCell_13 (by decide) ?_
      exact q_zret C hr hlk dX12_isCell_17 (by decide) hF
-- X12_keepsAct
def L_X12_keepsAct_52 (n : Nat) : Nat → Int32 → PS → Option (PS)
  | 0, _, _ => none
  | k + 1, x1, σ => (if (99 : Int32) ≤ x1 then some σ else (if 0 ≤ ((10 : Int32) + x1) ∧ ((10 : Int32) + x1).toNatClampNeg < 179 then (if 0 ≤ (((99 : Int32) * (σ.1 249 26)) + x1) ∧ (((99 : Int32) * (σ.1 249 26)) + x1).toNatClampNeg < 1980 then L_X12_keepsAct_52 n k (x1 + 1) (psI σ 262 ((((99 : Int32) * (σ.1 249 26)) + x1).toNatClampNeg) (σ.1 259 (((10 : Int32) + x1).toNatClampNeg))) else none) else none))
def L_X12_keepsAct_12 (n : Nat) : Nat → Int32 → PS → Option (PS)
  | 0, _, _ => none
  | k + 1, x1, σ => (if (1980 : Int32) ≤ x1 then some σ else (if 0 ≤ x1 ∧ x1.toNatClampNeg < 1980 then (if 0 ≤ (x1 - (99 : Int32)) ∧ (x1 - (99 : Int32)).toNatClampNeg < 1980 then L_X12_keepsAct_12 n k (x1 + 1) (psI σ 262 ((x1 - (99 : Int32)).toNatClampNeg) (σ.1 262 x1.toNatClampNeg)) else none) else none))
def F_X12_keepsAct (n : Nat) (σ : PS) : Option (PS) := (if (σ.1 249 26) = (20 : Int32) then (L_X12_keepsAct_12 n n (99 : Int32) σ).bind (fun o10 => (L_X12_keepsAct_52 n n (0 : Int32) (psI o10 249 26 ((o10.1 249 26) - (1 : Int32)))).bind (fun o12 => some (psI o12 249 26 ((o12.1 249 26) + (1 : Int32))))) else (L_X12_keepsAct_52 n n (0 : Int32) σ).bind (fun o5 => some (psI o5 249 26 ((o5.1 249 26) + (1 : Int32)))))
theorem gm_X12_keepsAct : gM "AskedCampModel" yX12_keepsAct (Cond.code yX12_keepsAct cX12_keepsAct 2 (Option.none : Option Jvm.ClassFile.FieldType)) 0 := ⟨by decide +kernel, tw_1409, tw_p65, tw_12, tw_1410⟩
set_option maxHeartbeats 4000000 in
set_option maxRecDepth 100000 in
theorem l_X12_keepsAct_52 {p : Program} {l : Launch} {e : Env} {R : Room} {s : State} {m : MethodId} {args : Array Value} {below : List Frame} {meth : Method} {c : Code} {D : va_G} {ad : Nat → Nat} {ca : Nat → ClassId} {kz : Nat → Nat} {Q : State → Prop} (C : pC p s m args c cX12_keepsAct "AskedCampModel" 2 D ad ca kz) (hR : 0 ≤ R.frames ∧ 0 ≤ R.locals) {n : Nat} (o : PS) (hx0 : PW p l e R s m args below meth c 2 D ad ca 0 0 Q (o) 87 [(0, .ref (ad (249)))] []) : ∀ (k : Nat) (x1 : Int32) (σ : PS), L_X12_keepsAct_52 n k x1 σ = some o → PW p l e R s m args below meth c 2 D ad ca 0 0 Q σ 52 [(0, .ref (ad (249))), (1, .int x1)] [] := by
  intro k
  induction k with
  | zero => intro x1 σ hF; exact nomatch (show (none : Option (PS)) = some o from hF)
  | succ k ih =>
    intro x1 σ hF
    rw [L_X12_keepsAct_52] at hF
    refine q_iload_n C 1 dX12_keepsAct_52 rfl rfl ?_
    refine q_bipush (v := 99) C dX12_keepsAct_53 (by decide) ?_
    refine q_icmp_ge (tgt := 87) C dX12_keepsAct_55 (by decide) (fun c2 => ?_) (fun c2 => ?_)
    · replace hF := ift c2 hF
      cases hF
      refine q_sub [0] rfl ?_
      exact hx0
    · replace hF := ife c2 hF
      refine q_aload_n C 0 dX12_keepsAct_58 rfl rfl ?_
      refine qg_11_25 C pi_249 tw_1078 dX12_keepsAct_59 ?_
      refine q_bipush (v := 99) C dX12_keepsAct_62 (by decide) ?_
      refine q_aload_n C 0 dX12_keepsAct_64 rfl rfl ?_
      refine qg_11_26 C pi_249 tw_1079 dX12_keepsAct_65 ?_
      refine q_imul C dX12_keepsAct_68 ?_
      refine q_iload_n C 1 dX12_keepsAct_69 rfl rfl ?_
      refine q_iadd C dX12_keepsAct_70 ?_
      refine q_aload_n C 0 dX12_keepsAct_71 rfl rfl ?_
      refine qg_11_20 C pi_249 tw_1073 dX12_keepsAct_72 ?_
      refine q_bipush (v := 10) C dX12_keepsAct_75 (by decide) ?_
      refine q_iload_n C 1 dX12_keepsAct_77 rfl rfl ?_
      refine q_iadd C dX12_keepsAct_78 ?_
      obtain ⟨g3, hF⟩ := grd hF
      refine q_iald C pa_259 (vp_of g3) dX12_keepsAct_79 ?_
      obtain ⟨g4, hF⟩ := grd hF
      refine q_iast C pa_262 (vp_of g4) dX12_keepsAct_80 ?_
      refine q_iinc C 1 [(1, .int (x1 + 1)), (0, .ref (ad (249)))] dX12_keepsAct_81 rfl rfl (by decide) rfl ?_
      refine q_goto (tgt := 52) C dX12_keepsAct_84 (by decide) ?_
      refine q_sub [1, 0] rfl ?_
      exact ih _ _ hF
set_option maxHeartbeats 4000000 in
set_option maxRecDepth 100000 in
theorem l_X12_keepsAct_12 {p : Program} {l : Launch} {e : Env} {R : Room} {s : State} {m : MethodId} {args : Array Value} {below : List Frame} {meth : Method} {c : Code} {D : va_G} {ad : Nat → Nat} {ca : Nat → ClassId} {kz : Nat → Nat} {Q : State → Prop} (C : pC p s m args c cX12_keepsAct "AskedCampModel" 2 D ad ca kz) (hR : 0 ≤ R.frames ∧ 0 ≤ R.locals) {n : Nat} (o : PS) (hx0 : PW p l e R s m args below meth c 2 D ad ca 0 0 Q (o) 40 [(0, .ref (ad (249)))] []) : ∀ (k : Nat) (x1 : Int32) (σ : PS), L_X12_keepsAct_12 n k x1 σ = some o → PW p l e R s m args below meth c 2 D ad ca 0 0 Q σ 12 [(0, .ref (ad (249))), (1, .int x1)] [] := by
  intro k
  induction k with
  | zero => intro x1 σ hF; exact nomatch (show (none : Option (PS)) = some o from hF)
  | succ k ih =>
    intro x1 σ hF
    rw [L_X12_keepsAct_12] at hF
    refine q_iload_n C 1 dX12_keepsAct_12 rfl rfl ?_
    refine q_sipush (v := 1980) C dX12_keepsAct_13 (by decide) ?_
    refine q_icmp_ge (tgt := 40) C dX12_keepsAct_16 (by decide) (fun c7 => ?_) (fun c7 => ?_)
    · replace hF := ift c7 hF
      cases hF
      refine q_sub [0] rfl ?_
      exact hx0
    · replace hF := ife c7 hF
      refine q_aload_n C 0 dX12_keepsAct_19 rfl rfl ?_
      refine qg_11_25 C pi_249 tw_1078 dX12_keepsAct_20 ?_
      refine q_iload_n C 1 dX12_keepsAct_23 rfl rfl ?_
      refine q_bipush (v := 99) C dX12_keepsAct_24 (by decide) ?_
      refine q_isub C dX12_keepsAct_26 ?_
      refine q_aload_n C 0 dX12_keepsAct_27 rfl rfl ?_
      refine qg_11_25 C pi_249 tw_1078 dX12_keepsAct_28 ?_
      refine q_iload_n C 1 dX12_keepsAct_31 rfl rfl ?_
      obtain ⟨g8, hF⟩ := grd hF
      refine q_iald C pa_262 (vp_of g8) dX12_keepsAct_32 ?_
      obtain ⟨g9, hF⟩ := grd hF
      refine q_iast C pa_262 (vp_of g9) dX12_keepsAct_33 ?_
      refine q_iinc C 1 [(1, .int (x1 + 1)), (0, .ref (ad (249)))] dX12_keepsAct_34 rfl rfl (by decide) rfl ?_
      refine q_goto (tgt := 12) C dX12_keepsAct_37 (by decide) ?_
      refine q_sub [1, 0] rfl ?_
      exact ih _ _ hF
set_option maxHeartbeats 4000000 in
set_option maxRecDepth 100000 in
theorem c_X12_keepsAct (l : Launch) (D : va_G) (ad : Nat → Nat) (ca : Nat → ClassId) (kz : Nat → Nat) (hJ : pInj ad) (n : Nat) (σ : PS) (out : PS) (hF : F_X12_keepsAct n σ = some out) : Met l yX12_keepsAct (Cond.code yX12_keepsAct cX12_keepsAct 2 (Option.none : Option Jvm.ClassFile.FieldType) :: gw_tbl) { frames := 0, cells := 0, slots := 0, locals := 0 } (va_Pc [.ref (ad (249))] (pU D ad ca kz σ)) (pQv D ad ca out) 0 0 (pAD ad) := by
  refine q_entry (own := "AskedCampModel") hJ (by decide) rfl (Nat.le_of_ble_eq_true rfl) (fun p e s m below meth c C hr hlk => ?_)
  refine q_lv [(0, .ref (ad (249)))] rfl ?_
  rw [F_X12_keepsAct] at hF
  refine q_aload_n C 0 dX12_keepsAct_0 rfl rfl ?_
  refine qg_11_26 C pi_249 tw_1079 dX12_keepsAct_1 ?_
  refine q_bipush (v := 20) C dX12_keepsAct_4 (by decide) ?_
  refine q_icmp_ne (tgt := 50) C dX12_keepsAct_6 (by decide) (fun c1 => ?_) (fun c1 => ?_)
  · replace hF := ife c1 hF
    refine q_iconst (v := 0) C dX12_keepsAct_50 (by decide) ?_
    refine q_istore_n C [(1, .int 0), (0, .ref (ad (249)))] dX12_keepsAct_51 rfl (by decide) rfl ?_
    obtain ⟨o5, h6, hF⟩ := bnd hF
    try dsimp only at hF
    refine q_sub [1, 0] rfl ?_
    refine l_X12_keepsAct_52 C ⟨Nat.le_of_ble_eq_true rfl, Nat.le_of_ble_eq_true rfl⟩ o5 ?_ n _ _ h6
    refine q_aload_n C 0 dX12_keepsAct_87 rfl rfl ?_
    refine q_dup C dX12_keepsAct_88 rfl ?_
    refine qg_11_26 C pi_249 tw_1079 dX12_keepsAct_89 ?_
    refine q_iconst (v := 1) C dX12_keepsAct_92 (by decide) ?_
    refine q_iadd C dX12_keepsAct_93 ?_
    refine qs_11_26 C pi_249 tw_1079 dX12_keepsAct_94 ?_
    exact q_vret C hr hlk dX12_keepsAct_97 hF
  · replace hF := ift c1 hF
    refine q_bipush (v := 99) C dX12_keepsAct_9 (by decide) ?_
    refine q_istore_n C [(1, .int 99), (0, .ref (ad (249)))] dX12_keepsAct_11 rfl (by decide) rfl ?_
    obtain ⟨o10, h11, hF⟩ := bnd hF
    try dsimp only at hF
    refine q_sub [1, 0] rfl ?_
    refine l_X12_keepsAct_12 C ⟨Nat.le_of_ble_eq_true rfl, Nat.le_of_ble_eq_true rfl⟩ o10 ?_ n _ _ h11
    refine q_aload_n C 0 dX12_keepsAct_40 rfl rfl ?_
    refine q_dup C dX12_keepsAct_41 rfl ?_
    refine qg_11_26 C pi_249 tw_1079 dX12_keepsAct_42 ?_
    refine q_iconst (v := 1) C dX12_keepsAct_45 (by decide) ?_
    refine q_isub C dX12_keepsAct_46 ?_
    refine qs_11_26 C pi_249 tw_1079 dX12_keepsAct_47 ?_
    refine q_iconst (v := 0) C dX12_keepsAct_50 (by decide) ?_
    refine q_istore_n C [(1, .int 0), (0, .ref (ad (249)))] dX12_keepsAct_51 rfl (by decide) rfl ?_
    obtain ⟨o12, h13, hF⟩ := bnd hF
    try dsimp only at hF
    refine q_sub [1, 0] rfl ?_
    refine l_X12_keepsAct_52 C ⟨Nat.le_of_ble_eq_true rfl, Nat.le_of_ble_eq_true rfl⟩ o12 ?_ n _ _ h13
    refine q_aload_n C 0 dX12_keepsAct_87 rfl rfl ?_
    refine q_dup C dX12_keepsAct_88 rfl ?_
    refine qg_11_26 C pi_249 tw_1079 dX12_keepsAct_89 ?_
    refine q_iconst (v := 1) C dX12_keepsAct_92 (by decide) ?_
    refine q_iadd C dX12_keepsAct_93 ?_
    refine qs_11_26 C pi_249 tw_1079 dX12_keepsAct_94 ?_
    exact q_vret C hr hlk dX12_keepsAct_97 hF
-- X12_bush
def F_X12_bush (n : Nat) (a1 : Int32) (σ : PS) : Option (Int32 × PS) := (F_X12_isCell n a1 σ).bind (fun q1 => (if q1.1 = 0 then some ((-1 : Int32), q1.2) else (F_X12_keepsAct n q1.2).bind (fun q4 => (if 0 ≤ ((37 : Int32) + a1) ∧ ((37 : Int32) + a1).toNatClampNeg < 179 then some (((psI q4 259 (((37 : Int32) + a1).toNatClampNeg) ((1 : Int32) - (q4.1 259 (((37 : Int32) + a1).toNatClampNeg)))).1 259 (((37 : Int32) + a1).toNatClampNeg)), psI q4 259 (((37 : Int32) + a1).toNatClampNeg) ((1 : Int32) - (q4.1 259 (((37 : Int32) + a1).toNatClampNeg)))) else none))))
theorem gm_X12_bush : gM "AskedCampModel" yX12_bush (Cond.code yX12_bush cX12_bush 2 (Option.some Jvm.ClassFile.FieldType.int)) 1 := ⟨by decide +kernel, tw_1506, tw_1507, tw_12, tw_1508⟩
set_option maxHeartbeats 4000000 in
set_option maxRecDepth 100000 in
theorem c_X12_bush (l : Launch) (D : va_G) (ad : Nat → Nat) (ca : Nat → ClassId) (kz : Nat → Nat) (hJ : pInj ad) (n : Nat) (a1 : Int32) (σ : PS) (out : Int32 × PS) (hF : F_X12_bush n a1 σ = some out) : Met l yX12_bush (Cond.code yX12_bush cX12_bush 2 (Option.some Jvm.ClassFile.FieldType.int) :: gw_tbl) { frames := 2, cells := 0, slots := 0, locals := 41 } (va_Pc [.ref (ad (249)), .int a1] (pU D ad ca kz σ)) (pQi D ad ca out) 0 0 (pAD ad) := by
  refine q_entry (own := "AskedCampModel") hJ (by decide) rfl (Nat.le_of_ble_eq_true rfl) (fun p e s m below meth c C hr hlk => ?_)
  refine q_lv [(0, .ref (ad (249))), (1, .int a1)] rfl ?_
  rw [F_X12_bush] at hF
  refine q_aload_n C 0 dX12_bush_0 rfl rfl ?_
  refine q_iload_n C 1 dX12_bush_1 rfl rfl ?_
  obtain ⟨q1, h2, hF⟩ := bnd hF
  try dsimp only at hF
  refine q_callVi C [.int a1] (c_X12_isCell l D ad ca kz C.2.2.2.2.2.2.1 _ _ _ _ h2) tw_1378 gm_X12_isCell pi_249.1 (pe_11 pi_249.2) rfl ⟨rfl, rfl⟩ ⟨Nat.le_of_ble_eq_true rfl, Nat.le_of_ble_eq_true rfl⟩ rfl (Nat.le_of_ble_eq_true rfl) dX12_bush_2 q00 ?_
  refine q_if_ne (tgt := 10) C dX12_bush_5 (by decide) (fun c3 => ?_) (fun c3 => ?_)
  · replace hF := ife c3 hF
    refine q_aload_n C 0 dX12_bush_10 rfl rfl ?_
    obtain ⟨q4, h5, hF⟩ := bnd hF
    try dsimp only at hF
    refine q_callVv C [] (c_X12_keepsAct l D ad ca kz C.2.2.2.2.2.2.1 _ _ _ h5) tw_1407 gm_X12_keepsAct pi_249.1 (pe_11 pi_249.2) rfl ⟨rfl, rfl⟩ ⟨Nat.le_of_ble_eq_true rfl, Nat.le_of_ble_eq_true rfl⟩ rfl (Nat.le_of_ble_eq_true rfl) dX12_bush_11 q00 ?_
    refine q_aload_n C 0 dX12_bush_14 rfl rfl ?_
    refine qg_11_20 C pi_249 tw_1073 dX12_bush_15 ?_
    refine q_bipush (v := 37) C dX12_bush_18 (by decide) ?_
    refine q_iload_n C 1 dX12_bush_20 rfl rfl ?_
    refine q_iadd C dX12_bush_21 ?_
    refine q_iconst (v := 1) C dX12_bush_22 (by decide) ?_
    refine q_aload_n C 0 dX12_bush_23 rfl rfl ?_
    refine qg_11_20 C pi_249 tw_1073 dX12_bush_24 ?_
    refine q_bipush (v := 37) C dX12_bush_27 (by decide) ?_
    refine q_iload_n C 1 dX12_bush_29 rfl rfl ?_
    refine q_iadd C dX12_bush_30 ?_
    obtain ⟨g6, hF⟩ := grd hF
    refine q_iald C pa_259 (vp_of g6) dX12_bush_31 ?_
    refine q_isub C dX12_bush_32 ?_
    refine q_iast C pa_259 (vp_of g6) dX12_bush_33 ?_
    refine q_aload_n C 0 dX12_bush_34 rfl rfl ?_
    refine qg_11_20 C pi_249 tw_1073 dX12_bush_35 ?_
    refine q_bipush (v := 37) C dX12_bush_38 (by decide) ?_
    refine q_iload_n C 1 dX12_bush_40 rfl rfl ?_
    refine q_iadd C dX12_bush_41 ?_
    refine q_iald C pa_259 (vp_of g6) dX12_bush_42 ?_
    exact q_iret C hr hlk dX12_bush_43 hF
  · replace hF := ift c3 hF
    refine q_iconst (v := -1) C dX12_bush_8 (by decide) ?_
    exact q_iret C hr hlk dX12_bush_9 hF
-- X12_fails
def F_X12_fails (n : Nat) (a1 : Int32) (a2 : Int32) (σ : PS) : Option (Int32 × PS) := (if (σ.1 249 9) = 0 then some ((0 : Int32), psI σ 249 9 (((1 : Int32) + ((8 : Int32) * a2)) + a1)) else some ((0 : Int32), σ))
theorem gm_X12_fails : gM "AskedCampModel" yX12_fails (Cond.code yX12_fails cX12_fails 3 (Option.some Jvm.ClassFile.FieldType.boolean)) 2 := ⟨by decide +kernel, tw_1229, tw_p32, tw_12, tw_1230⟩
set_option maxHeartbeats 4000000 in
set_option maxRecDepth 100000 in
theorem c_X12_fails (l : Launch) (D : va_G) (ad : Nat → Nat) (ca : Nat → ClassId) (kz : Nat → Nat) (hJ : pInj ad) (n : Nat) (a1 : Int32) (a2 : Int32) (σ : PS) (out : Int32 × PS) (hF : F_X12_fails n a1 a2 σ = some out) : Met l yX12_fails (Cond.code yX12_fails cX12_fails 3 (Option.some Jvm.ClassFile.FieldType.boolean) :: gw_tbl) { frames := 0, cells := 0, slots := 0, locals := 0 } (va_Pc [.ref (ad (249)), .int a1, .int a2] (pU D ad ca kz σ)) (pQi D ad ca out) 0 0 (pAD ad) := by
  refine q_entry (own := "AskedCampModel") hJ (by decide) rfl (Nat.le_of_ble_eq_true rfl) (fun p e s m below meth c C hr hlk => ?_)
  refine q_lv [(0, .ref (ad (249))), (1, .int a1), (2, .int a2)] rfl ?_
  rw [F_X12_fails] at hF
  refine q_aload_n C 0 dX12_fails_0 rfl rfl ?_
  refine qg_11_9 C pi_249 tw_1062 dX12_fails_1 ?_
  refine q_if_ne (tgt := 19) C dX12_fails_4 (by decide) (fun c1 => ?_) (fun c1 => ?_)
  · replace hF := ife c1 hF
    refine q_iconst (v := 0) C dX12_fails_19 (by decide) ?_
    exact q_zret C hr hlk dX12_fails_20 (by decide) hF
  · replace hF := ift c1 hF
    refine q_aload_n C 0 dX12_fails_7 rfl rfl ?_
    refine q_iconst (v := 1) C dX12_fails_8 (by decide) ?_
    refine q_bipush (v := 8) C dX12_fails_9 (by decide) ?_
    refine q_iload_n C 2 dX12_fails_11 rfl rfl ?_
    refine q_imul C dX12_fails_12 ?_
    refine q_iadd C dX12_fails_13 ?_
    refine q_iload_n C 1 dX12_fails_14 rfl rfl ?_
    refine q_iadd C dX12_fails_15 ?_
    refine qs_11_9 C pi_249 tw_1062 dX12_fails_16 ?_
    refine q_iconst (v := 0) C dX12_fails_19 (by decide) ?_
    exact q_zret C hr hlk dX12_fails_20 (by decide) hF
-- X12_lastCell
def F_X12_lastCell (n : Nat) (σ : PS) : Option (Int32 × PS) := some ((((σ.1 255 1) * (σ.1 255 1)) - (1 : Int32)), σ)
theorem gm_X12_lastCell : gM "AskedCampModel" yX12_lastCell (Cond.code yX12_lastCell cX12_lastCell 1 (Option.some Jvm.ClassFile.FieldType.int)) 0 := ⟨by decide +kernel, tw_1264, tw_p40, tw_12, tw_1265⟩
set_option maxHeartbeats 4000000 in
set_option maxRecDepth 100000 in
theorem c_X12_lastCell (l : Launch) (D : va_G) (ad : Nat → Nat) (ca : Nat → ClassId) (kz : Nat → Nat) (hJ : pInj ad) (n : Nat) (σ : PS) (out : Int32 × PS) (hF : F_X12_lastCell n σ = some out) : Met l yX12_lastCell (Cond.code yX12_lastCell cX12_lastCell 1 (Option.some Jvm.ClassFile.FieldType.int) :: gw_tbl) { frames := 0, cells := 0, slots := 0, locals := 0 } (va_Pc [.ref (ad (249))] (pU D ad ca kz σ)) (pQi D ad ca out) 0 0 (pAD ad) := by
  refine q_entry (own := "AskedCampModel") hJ (by decide) rfl (Nat.le_of_ble_eq_true rfl) (fun p e s m below meth c C hr hlk => ?_)
  refine q_lv [(0, .ref (ad (249)))] rfl ?_
  rw [F_X12_lastCell] at hF
  refine q_aload_n C 0 dX12_lastCell_0 rfl rfl ?_
  refine qg_11_7 C pi_249 tw_1060 dX12_lastCell_1 ?_
  refine q_iconst (v := 1) C dX12_lastCell_4 (by decide) ?_
  refine q_ialdk (jn := 1) C pa_255 (vp_of (by decide)) rfl dX12_lastCell_5 ?_
  refine q_aload_n C 0 dX12_lastCell_6 rfl rfl ?_
  refine qg_11_7 C pi_249 tw_1060 dX12_lastCell_7 ?_
  refine q_iconst (v := 1) C dX12_lastCell_10 (by decide) ?_
  refine q_ialdk (jn := 1) C pa_255 (vp_of (by decide)) rfl dX12_lastCell_11 ?_
  refine q_imul C dX12_lastCell_12 ?_
  refine q_iconst (v := 1) C dX12_lastCell_13 (by decide) ?_
  refine q_isub C dX12_lastCell_14 ?_
  exact q_iret C hr hlk dX12_lastCell_15 hF
-- X12_isDigit
def F_X12_isDigit (n : Nat) (a1 : Int32) (σ : PS) : Option (Int32 × PS) := (if (σ.1 249 1) ≤ a1 then some ((0 : Int32), σ) else (if 0 ≤ a1 ∧ a1.toNatClampNeg < 400 then (if (σ.1 250 a1.toNatClampNeg) < (48 : Int32) then some ((0 : Int32), σ) else (if (57 : Int32) < (σ.1 250 a1.toNatClampNeg) then some ((0 : Int32), σ) else some ((1 : Int32), σ))) else none))
theorem gm_X12_isDigit : gM "AskedCampModel" yX12_isDigit (Cond.code yX12_isDigit cX12_isDigit 2 (Option.some Jvm.ClassFile.FieldType.boolean)) 1 := ⟨by decide +kernel, tw_1253, tw_p38, tw_12, tw_1254⟩
set_option maxHeartbeats 4000000 in
set_option maxRecDepth 100000 in
theorem c_X12_isDigit (l : Launch) (D : va_G) (ad : Nat → Nat) (ca : Nat → ClassId) (kz : Nat → Nat) (hJ : pInj ad) (n : Nat) (a1 : Int32) (σ : PS) (out : Int32 × PS) (hF : F_X12_isDigit n a1 σ = some out) : Met l yX12_isDigit (Cond.code yX12_isDigit cX12_isDigit 2 (Option.some Jvm.ClassFile.FieldType.boolean) :: gw_tbl) { frames := 0, cells := 0, slots := 0, locals := 0 } (va_Pc [.ref (ad (249)), .int a1] (pU D ad ca kz σ)) (pQi D ad ca out) 0 0 (pAD ad) := by
  refine q_entry (own := "AskedCampModel") hJ (by decide) rfl (Nat.le_of_ble_eq_true rfl) (fun p e s m below meth c C hr hlk => ?_)
  refine q_lv [(0, .ref (ad (249))), (1, .int a1)] rfl ?_
  rw [F_X12_isDigit] at hF
  refine q_iload_n C 1 dX12_isDigit_0 rfl rfl ?_
  refine q_aload_n C 0 dX12_isDigit_1 rfl rfl ?_
  refine qg_11_1 C pi_249 tw_1054 dX12_isDigit_2 ?_
  refine q_icmp_ge (tgt := 34) C dX12_isDigit_5 (by decide) (fun c1 => ?_) (fun c1 => ?_)
  · replace hF := ift c1 hF
    refine q_iconst (v := 0) C dX12_isDigit_34 (by decide) ?_
    exact q_zret C hr hlk dX12_isDigit_35 (by decide) hF
  · replace hF := ife c1 hF
    refine q_aload_n C 0 dX12_isDigit_8 rfl rfl ?_
    refine qg_11_0 C pi_249 tw_1053 dX12_isDigit_9 ?_
    refine q_iload_n C 1 dX12_isDigit_12 rfl rfl ?_
    obtain ⟨g2, hF⟩ := grd hF
    refine q_bald C pa_250 (vp_of g2) dX12_isDigit_13 ?_
    refine q_bipush (v := 48) C dX12_isDigit_14 (by decide) ?_
    refine q_icmp_lt (tgt := 34) C dX12_isDigit_16 (by decide) (fun c3 => ?_) (fun c3 => ?_)
    · replace hF := ift c3 hF
      refine q_iconst (v := 0) C dX12_isDigit_34 (by decide) ?_
      exact q_zret C hr hlk dX12_isDigit_35 (by decide) hF
    · replace hF := ife c3 hF
      refine q_aload_n C 0 dX12_isDigit_19 rfl rfl ?_
      refine qg_11_0 C pi_249 tw_1053 dX12_isDigit_20 ?_
      refine q_iload_n C 1 dX12_isDigit_23 rfl rfl ?_
      refine q_bald C pa_250 (vp_of g2) dX12_isDigit_24 ?_
      refine q_bipush (v := 57) C dX12_isDigit_25 (by decide) ?_
      refine q_icmp_gt (tgt := 34) C dX12_isDigit_27 (by decide) (fun c4 => ?_) (fun c4 => ?_)
      · replace hF := ift c4 hF
        refine q_iconst (v := 0) C dX12_isDigit_34 (by decide) ?_
        exact q_zret C hr hlk dX12_isDigit_35 (by decide) hF
      · replace hF := ife c4 hF
        refine q_iconst (v := 1) C dX12_isDigit_30 (by decide) ?_
        refine q_goto (tgt := 35) C dX12_isDigit_31 (by decide) ?_
        exact q_zret C hr hlk dX12_isDigit_35 (by decide) hF
-- X12_see
def L_X12_see_0 (n : Nat) : Nat → PS → Option (PS)
  | 0, _ => none
  | k + 1, σ => (if (σ.1 249 1) ≤ (σ.1 249 8) then some σ else (if 0 ≤ (σ.1 249 8) ∧ (σ.1 249 8).toNatClampNeg < 400 then (if (σ.1 250 ((σ.1 249 8).toNatClampNeg)) = (32 : Int32) then L_X12_see_0 n k (psI σ 249 8 ((σ.1 249 8) + (1 : Int32))) else some σ) else none))
def F_X12_see (n : Nat) (σ : PS) : Option (Int32 × PS) := (L_X12_see_0 n n σ).bind (fun o4 => (if (o4.1 249 1) ≤ (o4.1 249 8) then some ((-1 : Int32), o4) else (if 0 ≤ (o4.1 249 8) ∧ (o4.1 249 8).toNatClampNeg < 400 then some (((o4.1 250 ((o4.1 249 8).toNatClampNeg)) &&& (255 : Int32)), o4) else none)))
theorem gm_X12_see : gM "AskedCampModel" yX12_see (Cond.code yX12_see cX12_see 1 (Option.some Jvm.ClassFile.FieldType.int)) 0 := ⟨by decide +kernel, tw_1209, tw_p28, tw_12, tw_1210⟩
set_option maxHeartbeats 4000000 in
set_option maxRecDepth 100000 in
theorem l_X12_see_0 {p : Program} {l : Launch} {e : Env} {R : Room} {s : State} {m : MethodId} {args : Array Value} {below : List Frame} {meth : Method} {c : Code} {D : va_G} {ad : Nat → Nat} {ca : Nat → ClassId} {kz : Nat → Nat} {Q : State → Prop} (C : pC p s m args c cX12_see "AskedCampModel" 1 D ad ca kz) (hR : 0 ≤ R.frames ∧ 0 ≤ R.locals) {n : Nat} (o : PS) (hx0 : PW p l e R s m args below meth c 1 D ad ca 0 0 Q (o) 38 [(0, .ref (ad (249)))] []) : ∀ (k : Nat) (σ : PS), L_X12_see_0 n k σ = some o → PW p l e R s m args below meth c 1 D ad ca 0 0 Q σ 0 [(0, .ref (ad (249)))] [] := by
  intro k
  induction k with
  | zero => intro σ hF; exact nomatch (show (none : Option (PS)) = some o from hF)
  | succ k ih =>
    intro σ hF
    rw [L_X12_see_0] at hF
    refine q_aload_n C 0 dX12_see_0 rfl rfl ?_
    refine qg_11_8 C pi_249 tw_1061 dX12_see_1 ?_
    refine q_aload_n C 0 dX12_see_4 rfl rfl ?_
    refine qg_11_1 C pi_249 tw_1054 dX12_see_5 ?_
    refine q_icmp_ge (tgt := 38) C dX12_see_8 (by decide) (fun c1 => ?_) (fun c1 => ?_)
    · replace hF := ift c1 hF
      cases hF
      refine q_sub [0] rfl ?_
      exact hx0
    · replace hF := ife c1 hF
      refine q_aload_n C 0 dX12_see_11 rfl rfl ?_
      refine qg_11_0 C pi_249 tw_1053 dX12_see_12 ?_
      refine q_aload_n C 0 dX12_see_15 rfl rfl ?_
      refine qg_11_8 C pi_249 tw_1061 dX12_see_16 ?_
      obtain ⟨g2, hF⟩ := grd hF
      refine q_bald C pa_250 (vp_of g2) dX12_see_19 ?_
      refine q_bipush (v := 32) C dX12_see_20 (by decide) ?_
      refine q_icmp_ne (tgt := 38) C dX12_see_22 (by decide) (fun c3 => ?_) (fun c3 => ?_)
      · replace hF := ife c3 hF
        cases hF
        refine q_sub [0] rfl ?_
        exact hx0
      · replace hF := ift c3 hF
        refine q_aload_n C 0 dX12_see_25 rfl rfl ?_
        refine q_dup C dX12_see_26 rfl ?_
        refine qg_11_8 C pi_249 tw_1061 dX12_see_27 ?_
        refine q_iconst (v := 1) C dX12_see_30 (by decide) ?_
        refine q_iadd C dX12_see_31 ?_
        refine qs_11_8 C pi_249 tw_1061 dX12_see_32 ?_
        refine q_goto (tgt := 0) C dX12_see_35 (by decide) ?_
        refine q_sub [0] rfl ?_
        exact ih _ hF
set_option maxHeartbeats 4000000 in
set_option maxRecDepth 100000 in
theorem c_X12_see (l : Launch) (D : va_G) (ad : Nat → Nat) (ca : Nat → ClassId) (kz : Nat → Nat) (hJ : pInj ad) (n : Nat) (σ : PS) (out : Int32 × PS) (hF : F_X12_see n σ = some out) : Met l yX12_see (Cond.code yX12_see cX12_see 1 (Option.some Jvm.ClassFile.FieldType.int) :: gw_tbl) { frames := 0, cells := 0, slots := 0, locals := 0 } (va_Pc [.ref (ad (249))] (pU D ad ca kz σ)) (pQi D ad ca out) 0 0 (pAD ad) := by
  refine q_entry (own := "AskedCampModel") hJ (by decide) rfl (Nat.le_of_ble_eq_true rfl) (fun p e s m below meth c C hr hlk => ?_)
  refine q_lv [(0, .ref (ad (249)))] rfl ?_
  rw [F_X12_see] at hF
  obtain ⟨o4, h5, hF⟩ := bnd hF
  try dsimp only at hF
  refine q_sub [0] rfl ?_
  refine l_X12_see_0 C ⟨Nat.le_of_ble_eq_true rfl, Nat.le_of_ble_eq_true rfl⟩ o4 ?_ n _ h5
  refine q_aload_n C 0 dX12_see_38 rfl rfl ?_
  refine qg_11_8 C pi_249 tw_1061 dX12_see_39 ?_
  refine q_aload_n C 0 dX12_see_42 rfl rfl ?_
  refine qg_11_1 C pi_249 tw_1054 dX12_see_43 ?_
  refine q_icmp_ge (tgt := 65) C dX12_see_46 (by decide) (fun c6 => ?_) (fun c6 => ?_)
  · replace hF := ift c6 hF
    refine q_iconst (v := -1) C dX12_see_65 (by decide) ?_
    exact q_iret C hr hlk dX12_see_66 hF
  · replace hF := ife c6 hF
    refine q_aload_n C 0 dX12_see_49 rfl rfl ?_
    refine qg_11_0 C pi_249 tw_1053 dX12_see_50 ?_
    refine q_aload_n C 0 dX12_see_53 rfl rfl ?_
    refine qg_11_8 C pi_249 tw_1061 dX12_see_54 ?_
    obtain ⟨g7, hF⟩ := grd hF
    refine q_bald C pa_250 (vp_of g7) dX12_see_57 ?_
    refine q_sipush (v := 255) C dX12_see_58 (by decide) ?_
    refine q_iand C dX12_see_61 ?_
    refine q_goto (tgt := 66) C dX12_see_62 (by decide) ?_
    exact q_iret C hr hlk dX12_see_66 hF
-- X12_numberHere
def L_X12_numberHere_34 (n : Nat) : Nat → Int32 → Int32 → Int32 → Int32 → PS → Option (Int32 × Int32 × Int32 × Int32 × PS)
  | 0, _, _, _, _, _ => none
  | k + 1, x1, x2, x3, x4, σ => (F_X12_isDigit n (σ.1 249 8) σ).bind (fun q6 => (if q6.1 = 0 then some (x1, x2, x3, x4, q6.2) else (if (5 : Int32) ≤ ((q6.2.1 249 8) - x3) then L_X12_numberHere_34 n k x1 x2 x3 x4 (psI q6.2 249 8 ((q6.2.1 249 8) + (1 : Int32))) else (if 0 ≤ (q6.2.1 249 8) ∧ (q6.2.1 249 8).toNatClampNeg < 400 then L_X12_numberHere_34 n k x1 x2 x3 ((((10 : Int32) * x4) + (q6.2.1 250 ((q6.2.1 249 8).toNatClampNeg))) - (48 : Int32)) (psI q6.2 249 8 ((q6.2.1 249 8) + (1 : Int32))) else none))))
def F_X12_numberHere (n : Nat) (a1 : Int32) (a2 : Int32) (σ : PS) : Option (Int32 × PS) := (F_X12_see n σ).bind (fun q1 => (F_X12_isDigit n (q1.2.1 249 8) q1.2).bind (fun q3 => (if q3.1 = 0 then (F_X12_fails n (0 : Int32) (q3.2.1 249 8) q3.2).bind (fun q23 => (if q23.1 = 0 ∨ q23.1 = 1 then some (q23.1, q23.2) else none)) else (L_X12_numberHere_34 n n a1 a2 (q3.2.1 249 8) (0 : Int32) q3.2).bind (fun o11 => (if (5 : Int32) < (((psI o11.2.2.2.2 249 10 o11.2.2.2.1).1 249 8) - o11.2.2.1) then (F_X12_fails n (1 : Int32) o11.2.2.1 (psI o11.2.2.2.2 249 10 o11.2.2.2.1)).bind (fun q14 => (if q14.1 = 0 then some ((0 : Int32), q14.2) else some ((1 : Int32), q14.2))) else (F_X12_in n o11.2.2.2.1.toInt64 o11.1.toInt64 o11.2.1.toInt64 (psI o11.2.2.2.2 249 10 o11.2.2.2.1)).bind (fun q17 => (if q17.1 = 0 then (F_X12_fails n (1 : Int32) o11.2.2.1 q17.2).bind (fun q20 => (if q20.1 = 0 then some ((0 : Int32), q20.2) else some ((1 : Int32), q20.2))) else some ((1 : Int32), q17.2))))))))
theorem gm_X12_numberHere : gM "AskedCampModel" yX12_numberHere (Cond.code yX12_numberHere cX12_numberHere 5 (Option.some Jvm.ClassFile.FieldType.boolean)) 2 := ⟨by decide +kernel, tw_1249, tw_p37, tw_12, tw_1250⟩
set_option maxHeartbeats 4000000 in
set_option maxRecDepth 100000 in
theorem l_X12_numberHere_34 {p : Program} {l : Launch} {e : Env} {R : Room} {s : State} {m : MethodId} {args : Array Value} {below : List Frame} {meth : Method} {c : Code} {D : va_G} {ad : Nat → Nat} {ca : Nat → ClassId} {kz : Nat → Nat} {Q : State → Prop} (C : pC p s m args c cX12_numberHere "AskedCampModel" 5 D ad ca kz) (hR : 1 ≤ R.frames ∧ 25 ≤ R.locals) {n : Nat} (o : Int32 × Int32 × Int32 × Int32 × PS) (hx0 : PW p l e R s m args below meth c 5 D ad ca 0 0 Q (o.2.2.2.2) 88 [(0, .ref (ad (249))), (1, .int o.1), (2, .int o.2.1), (3, .int o.2.2.1), (4, .int o.2.2.2.1)] []) : ∀ (k : Nat) (x1 : Int32) (x2 : Int32) (x3 : Int32) (x4 : Int32) (σ : PS), L_X12_numberHere_34 n k x1 x2 x3 x4 σ = some o → PW p l e R s m args below meth c 5 D ad ca 0 0 Q σ 34 [(0, .ref (ad (249))), (1, .int x1), (2, .int x2), (3, .int x3), (4, .int x4)] [] := by
  intro k
  induction k with
  | zero => intro x1 x2 x3 x4 σ hF; exact nomatch (show (none : Option (Int32 × Int32 × Int32 × Int32 × PS)) = some o from hF)
  | succ k ih =>
    intro x1 x2 x3 x4 σ hF
    rw [L_X12_numberHere_34] at hF
    refine q_aload_n C 0 dX12_numberHere_34 rfl rfl ?_
    refine q_aload_n C 0 dX12_numberHere_35 rfl rfl ?_
    refine qg_11_8 C pi_249 tw_1061 dX12_numberHere_36 ?_
    obtain ⟨q6, h7, hF⟩ := bnd hF
    try dsimp only at hF
    refine q_callVi C [.int (σ.1 249 8)] (c_X12_isDigit l D ad ca kz C.2.2.2.2.2.2.1 _ _ _ _ h7) tw_1251 gm_X12_isDigit pi_249.1 (pe_11 pi_249.2) rfl ⟨rfl, rfl⟩ ⟨Nat.le_trans (Nat.le_of_ble_eq_true rfl) hR.1, Nat.le_trans (Nat.le_of_ble_eq_true rfl) hR.2⟩ rfl (Nat.le_of_ble_eq_true rfl) dX12_numberHere_39 q00 ?_
    refine q_if_eq (tgt := 88) C dX12_numberHere_42 (by decide) (fun c8 => ?_) (fun c8 => ?_)
    · replace hF := ift c8 hF
      cases hF
      refine q_sub [0, 1, 2, 3, 4] rfl ?_
      exact hx0
    · replace hF := ife c8 hF
      refine q_aload_n C 0 dX12_numberHere_45 rfl rfl ?_
      refine qg_11_8 C pi_249 tw_1061 dX12_numberHere_46 ?_
      refine q_iload_n C 3 dX12_numberHere_49 rfl rfl ?_
      refine q_isub C dX12_numberHere_50 ?_
      refine q_iconst (v := 5) C dX12_numberHere_51 (by decide) ?_
      refine q_icmp_ge (tgt := 75) C dX12_numberHere_52 (by decide) (fun c9 => ?_) (fun c9 => ?_)
      · replace hF := ift c9 hF
        refine q_aload_n C 0 dX12_numberHere_75 rfl rfl ?_
        refine q_dup C dX12_numberHere_76 rfl ?_
        refine qg_11_8 C pi_249 tw_1061 dX12_numberHere_77 ?_
        refine q_iconst (v := 1) C dX12_numberHere_80 (by decide) ?_
        refine q_iadd C dX12_numberHere_81 ?_
        refine qs_11_8 C pi_249 tw_1061 dX12_numberHere_82 ?_
        refine q_goto (tgt := 34) C dX12_numberHere_85 (by decide) ?_
        refine q_sub [0, 1, 2, 3, 4] rfl ?_
        exact ih _ _ _ _ _ hF
      · replace hF := ife c9 hF
        refine q_bipush (v := 10) C dX12_numberHere_55 (by decide) ?_
        refine q_iload C 4 dX12_numberHere_57 rfl ?_
        refine q_imul C dX12_numberHere_59 ?_
        refine q_aload_n C 0 dX12_numberHere_60 rfl rfl ?_
        refine qg_11_0 C pi_249 tw_1053 dX12_numberHere_61 ?_
        refine q_aload_n C 0 dX12_numberHere_64 rfl rfl ?_
        refine qg_11_8 C pi_249 tw_1061 dX12_numberHere_65 ?_
        obtain ⟨g10, hF⟩ := grd hF
        refine q_bald C pa_250 (vp_of g10) dX12_numberHere_68 ?_
        refine q_iadd C dX12_numberHere_69 ?_
        refine q_bipush (v := 48) C dX12_numberHere_70 (by decide) ?_
        refine q_isub C dX12_numberHere_72 ?_
        refine q_istore C [(4, .int ((((10 : Int32) * x4) + (q6.2.1 250 ((q6.2.1 249 8).toNatClampNeg))) - (48 : Int32))), (0, .ref (ad (249))), (1, .int x1), (2, .int x2), (3, .int x3)] dX12_numberHere_73 (by decide) rfl ?_
        refine q_aload_n C 1 dX12_numberHere_75 rfl rfl ?_
        refine q_dup C dX12_numberHere_76 rfl ?_
        refine qg_11_8 C pi_249 tw_1061 dX12_numberHere_77 ?_
        refine q_iconst (v := 1) C dX12_numberHere_80 (by decide) ?_
        refine q_iadd C dX12_numberHere_81 ?_
        refine qs_11_8 C pi_249 tw_1061 dX12_numberHere_82 ?_
        refine q_goto (tgt := 34) C dX12_numberHere_85 (by decide) ?_
        refine q_sub [1, 2, 3, 4, 0] rfl ?_
        exact ih _ _ _ _ _ hF
set_option maxHeartbeats 4000000 in
set_option maxRecDepth 100000 in
theorem c_X12_numberHere (l : Launch) (D : va_G) (ad : Nat → Nat) (ca : Nat → ClassId) (kz : Nat → Nat) (hJ : pInj ad) (n : Nat) (a1 : Int32) (a2 : Int32) (σ : PS) (out : Int32 × PS) (hF : F_X12_numberHere n a1 a2 σ = some out) : Met l yX12_numberHere (Cond.code yX12_numberHere cX12_numberHere 5 (Option.some Jvm.ClassFile.FieldType.boolean) :: gw_tbl) { frames := 1, cells := 0, slots := 0, locals := 25 } (va_Pc [.ref (ad (249)), .int a1, .int a2] (pU D ad ca kz σ)) (pQi D ad ca out) 0 0 (pAD ad) := by
  refine q_entry (own := "AskedCampModel") hJ (by decide) rfl (Nat.le_of_ble_eq_true rfl) (fun p e s m below meth c C hr hlk => ?_)
  refine q_lv [(0, .ref (ad (249))), (1, .int a1), (2, .int a2)] rfl ?_
  rw [F_X12_numberHere] at hF
  refine q_aload_n C 0 dX12_numberHere_0 rfl rfl ?_
  obtain ⟨q1, h2, hF⟩ := bnd hF
  try dsimp only at hF
  refine q_callVi C [] (c_X12_see l D ad ca kz C.2.2.2.2.2.2.1 _ _ _ h2) tw_1207 gm_X12_see pi_249.1 (pe_11 pi_249.2) rfl ⟨rfl, rfl⟩ ⟨Nat.le_of_ble_eq_true rfl, Nat.le_of_ble_eq_true rfl⟩ rfl (Nat.le_of_ble_eq_true rfl) dX12_numberHere_1 q00 ?_
  refine q_pop C dX12_numberHere_4 rfl ?_
  refine q_aload_n C 0 dX12_numberHere_5 rfl rfl ?_
  refine q_aload_n C 0 dX12_numberHere_6 rfl rfl ?_
  refine qg_11_8 C pi_249 tw_1061 dX12_numberHere_7 ?_
  obtain ⟨q3, h4, hF⟩ := bnd hF
  try dsimp only at hF
  refine q_callVi C [.int (q1.2.1 249 8)] (c_X12_isDigit l D ad ca kz C.2.2.2.2.2.2.1 _ _ _ _ h4) tw_1251 gm_X12_isDigit pi_249.1 (pe_11 pi_249.2) rfl ⟨rfl, rfl⟩ ⟨Nat.le_of_ble_eq_true rfl, Nat.le_of_ble_eq_true rfl⟩ rfl (Nat.le_of_ble_eq_true rfl) dX12_numberHere_10 q00 ?_
  refine q_if_ne (tgt := 26) C dX12_numberHere_13 (by decide) (fun c5 => ?_) (fun c5 => ?_)
  · replace hF := ife c5 hF
    refine q_aload_n C 0 dX12_numberHere_26 rfl rfl ?_
    refine qg_11_8 C pi_249 tw_1061 dX12_numberHere_27 ?_
    refine q_istore_n C [(3, .int (q3.2.1 249 8)), (0, .ref (ad (249))), (1, .int a1), (2, .int a2)] dX12_numberHere_30 rfl (by decide) rfl ?_
    refine q_iconst (v := 0) C dX12_numberHere_31 (by decide) ?_
    refine q_istore C [(4, .int 0), (3, .int (q3.2.1 249 8)), (0, .ref (ad (249))), (1, .int a1), (2, .int a2)] dX12_numberHere_32 (by decide) rfl ?_
    obtain ⟨o11, h12, hF⟩ := bnd hF
    try dsimp only at hF
    refine q_sub [2, 3, 4, 1, 0] rfl ?_
    refine l_X12_numberHere_34 C ⟨Nat.le_of_ble_eq_true rfl, Nat.le_of_ble_eq_true rfl⟩ o11 ?_ n _ _ _ _ _ h12
    refine q_aload_n C 0 dX12_numberHere_88 rfl rfl ?_
    refine q_iload C 4 dX12_numberHere_89 rfl ?_
    refine qs_11_10 C pi_249 tw_1063 dX12_numberHere_91 ?_
    refine q_aload_n C 0 dX12_numberHere_94 rfl rfl ?_
    refine qg_11_8 C pi_249 tw_1061 dX12_numberHere_95 ?_
    refine q_iload_n C 3 dX12_numberHere_98 rfl rfl ?_
    refine q_isub C dX12_numberHere_99 ?_
    refine q_iconst (v := 5) C dX12_numberHere_100 (by decide) ?_
    refine q_icmp_gt (tgt := 117) C dX12_numberHere_101 (by decide) (fun c13 => ?_) (fun c13 => ?_)
    · replace hF := ift c13 hF
      refine q_aload_n C 0 dX12_numberHere_117 rfl rfl ?_
      refine q_iconst (v := 1) C dX12_numberHere_118 (by decide) ?_
      refine q_iload_n C 3 dX12_numberHere_119 rfl rfl ?_
      obtain ⟨q14, h15, hF⟩ := bnd hF
      try dsimp only at hF
      refine q_callVi C [.int 1, .int o11.2.2.1] (c_X12_fails l D ad ca kz C.2.2.2.2.2.2.1 _ _ _ _ _ h15) tw_1227 gm_X12_fails pi_249.1 (pe_11 pi_249.2) rfl ⟨rfl, rfl⟩ ⟨Nat.le_of_ble_eq_true rfl, Nat.le_of_ble_eq_true rfl⟩ rfl (Nat.le_of_ble_eq_true rfl) dX12_numberHere_120 q00 ?_
      refine q_if_eq (tgt := 130) C dX12_numberHere_123 (by decide) (fun c16 => ?_) (fun c16 => ?_)
      · replace hF := ift c16 hF
        refine q_iconst (v := 0) C dX12_numberHere_130 (by decide) ?_
        exact q_zret C hr hlk dX12_numberHere_131 (by decide) hF
      · replace hF := ife c16 hF
        refine q_iconst (v := 1) C dX12_numberHere_126 (by decide) ?_
        refine q_goto (tgt := 131) C dX12_numberHere_127 (by decide) ?_
        exact q_zret C hr hlk dX12_numberHere_131 (by decide) hF
    · replace hF := ife c13 hF
      refine q_iload C 4 dX12_numberHere_104 rfl ?_
      refine q_i2l C dX12_numberHere_106 ?_
      refine q_iload_n C 1 dX12_numberHere_107 rfl rfl ?_
      refine q_i2l C dX12_numberHere_108 ?_
      refine q_iload_n C 2 dX12_numberHere_109 rfl rfl ?_
      refine q_i2l C dX12_numberHere_110 ?_
      obtain ⟨q17, h18, hF⟩ := bnd hF
      try dsimp only at hF
      refine q_callSi C [.long o11.2.2.2.1.toInt64, .long o11.1.toInt64, .long o11.2.1.toInt64] (c_X12_in l D ad ca kz C.2.2.2.2.2.2.1 _ _ _ _ _ _ h18) tw_1255 gm_X12_in ⟨rfl, rfl⟩ ⟨Nat.le_of_ble_eq_true rfl, Nat.le_of_ble_eq_true rfl⟩ rfl (Nat.le_of_ble_eq_true rfl) dX12_numberHere_111 q00 ?_
      refine q_if_ne (tgt := 126) C dX12_numberHere_114 (by decide) (fun c19 => ?_) (fun c19 => ?_)
      · replace hF := ife c19 hF
        refine q_iconst (v := 1) C dX12_numberHere_126 (by decide) ?_
        refine q_goto (tgt := 131) C dX12_numberHere_127 (by decide) ?_
        exact q_zret C hr hlk dX12_numberHere_131 (by decide) hF
      · replace hF := ift c19 hF
        refine q_aload_n C 0 dX12_numberHere_117 rfl rfl ?_
        refine q_iconst (v := 1) C dX12_numberHere_118 (by decide) ?_
        refine q_iload_n C 3 dX12_numberHere_119 rfl rfl ?_
        obtain ⟨q20, h21, hF⟩ := bnd hF
        try dsimp only at hF
        refine q_callVi C [.int 1, .int o11.2.2.1] (c_X12_fails l D ad ca kz C.2.2.2.2.2.2.1 _ _ _ _ _ h21) tw_1227 gm_X12_fails pi_249.1 (pe_11 pi_249.2) rfl ⟨rfl, rfl⟩ ⟨Nat.le_of_ble_eq_true rfl, Nat.le_of_ble_eq_true rfl⟩ rfl (Nat.le_of_ble_eq_true rfl) dX12_numberHere_120 q00 ?_
        refine q_if_eq (tgt := 130) C dX12_numberHere_123 (by decide) (fun c22 => ?_) (fun c22 => ?_)
        · replace hF := ift c22 hF
          refine q_iconst (v := 0) C dX12_numberHere_130 (by decide) ?_
          exact q_zret C hr hlk dX12_numberHere_131 (by decide) hF
        · replace hF := ife c22 hF
          refine q_iconst (v := 1) C dX12_numberHere_126 (by decide) ?_
          refine q_goto (tgt := 131) C dX12_numberHere_127 (by decide) ?_
          exact q_zret C hr hlk dX12_numberHere_131 (by decide) hF
  · replace hF := ift c5 hF
    refine q_aload_n C 0 dX12_numberHere_16 rfl rfl ?_
    refine q_iconst (v := 0) C dX12_numberHere_17 (by decide) ?_
    refine q_aload_n C 0 dX12_numberHere_18 rfl rfl ?_
    refine qg_11_8 C pi_249 tw_1061 dX12_numberHere_19 ?_
    obtain ⟨q23, h24, hF⟩ := bnd hF
    try dsimp only at hF
    refine q_callVi C [.int 0, .int (q3.2.1 249 8)] (c_X12_fails l D ad ca kz C.2.2.2.2.2.2.1 _ _ _ _ _ h24) tw_1227 gm_X12_fails pi_249.1 (pe_11 pi_249.2) rfl ⟨rfl, rfl⟩ ⟨Nat.le_of_ble_eq_true rfl, Nat.le_of_ble_eq_true rfl⟩ rfl (Nat.le_of_ble_eq_true rfl) dX12_numberHere_22 q00 ?_
    obtain ⟨g25, hF⟩ := grd hF
    exact q_zret C hr hlk dX12_numberHere_25 g25 hF
-- X12_isLetter
def F_X12_isLetter (n : Nat) (a1 : Int32) (σ : PS) : Option (Int32 × PS) := (if (σ.1 249 1) ≤ a1 then some ((0 : Int32), σ) else (if 0 ≤ a1 ∧ a1.toNatClampNeg < 400 then (if (σ.1 250 a1.toNatClampNeg) < (97 : Int32) then some ((0 : Int32), σ) else (if (122 : Int32) < (σ.1 250 a1.toNatClampNeg) then some ((0 : Int32), σ) else some ((1 : Int32), σ))) else none))
theorem gm_X12_isLetter : gM "AskedCampModel" yX12_isLetter (Cond.code yX12_isLetter cX12_isLetter 2 (Option.some Jvm.ClassFile.FieldType.boolean)) 1 := ⟨by decide +kernel, tw_1222, tw_p31, tw_12, tw_1223⟩
set_option maxHeartbeats 4000000 in
set_option maxRecDepth 100000 in
theorem c_X12_isLetter (l : Launch) (D : va_G) (ad : Nat → Nat) (ca : Nat → ClassId) (kz : Nat → Nat) (hJ : pInj ad) (n : Nat) (a1 : Int32) (σ : PS) (out : Int32 × PS) (hF : F_X12_isLetter n a1 σ = some out) : Met l yX12_isLetter (Cond.code yX12_isLetter cX12_isLetter 2 (Option.some Jvm.ClassFile.FieldType.boolean) :: gw_tbl) { frames := 0, cells := 0, slots := 0, locals := 0 } (va_Pc [.ref (ad (249)), .int a1] (pU D ad ca kz σ)) (pQi D ad ca out) 0 0 (pAD ad) := by
  refine q_entry (own := "AskedCampModel") hJ (by decide) rfl (Nat.le_of_ble_eq_true rfl) (fun p e s m below meth c C hr hlk => ?_)
  refine q_lv [(0, .ref (ad (249))), (1, .int a1)] rfl ?_
  rw [F_X12_isLetter] at hF
  refine q_iload_n C 1 dX12_isLetter_0 rfl rfl ?_
  refine q_aload_n C 0 dX12_isLetter_1 rfl rfl ?_
  refine qg_11_1 C pi_249 tw_1054 dX12_isLetter_2 ?_
  refine q_icmp_ge (tgt := 34) C dX12_isLetter_5 (by decide) (fun c1 => ?_) (fun c1 => ?_)
  · replace hF := ift c1 hF
    refine q_iconst (v := 0) C dX12_isLetter_34 (by decide) ?_
    exact q_zret C hr hlk dX12_isLetter_35 (by decide) hF
  · replace hF := ife c1 hF
    refine q_aload_n C 0 dX12_isLetter_8 rfl rfl ?_
    refine qg_11_0 C pi_249 tw_1053 dX12_isLetter_9 ?_
    refine q_iload_n C 1 dX12_isLetter_12 rfl rfl ?_
    obtain ⟨g2, hF⟩ := grd hF
    refine q_bald C pa_250 (vp_of g2) dX12_isLetter_13 ?_
    refine q_bipush (v := 97) C dX12_isLetter_14 (by decide) ?_
    refine q_icmp_lt (tgt := 34) C dX12_isLetter_16 (by decide) (fun c3 => ?_) (fun c3 => ?_)
    · replace hF := ift c3 hF
      refine q_iconst (v := 0) C dX12_isLetter_34 (by decide) ?_
      exact q_zret C hr hlk dX12_isLetter_35 (by decide) hF
    · replace hF := ife c3 hF
      refine q_aload_n C 0 dX12_isLetter_19 rfl rfl ?_
      refine qg_11_0 C pi_249 tw_1053 dX12_isLetter_20 ?_
      refine q_iload_n C 1 dX12_isLetter_23 rfl rfl ?_
      refine q_bald C pa_250 (vp_of g2) dX12_isLetter_24 ?_
      refine q_bipush (v := 122) C dX12_isLetter_25 (by decide) ?_
      refine q_icmp_gt (tgt := 34) C dX12_isLetter_27 (by decide) (fun c4 => ?_) (fun c4 => ?_)
      · replace hF := ift c4 hF
        refine q_iconst (v := 0) C dX12_isLetter_34 (by decide) ?_
        exact q_zret C hr hlk dX12_isLetter_35 (by decide) hF
      · replace hF := ife c4 hF
        refine q_iconst (v := 1) C dX12_isLetter_30 (by decide) ?_
        refine q_goto (tgt := 35) C dX12_isLetter_31 (by decide) ?_
        exact q_zret C hr hlk dX12_isLetter_35 (by decide) hF
-- X12_passWord
def L_X12_passWord_0 (n : Nat) : Nat → PS → Option (PS)
  | 0, _ => none
  | k + 1, σ => (F_X12_isLetter n (σ.1 249 8) σ).bind (fun q1 => (if q1.1 = 0 then some q1.2 else L_X12_passWord_0 n k (psI q1.2 249 8 ((q1.2.1 249 8) + (1 : Int32)))))
def F_X12_passWord (n : Nat) (σ : PS) : Option (PS) := (L_X12_passWord_0 n n σ).bind (fun o4 => some o4)
theorem gm_X12_passWord : gM "AskedCampModel" yX12_passWord (Cond.code yX12_passWord cX12_passWord 1 (Option.none : Option Jvm.ClassFile.FieldType)) 0 := ⟨by decide +kernel, tw_1241, tw_p35, tw_12, tw_1242⟩
set_option maxHeartbeats 4000000 in
set_option maxRecDepth 100000 in
theorem l_X12_passWord_0 {p : Program} {l : Launch} {e : Env} {R : Room} {s : State} {m : MethodId} {args : Array Value} {below : List Frame} {meth : Method} {c : Code} {D : va_G} {ad : Nat → Nat} {ca : Nat → ClassId} {kz : Nat → Nat} {Q : State → Prop} (C : pC p s m args c cX12_passWord "AskedCampModel" 1 D ad ca kz) (hR : 1 ≤ R.frames ∧ 21 ≤ R.locals) {n : Nat} (o : PS) (hx0 : PW p l e R s m args below meth c 1 D ad ca 0 0 Q (o) 24 [] []) : ∀ (k : Nat) (σ : PS), L_X12_passWord_0 n k σ = some o → PW p l e R s m args below meth c 1 D ad ca 0 0 Q σ 0 [(0, .ref (ad (249)))] [] := by
  intro k
  induction k with
  | zero => intro σ hF; exact nomatch (show (none : Option (PS)) = some o from hF)
  | succ k ih =>
    intro σ hF
    rw [L_X12_passWord_0] at hF
    refine q_aload_n C 0 dX12_passWord_0 rfl rfl ?_
    refine q_aload_n C 0 dX12_passWord_1 rfl rfl ?_
    refine qg_11_8 C pi_249 tw_1061 dX12_passWord_2 ?_
    obtain ⟨q1, h2, hF⟩ := bnd hF
    try dsimp only at hF
    refine q_callVi C [.int (σ.1 249 8)] (c_X12_isLetter l D ad ca kz C.2.2.2.2.2.2.1 _ _ _ _ h2) tw_1220 gm_X12_isLetter pi_249.1 (pe_11 pi_249.2) rfl ⟨rfl, rfl⟩ ⟨Nat.le_trans (Nat.le_of_ble_eq_true rfl) hR.1, Nat.le_trans (Nat.le_of_ble_eq_true rfl) hR.2⟩ rfl (Nat.le_of_ble_eq_true rfl) dX12_passWord_5 q00 ?_
    refine q_if_eq (tgt := 24) C dX12_passWord_8 (by decide) (fun c3 => ?_) (fun c3 => ?_)
    · replace hF := ift c3 hF
      cases hF
      refine q_sub [] rfl ?_
      exact hx0
    · replace hF := ife c3 hF
      refine q_aload_n C 0 dX12_passWord_11 rfl rfl ?_
      refine q_dup C dX12_passWord_12 rfl ?_
      refine qg_11_8 C pi_249 tw_1061 dX12_passWord_13 ?_
      refine q_iconst (v := 1) C dX12_passWord_16 (by decide) ?_
      refine q_iadd C dX12_passWord_17 ?_
      refine qs_11_8 C pi_249 tw_1061 dX12_passWord_18 ?_
      refine q_goto (tgt := 0) C dX12_passWord_21 (by decide) ?_
      refine q_sub [0] rfl ?_
      exact ih _ hF
set_option maxHeartbeats 4000000 in
set_option maxRecDepth 100000 in
theorem c_X12_passWord (l : Launch) (D : va_G) (ad : Nat → Nat) (ca : Nat → ClassId) (kz : Nat → Nat) (hJ : pInj ad) (n : Nat) (σ : PS) (out : PS) (hF : F_X12_passWord n σ = some out) : Met l yX12_passWord (Cond.code yX12_passWord cX12_passWord 1 (Option.none : Option Jvm.ClassFile.FieldType) :: gw_tbl) { frames := 1, cells := 0, slots := 0, locals := 21 } (va_Pc [.ref (ad (249))] (pU D ad ca kz σ)) (pQv D ad ca out) 0 0 (pAD ad) := by
  refine q_entry (own := "AskedCampModel") hJ (by decide) rfl (Nat.le_of_ble_eq_true rfl) (fun p e s m below meth c C hr hlk => ?_)
  refine q_lv [(0, .ref (ad (249)))] rfl ?_
  rw [F_X12_passWord] at hF
  obtain ⟨o4, h5, hF⟩ := bnd hF
  try dsimp only at hF
  refine q_sub [0] rfl ?_
  refine l_X12_passWord_0 C ⟨Nat.le_of_ble_eq_true rfl, Nat.le_of_ble_eq_true rfl⟩ o4 ?_ n _ h5
  exact q_vret C hr hlk dX12_passWord_24 hF
-- X12_isBushHere
def F_X12_isBushHere (n : Nat) (σ : PS) : Option (Int32 × PS) := (F_X12_passWord n σ).bind (fun q1 => (F_X12_lastCell n q1).bind (fun q3 => (F_X12_numberHere n (0 : Int32) q3.1 q3.2).bind (fun q5 => (if q5.1 = 0 then some ((0 : Int32), q5.2) else (if 0 ≤ ((122 : Int32) + (q5.2.1 249 10)) ∧ ((122 : Int32) + (q5.2.1 249 10)).toNatClampNeg < 158 then some ((1 : Int32), psI q5.2 255 (((122 : Int32) + (q5.2.1 249 10)).toNatClampNeg) (1 : Int32)) else none)))))
theorem gm_X12_isBushHere : gM "AskedCampModel" yX12_isBushHere (Cond.code yX12_isBushHere cX12_isBushHere 1 (Option.some Jvm.ClassFile.FieldType.boolean)) 0 := ⟨by decide +kernel, tw_1268, tw_p41, tw_12, tw_1269⟩
set_option maxHeartbeats 4000000 in
set_option maxRecDepth 100000 in
theorem c_X12_isBushHere (l : Launch) (D : va_G) (ad : Nat → Nat) (ca : Nat → ClassId) (kz : Nat → Nat) (hJ : pInj ad) (n : Nat) (σ : PS) (out : Int32 × PS) (hF : F_X12_isBushHere n σ = some out) : Met l yX12_isBushHere (Cond.code yX12_isBushHere cX12_isBushHere 1 (Option.some Jvm.ClassFile.FieldType.boolean) :: gw_tbl) { frames := 2, cells := 0, slots := 0, locals := 49 } (va_Pc [.ref (ad (249))] (pU D ad ca kz σ)) (pQi D ad ca out) 0 0 (pAD ad) := by
  refine q_entry (own := "AskedCampModel") hJ (by decide) rfl (Nat.le_of_ble_eq_true rfl) (fun p e s m below meth c C hr hlk => ?_)
  refine q_lv [(0, .ref (ad (249)))] rfl ?_
  rw [F_X12_isBushHere] at hF
  refine q_aload_n C 0 dX12_isBushHere_0 rfl rfl ?_
  obtain ⟨q1, h2, hF⟩ := bnd hF
  try dsimp only at hF
  refine q_callVv C [] (c_X12_passWord l D ad ca kz C.2.2.2.2.2.2.1 _ _ _ h2) tw_1239 gm_X12_passWord pi_249.1 (pe_11 pi_249.2) rfl ⟨rfl, rfl⟩ ⟨Nat.le_of_ble_eq_true rfl, Nat.le_of_ble_eq_true rfl⟩ rfl (Nat.le_of_ble_eq_true rfl) dX12_isBushHere_1 q00 ?_
  refine q_aload_n C 0 dX12_isBushHere_4 rfl rfl ?_
  refine q_iconst (v := 0) C dX12_isBushHere_5 (by decide) ?_
  refine q_aload_n C 0 dX12_isBushHere_6 rfl rfl ?_
  obtain ⟨q3, h4, hF⟩ := bnd hF
  try dsimp only at hF
  refine q_callVi C [] (c_X12_lastCell l D ad ca kz C.2.2.2.2.2.2.1 _ _ _ h4) tw_1262 gm_X12_lastCell pi_249.1 (pe_11 pi_249.2) rfl ⟨rfl, rfl⟩ ⟨Nat.le_of_ble_eq_true rfl, Nat.le_of_ble_eq_true rfl⟩ rfl (Nat.le_of_ble_eq_true rfl) dX12_isBushHere_7 q00 ?_
  obtain ⟨q5, h6, hF⟩ := bnd hF
  try dsimp only at hF
  refine q_callVi C [.int 0, .int q3.1] (c_X12_numberHere l D ad ca kz C.2.2.2.2.2.2.1 _ _ _ _ _ h6) tw_1247 gm_X12_numberHere pi_249.1 (pe_11 pi_249.2) rfl ⟨rfl, rfl⟩ ⟨Nat.le_of_ble_eq_true rfl, Nat.le_of_ble_eq_true rfl⟩ rfl (Nat.le_of_ble_eq_true rfl) dX12_isBushHere_10 q00 ?_
  refine q_if_ne (tgt := 18) C dX12_isBushHere_13 (by decide) (fun c7 => ?_) (fun c7 => ?_)
  · replace hF := ife c7 hF
    refine q_aload_n C 0 dX12_isBushHere_18 rfl rfl ?_
    refine qg_11_7 C pi_249 tw_1060 dX12_isBushHere_19 ?_
    refine q_bipush (v := 122) C dX12_isBushHere_22 (by decide) ?_
    refine q_aload_n C 0 dX12_isBushHere_24 rfl rfl ?_
    refine qg_11_10 C pi_249 tw_1063 dX12_isBushHere_25 ?_
    refine q_iadd C dX12_isBushHere_28 ?_
    refine q_iconst (v := 1) C dX12_isBushHere_29 (by decide) ?_
    obtain ⟨g8, hF⟩ := grd hF
    refine q_iast C pa_255 (vp_of g8) dX12_isBushHere_30 ?_
    refine q_iconst (v := 1) C dX12_isBushHere_31 (by decide) ?_
    exact q_zret C hr hlk dX12_isBushHere_32 (by decide) hF
  · replace hF := ift c7 hF
    refine q_iconst (v := 0) C dX12_isBushHere_16 (by decide) ?_
    exact q_zret C hr hlk dX12_isBushHere_17 (by decide) hF
-- X12_cellHere
def F_X12_cellHere (n : Nat) (a1 : Int32) (a2 : Int32) (a3 : Int32) (σ : PS) : Option (Int32 × PS) := (F_X12_numberHere n a2 a3 σ).bind (fun q1 => (if q1.1 = 0 then some ((0 : Int32), q1.2) else (if 0 ≤ a1 ∧ a1.toNatClampNeg < 158 then some ((1 : Int32), psI q1.2 255 a1.toNatClampNeg (q1.2.1 249 10)) else none)))
theorem gm_X12_cellHere : gM "AskedCampModel" yX12_cellHere (Cond.code yX12_cellHere cX12_cellHere 4 (Option.some Jvm.ClassFile.FieldType.boolean)) 3 := ⟨by decide +kernel, tw_1245, tw_p36, tw_12, tw_1246⟩
set_option maxHeartbeats 4000000 in
set_option maxRecDepth 100000 in
theorem c_X12_cellHere (l : Launch) (D : va_G) (ad : Nat → Nat) (ca : Nat → ClassId) (kz : Nat → Nat) (hJ : pInj ad) (n : Nat) (a1 : Int32) (a2 : Int32) (a3 : Int32) (σ : PS) (out : Int32 × PS) (hF : F_X12_cellHere n a1 a2 a3 σ = some out) : Met l yX12_cellHere (Cond.code yX12_cellHere cX12_cellHere 4 (Option.some Jvm.ClassFile.FieldType.boolean) :: gw_tbl) { frames := 2, cells := 0, slots := 0, locals := 49 } (va_Pc [.ref (ad (249)), .int a1, .int a2, .int a3] (pU D ad ca kz σ)) (pQi D ad ca out) 0 0 (pAD ad) := by
  refine q_entry (own := "AskedCampModel") hJ (by decide) rfl (Nat.le_of_ble_eq_true rfl) (fun p e s m below meth c C hr hlk => ?_)
  refine q_lv [(0, .ref (ad (249))), (1, .int a1), (2, .int a2), (3, .int a3)] rfl ?_
  rw [F_X12_cellHere] at hF
  refine q_aload_n C 0 dX12_cellHere_0 rfl rfl ?_
  refine q_iload_n C 2 dX12_cellHere_1 rfl rfl ?_
  refine q_iload_n C 3 dX12_cellHere_2 rfl rfl ?_
  obtain ⟨q1, h2, hF⟩ := bnd hF
  try dsimp only at hF
  refine q_callVi C [.int a2, .int a3] (c_X12_numberHere l D ad ca kz C.2.2.2.2.2.2.1 _ _ _ _ _ h2) tw_1247 gm_X12_numberHere pi_249.1 (pe_11 pi_249.2) rfl ⟨rfl, rfl⟩ ⟨Nat.le_of_ble_eq_true rfl, Nat.le_of_ble_eq_true rfl⟩ rfl (Nat.le_of_ble_eq_true rfl) dX12_cellHere_3 q00 ?_
  refine q_if_ne (tgt := 11) C dX12_cellHere_6 (by decide) (fun c3 => ?_) (fun c3 => ?_)
  · replace hF := ife c3 hF
    refine q_aload_n C 0 dX12_cellHere_11 rfl rfl ?_
    refine qg_11_7 C pi_249 tw_1060 dX12_cellHere_12 ?_
    refine q_iload_n C 1 dX12_cellHere_15 rfl rfl ?_
    refine q_aload_n C 0 dX12_cellHere_16 rfl rfl ?_
    refine qg_11_10 C pi_249 tw_1063 dX12_cellHere_17 ?_
    obtain ⟨g4, hF⟩ := grd hF
    refine q_iast C pa_255 (vp_of g4) dX12_cellHere_20 ?_
    refine q_iconst (v := 1) C dX12_cellHere_21 (by decide) ?_
    exact q_zret C hr hlk dX12_cellHere_22 (by decide) hF
  · replace hF := ift c3 hF
    refine q_iconst (v := 0) C dX12_cellHere_9 (by decide) ?_
    exact q_zret C hr hlk dX12_cellHere_10 (by decide) hF
-- X12_isCampHere
def F_X12_isCampHere (n : Nat) (a1 : Int32) (σ : PS) : Option (Int32 × PS) := (if (σ.1 255 0) ≤ 0 then (F_X12_passWord n σ).bind (fun q2 => (F_X12_cellHere n (1 : Int32) (2 : Int32) (6 : Int32) q2).bind (fun q4 => (if q4.1 = 0 then some ((0 : Int32), q4.2) else (F_X12_cellHere n (109 : Int32) (0 : Int32) (((q4.2.1 255 1) * (q4.2.1 255 1)) - (1 : Int32)) q4.2).bind (fun q7 => (if q7.1 = 0 then some ((0 : Int32), q7.2) else some ((1 : Int32), psI q7.2 255 0 (1 : Int32))))))) else (F_X12_fails n (4 : Int32) a1 σ).bind (fun q10 => (if q10.1 = 0 ∨ q10.1 = 1 then some (q10.1, q10.2) else none)))
theorem gm_X12_isCampHere : gM "AskedCampModel" yX12_isCampHere (Cond.code yX12_isCampHere cX12_isCampHere 2 (Option.some Jvm.ClassFile.FieldType.boolean)) 1 := ⟨by decide +kernel, tw_1237, tw_p34, tw_12, tw_1238⟩
set_option maxHeartbeats 4000000 in
set_option maxRecDepth 100000 in
theorem c_X12_isCampHere (l : Launch) (D : va_G) (ad : Nat → Nat) (ca : Nat → ClassId) (kz : Nat → Nat) (hJ : pInj ad) (n : Nat) (a1 : Int32) (σ : PS) (out : Int32 × PS) (hF : F_X12_isCampHere n a1 σ = some out) : Met l yX12_isCampHere (Cond.code yX12_isCampHere cX12_isCampHere 2 (Option.some Jvm.ClassFile.FieldType.boolean) :: gw_tbl) { frames := 3, cells := 0, slots := 0, locals := 72 } (va_Pc [.ref (ad (249)), .int a1] (pU D ad ca kz σ)) (pQi D ad ca out) 0 0 (pAD ad) := by
  refine q_entry (own := "AskedCampModel") hJ (by decide) rfl (Nat.le_of_ble_eq_true rfl) (fun p e s m below meth c C hr hlk => ?_)
  refine q_lv [(0, .ref (ad (249))), (1, .int a1)] rfl ?_
  rw [F_X12_isCampHere] at hF
  refine q_aload_n C 0 dX12_isCampHere_0 rfl rfl ?_
  refine qg_11_7 C pi_249 tw_1060 dX12_isCampHere_1 ?_
  refine q_iconst (v := 0) C dX12_isCampHere_4 (by decide) ?_
  refine q_ialdk (jn := 0) C pa_255 (vp_of (by decide)) rfl dX12_isCampHere_5 ?_
  refine q_if_le (tgt := 16) C dX12_isCampHere_6 (by decide) (fun c1 => ?_) (fun c1 => ?_)
  · replace hF := ift c1 hF
    refine q_aload_n C 0 dX12_isCampHere_16 rfl rfl ?_
    obtain ⟨q2, h3, hF⟩ := bnd hF
    try dsimp only at hF
    refine q_callVv C [] (c_X12_passWord l D ad ca kz C.2.2.2.2.2.2.1 _ _ _ h3) tw_1239 gm_X12_passWord pi_249.1 (pe_11 pi_249.2) rfl ⟨rfl, rfl⟩ ⟨Nat.le_of_ble_eq_true rfl, Nat.le_of_ble_eq_true rfl⟩ rfl (Nat.le_of_ble_eq_true rfl) dX12_isCampHere_17 q00 ?_
    refine q_aload_n C 0 dX12_isCampHere_20 rfl rfl ?_
    refine q_iconst (v := 1) C dX12_isCampHere_21 (by decide) ?_
    refine q_iconst (v := 2) C dX12_isCampHere_22 (by decide) ?_
    refine q_bipush (v := 6) C dX12_isCampHere_23 (by decide) ?_
    obtain ⟨q4, h5, hF⟩ := bnd hF
    try dsimp only at hF
    refine q_callVi C [.int 1, .int 2, .int 6] (c_X12_cellHere l D ad ca kz C.2.2.2.2.2.2.1 _ _ _ _ _ _ h5) tw_1243 gm_X12_cellHere pi_249.1 (pe_11 pi_249.2) rfl ⟨rfl, rfl⟩ ⟨Nat.le_of_ble_eq_true rfl, Nat.le_of_ble_eq_true rfl⟩ rfl (Nat.le_of_ble_eq_true rfl) dX12_isCampHere_25 q00 ?_
    refine q_if_eq (tgt := 56) C dX12_isCampHere_28 (by decide) (fun c6 => ?_) (fun c6 => ?_)
    · replace hF := ift c6 hF
      refine q_iconst (v := 0) C dX12_isCampHere_56 (by decide) ?_
      exact q_zret C hr hlk dX12_isCampHere_57 (by decide) hF
    · replace hF := ife c6 hF
      refine q_aload_n C 0 dX12_isCampHere_31 rfl rfl ?_
      refine q_bipush (v := 109) C dX12_isCampHere_32 (by decide) ?_
      refine q_iconst (v := 0) C dX12_isCampHere_34 (by decide) ?_
      refine q_aload_n C 0 dX12_isCampHere_35 rfl rfl ?_
      refine qg_11_7 C pi_249 tw_1060 dX12_isCampHere_36 ?_
      refine q_iconst (v := 1) C dX12_isCampHere_39 (by decide) ?_
      refine q_ialdk (jn := 1) C pa_255 (vp_of (by decide)) rfl dX12_isCampHere_40 ?_
      refine q_aload_n C 0 dX12_isCampHere_41 rfl rfl ?_
      refine qg_11_7 C pi_249 tw_1060 dX12_isCampHere_42 ?_
      refine q_iconst (v := 1) C dX12_isCampHere_45 (by decide) ?_
      refine q_ialdk (jn := 1) C pa_255 (vp_of (by decide)) rfl dX12_isCampHere_46 ?_
      refine q_imul C dX12_isCampHere_47 ?_
      refine q_iconst (v := 1) C dX12_isCampHere_48 (by decide) ?_
      refine q_isub C dX12_isCampHere_49 ?_
      obtain ⟨q7, h8, hF⟩ := bnd hF
      try dsimp only at hF
      refine q_callVi C [.int 109, .int 0, .int (((q4.2.1 255 1) * (q4.2.1 255 1)) - (1 : Int32))] (c_X12_cellHere l D ad ca kz C.2.2.2.2.2.2.1 _ _ _ _ _ _ h8) tw_1243 gm_X12_cellHere pi_249.1 (pe_11 pi_249.2) rfl ⟨rfl, rfl⟩ ⟨Nat.le_of_ble_eq_true rfl, Nat.le_of_ble_eq_true rfl⟩ rfl (Nat.le_of_ble_eq_true rfl) dX12_isCampHere_50 q00 ?_
      refine q_if_ne (tgt := 58) C dX12_isCampHere_53 (by decide) (fun c9 => ?_) (fun c9 => ?_)
      · replace hF := ife c9 hF
        refine q_aload_n C 0 dX12_isCampHere_58 rfl rfl ?_
        refine qg_11_7 C pi_249 tw_1060 dX12_isCampHere_59 ?_
        refine q_iconst (v := 0) C dX12_isCampHere_62 (by decide) ?_
        refine q_iconst (v := 1) C dX12_isCampHere_63 (by decide) ?_
        refine q_iastk (jn := 0) C pa_255 (vp_of (by decide)) rfl dX12_isCampHere_64 ?_
        refine q_iconst (v := 1) C dX12_isCampHere_65 (by decide) ?_
        exact q_zret C hr hlk dX12_isCampHere_66 (by decide) hF
      · replace hF := ift c9 hF
        refine q_iconst (v := 0) C dX12_isCampHere_56 (by decide) ?_
        exact q_zret C hr hlk dX12_isCampHere_57 (by decide) hF
  · replace hF := ife c1 hF
    refine q_aload_n C 0 dX12_isCampHere_9 rfl rfl ?_
    refine q_iconst (v := 4) C dX12_isCampHere_10 (by decide) ?_
    refine q_iload_n C 1 dX12_isCampHere_11 rfl rfl ?_
    obtain ⟨q10, h11, hF⟩ := bnd hF
    try dsimp only at hF
    refine q_callVi C [.int 4, .int a1] (c_X12_fails l D ad ca kz C.2.2.2.2.2.2.1 _ _ _ _ _ h11) tw_1227 gm_X12_fails pi_249.1 (pe_11 pi_249.2) rfl ⟨rfl, rfl⟩ ⟨Nat.le_of_ble_eq_true rfl, Nat.le_of_ble_eq_true rfl⟩ rfl (Nat.le_of_ble_eq_true rfl) dX12_isCampHere_12 q00 ?_
    obtain ⟨g12, hF⟩ := grd hF
    exact q_zret C hr hlk dX12_isCampHere_15 g12 hF
-- X12_isTentHere
def F_X12_isTentHere (n : Nat) (a1 : Int32) (σ : PS) : Option (Int32 × PS) := (if (σ.1 255 2) = (6 : Int32) then (F_X12_fails n (4 : Int32) a1 σ).bind (fun q12 => (if q12.1 = 0 ∨ q12.1 = 1 then some (q12.1, q12.2) else none)) else (F_X12_passWord n σ).bind (fun q2 => (F_X12_lastCell n q2).bind (fun q4 => (F_X12_cellHere n ((110 : Int32) + (q2.1 255 2)) (0 : Int32) q4.1 q4.2).bind (fun q6 => (if q6.1 = 0 then some ((0 : Int32), q6.2) else (F_X12_cellHere n ((116 : Int32) + (q6.2.1 255 2)) (0 : Int32) (20 : Int32) q6.2).bind (fun q9 => (if q9.1 = 0 then some ((0 : Int32), q9.2) else some ((1 : Int32), psI q9.2 255 2 ((q9.2.1 255 2) + (1 : Int32))))))))))
theorem gm_X12_isTentHere : gM "AskedCampModel" yX12_isTentHere (Cond.code yX12_isTentHere cX12_isTentHere 2 (Option.some Jvm.ClassFile.FieldType.boolean)) 1 := ⟨by decide +kernel, tw_1260, tw_p39, tw_12, tw_1261⟩
set_option maxHeartbeats 4000000 in
set_option maxRecDepth 100000 in
theorem c_X12_isTentHere (l : Launch) (D : va_G) (ad : Nat → Nat) (ca : Nat → ClassId) (kz : Nat → Nat) (hJ : pInj ad) (n : Nat) (a1 : Int32) (σ : PS) (out : Int32 × PS) (hF : F_X12_isTentHere n a1 σ = some out) : Met l yX12_isTentHere (Cond.code yX12_isTentHere cX12_isTentHere 2 (Option.some Jvm.ClassFile.FieldType.boolean) :: gw_tbl) { frames := 3, cells := 0, slots := 0, locals := 72 } (va_Pc [.ref (ad (249)), .int a1] (pU D ad ca kz σ)) (pQi D ad ca out) 0 0 (pAD ad) := by
  refine q_entry (own := "AskedCampModel") hJ (by decide) rfl (Nat.le_of_ble_eq_true rfl) (fun p e s m below meth c C hr hlk => ?_)
  refine q_lv [(0, .ref (ad (249))), (1, .int a1)] rfl ?_
  rw [F_X12_isTentHere] at hF
  refine q_aload_n C 0 dX12_isTentHere_0 rfl rfl ?_
  refine qg_11_7 C pi_249 tw_1060 dX12_isTentHere_1 ?_
  refine q_iconst (v := 2) C dX12_isTentHere_4 (by decide) ?_
  refine q_ialdk (jn := 2) C pa_255 (vp_of (by decide)) rfl dX12_isTentHere_5 ?_
  refine q_bipush (v := 6) C dX12_isTentHere_6 (by decide) ?_
  refine q_icmp_ne (tgt := 18) C dX12_isTentHere_8 (by decide) (fun c1 => ?_) (fun c1 => ?_)
  · replace hF := ife c1 hF
    refine q_aload_n C 0 dX12_isTentHere_18 rfl rfl ?_
    obtain ⟨q2, h3, hF⟩ := bnd hF
    try dsimp only at hF
    refine q_callVv C [] (c_X12_passWord l D ad ca kz C.2.2.2.2.2.2.1 _ _ _ h3) tw_1239 gm_X12_passWord pi_249.1 (pe_11 pi_249.2) rfl ⟨rfl, rfl⟩ ⟨Nat.le_of_ble_eq_true rfl, Nat.le_of_ble_eq_true rfl⟩ rfl (Nat.le_of_ble_eq_true rfl) dX12_isTentHere_19 q00 ?_
    refine q_aload_n C 0 dX12_isTentHere_22 rfl rfl ?_
    refine q_bipush (v := 110) C dX12_isTentHere_23 (by decide) ?_
    refine q_aload_n C 0 dX12_isTentHere_25 rfl rfl ?_
    refine qg_11_7 C pi_249 tw_1060 dX12_isTentHere_26 ?_
    refine q_iconst (v := 2) C dX12_isTentHere_29 (by decide) ?_
    refine q_ialdk (jn := 2) C pa_255 (vp_of (by decide)) rfl dX12_isTentHere_30 ?_
    refine q_iadd C dX12_isTentHere_31 ?_
    refine q_iconst (v := 0) C dX12_isTentHere_32 (by decide) ?_
    refine q_aload_n C 0 dX12_isTentHere_33 rfl rfl ?_
    obtain ⟨q4, h5, hF⟩ := bnd hF
    try dsimp only at hF
    refine q_callVi C [] (c_X12_lastCell l D ad ca kz C.2.2.2.2.2.2.1 _ _ _ h5) tw_1262 gm_X12_lastCell pi_249.1 (pe_11 pi_249.2) rfl ⟨rfl, rfl⟩ ⟨Nat.le_of_ble_eq_true rfl, Nat.le_of_ble_eq_true rfl⟩ rfl (Nat.le_of_ble_eq_true rfl) dX12_isTentHere_34 q00 ?_
    obtain ⟨q6, h7, hF⟩ := bnd hF
    try dsimp only at hF
    refine q_callVi C [.int ((110 : Int32) + (q2.1 255 2)), .int 0, .int q4.1] (c_X12_cellHere l D ad ca kz C.2.2.2.2.2.2.1 _ _ _ _ _ _ h7) tw_1243 gm_X12_cellHere pi_249.1 (pe_11 pi_249.2) rfl ⟨rfl, rfl⟩ ⟨Nat.le_of_ble_eq_true rfl, Nat.le_of_ble_eq_true rfl⟩ rfl (Nat.le_of_ble_eq_true rfl) dX12_isTentHere_37 q00 ?_
    refine q_if_eq (tgt := 62) C dX12_isTentHere_40 (by decide) (fun c8 => ?_) (fun c8 => ?_)
    · replace hF := ift c8 hF
      refine q_iconst (v := 0) C dX12_isTentHere_62 (by decide) ?_
      exact q_zret C hr hlk dX12_isTentHere_63 (by decide) hF
    · replace hF := ife c8 hF
      refine q_aload_n C 0 dX12_isTentHere_43 rfl rfl ?_
      refine q_bipush (v := 116) C dX12_isTentHere_44 (by decide) ?_
      refine q_aload_n C 0 dX12_isTentHere_46 rfl rfl ?_
      refine qg_11_7 C pi_249 tw_1060 dX12_isTentHere_47 ?_
      refine q_iconst (v := 2) C dX12_isTentHere_50 (by decide) ?_
      refine q_ialdk (jn := 2) C pa_255 (vp_of (by decide)) rfl dX12_isTentHere_51 ?_
      refine q_iadd C dX12_isTentHere_52 ?_
      refine q_iconst (v := 0) C dX12_isTentHere_53 (by decide) ?_
      refine q_bipush (v := 20) C dX12_isTentHere_54 (by decide) ?_
      obtain ⟨q9, h10, hF⟩ := bnd hF
      try dsimp only at hF
      refine q_callVi C [.int ((116 : Int32) + (q6.2.1 255 2)), .int 0, .int 20] (c_X12_cellHere l D ad ca kz C.2.2.2.2.2.2.1 _ _ _ _ _ _ h10) tw_1243 gm_X12_cellHere pi_249.1 (pe_11 pi_249.2) rfl ⟨rfl, rfl⟩ ⟨Nat.le_of_ble_eq_true rfl, Nat.le_of_ble_eq_true rfl⟩ rfl (Nat.le_of_ble_eq_true rfl) dX12_isTentHere_56 q00 ?_
      refine q_if_ne (tgt := 64) C dX12_isTentHere_59 (by decide) (fun c11 => ?_) (fun c11 => ?_)
      · replace hF := ife c11 hF
        refine q_aload_n C 0 dX12_isTentHere_64 rfl rfl ?_
        refine qg_11_7 C pi_249 tw_1060 dX12_isTentHere_65 ?_
        refine q_iconst (v := 2) C dX12_isTentHere_68 (by decide) ?_
        refine q_dup2 C dX12_isTentHere_69 rfl rfl ?_
        refine q_ialdk (jn := 2) C pa_255 (vp_of (by decide)) rfl dX12_isTentHere_70 ?_
        refine q_iconst (v := 1) C dX12_isTentHere_71 (by decide) ?_
        refine q_iadd C dX12_isTentHere_72 ?_
        refine q_iastk (jn := 2) C pa_255 (vp_of (by decide)) rfl dX12_isTentHere_73 ?_
        refine q_iconst (v := 1) C dX12_isTentHere_74 (by decide) ?_
        exact q_zret C hr hlk dX12_isTentHere_75 (by decide) hF
      · replace hF := ift c11 hF
        refine q_iconst (v := 0) C dX12_isTentHere_62 (by decide) ?_
        exact q_zret C hr hlk dX12_isTentHere_63 (by decide) hF
  · replace hF := ift c1 hF
    refine q_aload_n C 0 dX12_isTentHere_11 rfl rfl ?_
    refine q_iconst (v := 4) C dX12_isTentHere_12 (by decide) ?_
    refine q_iload_n C 1 dX12_isTentHere_13 rfl rfl ?_
    obtain ⟨q12, h13, hF⟩ := bnd hF
    try dsimp only at hF
    refine q_callVi C [.int 4, .int a1] (c_X12_fails l D ad ca kz C.2.2.2.2.2.2.1 _ _ _ _ _ h13) tw_1227 gm_X12_fails pi_249.1 (pe_11 pi_249.2) rfl ⟨rfl, rfl⟩ ⟨Nat.le_of_ble_eq_true rfl, Nat.le_of_ble_eq_true rfl⟩ rfl (Nat.le_of_ble_eq_true rfl) dX12_isTentHere_14 q00 ?_
    obtain ⟨g14, hF⟩ := grd hF
    exact q_zret C hr hlk dX12_isTentHere_17 g14 hF
-- X12_isWord
def L_X12_isWord_10 (n : Nat) : Nat → Int64 → Int64 → Int32 → PS → Option (Int64 × Int64 × Int32 × PS)
  | 0, _, _, _, _ => none
  | k + 1, x1, x3, x5, σ => (F_X12_isLetter n ((σ.1 249 8) + x5) σ).bind (fun q3 => (if q3.1 = 0 then some (x1, x3, x5, q3.2) else (if (8 : Int32) ≤ x5 then L_X12_isWord_10 n k x1 x3 (x5 + 1) q3.2 else (if 0 ≤ ((q3.2.1 249 8) + x5) ∧ ((q3.2.1 249 8) + x5).toNatClampNeg < 400 then L_X12_isWord_10 n k x1 ((x3 <<< ((8 : Int32).toInt64 &&& 63)) ||| ((q3.2.1 250 (((q3.2.1 249 8) + x5).toNatClampNeg)).toInt64)) (x5 + 1) q3.2 else none))))
def F_X12_isWord (n : Nat) (a1 : Int64) (σ : PS) : Option (Int32 × PS) := (F_X12_see n σ).bind (fun q1 => (L_X12_isWord_10 n n a1 (0 : Int64) (0 : Int32) q1.2).bind (fun o8 => (if o8.2.2.1 ≤ 0 then some ((0 : Int32), o8.2.2.2) else (if (8 : Int32) ≤ o8.2.2.1 then some ((0 : Int32), o8.2.2.2) else (if (lg_cmp o8.2.1 o8.1) = 0 then some ((1 : Int32), o8.2.2.2) else some ((0 : Int32), o8.2.2.2))))))
theorem gm_X12_isWord : gM "AskedCampModel" yX12_isWord (Cond.code yX12_isWord cX12_isWord 6 (Option.some Jvm.ClassFile.FieldType.boolean)) 1 := ⟨by decide +kernel, tw_1218, tw_p30, tw_12, tw_1219⟩
set_option maxHeartbeats 4000000 in
set_option maxRecDepth 100000 in
theorem l_X12_isWord_10 {p : Program} {l : Launch} {e : Env} {R : Room} {s : State} {m : MethodId} {args : Array Value} {below : List Frame} {meth : Method} {c : Code} {D : va_G} {ad : Nat → Nat} {ca : Nat → ClassId} {kz : Nat → Nat} {Q : State → Prop} (C : pC p s m args c cX12_isWord "AskedCampModel" 6 D ad ca kz) (hR : 1 ≤ R.frames ∧ 21 ≤ R.locals) {n : Nat} (o : Int64 × Int64 × Int32 × PS) (hx0 : PW p l e R s m args below meth c 6 D ad ca 0 0 Q (o.2.2.2) 56 [(1, .long o.1), (3, .long o.2.1), (5, .int o.2.2.1)] []) : ∀ (k : Nat) (x1 : Int64) (x3 : Int64) (x5 : Int32) (σ : PS), L_X12_isWord_10 n k x1 x3 x5 σ = some o → PW p l e R s m args below meth c 6 D ad ca 0 0 Q σ 10 [(0, .ref (ad (249))), (1, .long x1), (3, .long x3), (5, .int x5)] [] := by
  intro k
  induction k with
  | zero => intro x1 x3 x5 σ hF; exact nomatch (show (none : Option (Int64 × Int64 × Int32 × PS)) = some o from hF)
  | succ k ih =>
    intro x1 x3 x5 σ hF
    rw [L_X12_isWord_10] at hF
    refine q_aload_n C 0 dX12_isWord_10 rfl rfl ?_
    refine q_aload_n C 0 dX12_isWord_11 rfl rfl ?_
    refine qg_11_8 C pi_249 tw_1061 dX12_isWord_12 ?_
    refine q_iload C 3 dX12_isWord_15 rfl ?_
    refine q_iadd C dX12_isWord_17 ?_
    obtain ⟨q3, h4, hF⟩ := bnd hF
    try dsimp only at hF
    refine q_callVi C [.int ((σ.1 249 8) + x5)] (c_X12_isLetter l D ad ca kz C.2.2.2.2.2.2.1 _ _ _ _ h4) tw_1220 gm_X12_isLetter pi_249.1 (pe_11 pi_249.2) rfl ⟨rfl, rfl⟩ ⟨Nat.le_trans (Nat.le_of_ble_eq_true rfl) hR.1, Nat.le_trans (Nat.le_of_ble_eq_true rfl) hR.2⟩ rfl (Nat.le_of_ble_eq_true rfl) dX12_isWord_18 q00 ?_
    refine q_if_eq (tgt := 56) C dX12_isWord_21 (by decide) (fun c5 => ?_) (fun c5 => ?_)
    · replace hF := ift c5 hF
      cases hF
      refine q_sub [1, 2, 3] rfl ?_
      exact hx0
    · replace hF := ife c5 hF
      refine q_iload C 3 dX12_isWord_24 rfl ?_
      refine q_bipush (v := 8) C dX12_isWord_26 (by decide) ?_
      refine q_icmp_ge (tgt := 50) C dX12_isWord_28 (by decide) (fun c6 => ?_) (fun c6 => ?_)
      · replace hF := ift c6 hF
        refine q_iinc C 3 [(5, .int (x5 + 1)), (0, .ref (ad (249))), (1, .long x1), (3, .long x3)] dX12_isWord_50 rfl rfl (by decide) rfl ?_
        refine q_goto (tgt := 10) C dX12_isWord_53 (by decide) ?_
        refine q_sub [1, 2, 3, 0] rfl ?_
        exact ih _ _ _ _ hF
      · replace hF := ife c6 hF
        refine q_lload_n C 2 dX12_isWord_31 rfl rfl ?_
        refine q_bipush (v := 8) C dX12_isWord_32 (by decide) ?_
        refine q_lshl C dX12_isWord_34 ?_
        refine q_aload_n C 0 dX12_isWord_35 rfl rfl ?_
        refine qg_11_0 C pi_249 tw_1053 dX12_isWord_36 ?_
        refine q_aload_n C 0 dX12_isWord_39 rfl rfl ?_
        refine qg_11_8 C pi_249 tw_1061 dX12_isWord_40 ?_
        refine q_iload C 3 dX12_isWord_43 rfl ?_
        refine q_iadd C dX12_isWord_45 ?_
        obtain ⟨g7, hF⟩ := grd hF
        refine q_bald C pa_250 (vp_of g7) dX12_isWord_46 ?_
        refine q_i2l C dX12_isWord_47 ?_
        refine q_lor C dX12_isWord_48 ?_
        refine q_lstore_n C [(3, .long ((x3 <<< ((8 : Int32).toInt64 &&& 63)) ||| ((q3.2.1 250 (((q3.2.1 249 8) + x5).toNatClampNeg)).toInt64))), (0, .ref (ad (249))), (1, .long x1), (5, .int x5)] dX12_isWord_49 rfl (by decide) rfl ?_
        refine q_iinc C 3 [(5, .int (x5 + 1)), (3, .long ((x3 <<< ((8 : Int32).toInt64 &&& 63)) ||| ((q3.2.1 250 (((q3.2.1 249 8) + x5).toNatClampNeg)).toInt64))), (0, .ref (ad (249))), (1, .long x1)] dX12_isWord_50 rfl rfl (by decide) rfl ?_
        refine q_goto (tgt := 10) C dX12_isWord_53 (by decide) ?_
        refine q_sub [2, 3, 1, 0] rfl ?_
        exact ih _ _ _ _ hF
set_option maxHeartbeats 4000000 in
set_option maxRecDepth 100000 in
theorem c_X12_isWord (l : Launch) (D : va_G) (ad : Nat → Nat) (ca : Nat → ClassId) (kz : Nat → Nat) (hJ : pInj ad) (n : Nat) (a1 : Int64) (σ : PS) (out : Int32 × PS) (hF : F_X12_isWord n a1 σ = some out) : Met l yX12_isWord (Cond.code yX12_isWord cX12_isWord 6 (Option.some Jvm.ClassFile.FieldType.boolean) :: gw_tbl) { frames := 1, cells := 0, slots := 0, locals := 21 } (va_Pc [.ref (ad (249)), .long a1] (pU D ad ca kz σ)) (pQi D ad ca out) 0 0 (pAD ad) := by
  refine q_entry (own := "AskedCampModel") hJ (by decide) rfl (Nat.le_of_ble_eq_true rfl) (fun p e s m below meth c C hr hlk => ?_)
  refine q_lv [(0, .ref (ad (249))), (1, .long a1)] rfl ?_
  rw [F_X12_isWord] at hF
  refine q_aload_n C 0 dX12_isWord_0 rfl rfl ?_
  obtain ⟨q1, h2, hF⟩ := bnd hF
  try dsimp only at hF
  refine q_callVi C [] (c_X12_see l D ad ca kz C.2.2.2.2.2.2.1 _ _ _ h2) tw_1207 gm_X12_see pi_249.1 (pe_11 pi_249.2) rfl ⟨rfl, rfl⟩ ⟨Nat.le_of_ble_eq_true rfl, Nat.le_of_ble_eq_true rfl⟩ rfl (Nat.le_of_ble_eq_true rfl) dX12_isWord_1 q00 ?_
  refine q_pop C dX12_isWord_4 rfl ?_
  refine q_lconst (v := 0) C dX12_isWord_5 (by decide) ?_
  refine q_lstore_n C [(3, .long ((0 : Int64))), (0, .ref (ad (249))), (1, .long a1)] dX12_isWord_6 rfl (by decide) rfl ?_
  refine q_iconst (v := 0) C dX12_isWord_7 (by decide) ?_
  refine q_istore C [(5, .int 0), (3, .long ((0 : Int64))), (0, .ref (ad (249))), (1, .long a1)] dX12_isWord_8 (by decide) rfl ?_
  obtain ⟨o8, h9, hF⟩ := bnd hF
  try dsimp only at hF
  refine q_sub [2, 3, 1, 0] rfl ?_
  refine l_X12_isWord_10 C ⟨Nat.le_of_ble_eq_true rfl, Nat.le_of_ble_eq_true rfl⟩ o8 ?_ n _ _ _ _ h9
  refine q_iload C 2 dX12_isWord_56 rfl ?_
  refine q_if_le (tgt := 78) C dX12_isWord_58 (by decide) (fun c10 => ?_) (fun c10 => ?_)
  · replace hF := ift c10 hF
    refine q_iconst (v := 0) C dX12_isWord_78 (by decide) ?_
    exact q_zret C hr hlk dX12_isWord_79 (by decide) hF
  · replace hF := ife c10 hF
    refine q_iload C 2 dX12_isWord_61 rfl ?_
    refine q_bipush (v := 8) C dX12_isWord_63 (by decide) ?_
    refine q_icmp_ge (tgt := 78) C dX12_isWord_65 (by decide) (fun c11 => ?_) (fun c11 => ?_)
    · replace hF := ift c11 hF
      refine q_iconst (v := 0) C dX12_isWord_78 (by decide) ?_
      exact q_zret C hr hlk dX12_isWord_79 (by decide) hF
    · replace hF := ife c11 hF
      refine q_lload_n C 1 dX12_isWord_68 rfl rfl ?_
      refine q_lload_n C 0 dX12_isWord_69 rfl rfl ?_
      refine q_lcmp C dX12_isWord_70 ?_
      refine q_if_ne (tgt := 78) C dX12_isWord_71 (by decide) (fun c12 => ?_) (fun c12 => ?_)
      · replace hF := ife c12 hF
        refine q_iconst (v := 0) C dX12_isWord_78 (by decide) ?_
        exact q_zret C hr hlk dX12_isWord_79 (by decide) hF
      · replace hF := ift c12 hF
        refine q_iconst (v := 1) C dX12_isWord_74 (by decide) ?_
        refine q_goto (tgt := 79) C dX12_isWord_75 (by decide) ?_
        exact q_zret C hr hlk dX12_isWord_79 (by decide) hF
-- X12_campLineHere
def F_X12_campLineHere (n : Nat) (a1 : Int32) (σ : PS) : Option (Int32 × PS) := (F_X12_isWord n (1667329392 : Int64) σ).bind (fun q1 => (if q1.1 = 0 then (if (q1.2.1 255 0) = 0 then (F_X12_fails n (4 : Int32) a1 q1.2).bind (fun q14 => (if q14.1 = 0 ∨ q14.1 = 1 then some (q14.1, q14.2) else none)) else (F_X12_isWord n (1952804468 : Int64) q1.2).bind (fun q5 => (if q5.1 = 0 then (F_X12_isBushHere n q5.2).bind (fun q8 => (if q8.1 = 0 ∨ q8.1 = 1 then some (q8.1, q8.2) else none)) else (F_X12_isTentHere n a1 q5.2).bind (fun q11 => (if q11.1 = 0 ∨ q11.1 = 1 then some (q11.1, q11.2) else none))))) else (F_X12_isCampHere n a1 q1.2).bind (fun q17 => (if q17.1 = 0 ∨ q17.1 = 1 then some (q17.1, q17.2) else none))))
theorem gm_X12_campLineHere : gM "AskedCampModel" yX12_campLineHere (Cond.code yX12_campLineHere cX12_campLineHere 2 (Option.some Jvm.ClassFile.FieldType.boolean)) 1 := ⟨by decide +kernel, tw_1233, tw_p33, tw_12, tw_1234⟩
set_option maxHeartbeats 4000000 in
set_option maxRecDepth 100000 in
theorem c_X12_campLineHere (l : Launch) (D : va_G) (ad : Nat → Nat) (ca : Nat → ClassId) (kz : Nat → Nat) (hJ : pInj ad) (n : Nat) (a1 : Int32) (σ : PS) (out : Int32 × PS) (hF : F_X12_campLineHere n a1 σ = some out) : Met l yX12_campLineHere (Cond.code yX12_campLineHere cX12_campLineHere 2 (Option.some Jvm.ClassFile.FieldType.boolean) :: gw_tbl) { frames := 4, cells := 0, slots := 0, locals := 93 } (va_Pc [.ref (ad (249)), .int a1] (pU D ad ca kz σ)) (pQi D ad ca out) 0 0 (pAD ad) := by
  refine q_entry (own := "AskedCampModel") hJ (by decide) rfl (Nat.le_of_ble_eq_true rfl) (fun p e s m below meth c C hr hlk => ?_)
  refine q_lv [(0, .ref (ad (249))), (1, .int a1)] rfl ?_
  rw [F_X12_campLineHere] at hF
  refine q_aload_n C 0 dX12_campLineHere_0 rfl rfl ?_
  refine q_ldc2 C dX12_campLineHere_1 tw_1215 ?_
  obtain ⟨q1, h2, hF⟩ := bnd hF
  try dsimp only at hF
  refine q_callVi C [.long ((1667329392 : Int64))] (c_X12_isWord l D ad ca kz C.2.2.2.2.2.2.1 _ _ _ _ h2) tw_1216 gm_X12_isWord pi_249.1 (pe_11 pi_249.2) rfl ⟨rfl, rfl⟩ ⟨Nat.le_of_ble_eq_true rfl, Nat.le_of_ble_eq_true rfl⟩ rfl (Nat.le_of_ble_eq_true rfl) dX12_campLineHere_4 q00 ?_
  refine q_if_eq (tgt := 16) C dX12_campLineHere_7 (by decide) (fun c3 => ?_) (fun c3 => ?_)
  · replace hF := ift c3 hF
    refine q_aload_n C 0 dX12_campLineHere_16 rfl rfl ?_
    refine qg_11_7 C pi_249 tw_1060 dX12_campLineHere_17 ?_
    refine q_iconst (v := 0) C dX12_campLineHere_20 (by decide) ?_
    refine q_ialdk (jn := 0) C pa_255 (vp_of (by decide)) rfl dX12_campLineHere_21 ?_
    refine q_if_ne (tgt := 32) C dX12_campLineHere_22 (by decide) (fun c4 => ?_) (fun c4 => ?_)
    · replace hF := ife c4 hF
      refine q_aload_n C 0 dX12_campLineHere_32 rfl rfl ?_
      refine q_ldc2 C dX12_campLineHere_33 tw_1224 ?_
      obtain ⟨q5, h6, hF⟩ := bnd hF
      try dsimp only at hF
      refine q_callVi C [.long ((1952804468 : Int64))] (c_X12_isWord l D ad ca kz C.2.2.2.2.2.2.1 _ _ _ _ h6) tw_1216 gm_X12_isWord pi_249.1 (pe_11 pi_249.2) rfl ⟨rfl, rfl⟩ ⟨Nat.le_of_ble_eq_true rfl, Nat.le_of_ble_eq_true rfl⟩ rfl (Nat.le_of_ble_eq_true rfl) dX12_campLineHere_36 q00 ?_
      refine q_if_eq (tgt := 50) C dX12_campLineHere_39 (by decide) (fun c7 => ?_) (fun c7 => ?_)
      · replace hF := ift c7 hF
        refine q_aload_n C 0 dX12_campLineHere_50 rfl rfl ?_
        obtain ⟨q8, h9, hF⟩ := bnd hF
        try dsimp only at hF
        refine q_callVi C [] (c_X12_isBushHere l D ad ca kz C.2.2.2.2.2.2.1 _ _ _ h9) tw_1266 gm_X12_isBushHere pi_249.1 (pe_11 pi_249.2) rfl ⟨rfl, rfl⟩ ⟨Nat.le_of_ble_eq_true rfl, Nat.le_of_ble_eq_true rfl⟩ rfl (Nat.le_of_ble_eq_true rfl) dX12_campLineHere_51 q00 ?_
        obtain ⟨g10, hF⟩ := grd hF
        exact q_zret C hr hlk dX12_campLineHere_54 g10 hF
      · replace hF := ife c7 hF
        refine q_aload_n C 0 dX12_campLineHere_42 rfl rfl ?_
        refine q_iload_n C 1 dX12_campLineHere_43 rfl rfl ?_
        obtain ⟨q11, h12, hF⟩ := bnd hF
        try dsimp only at hF
        refine q_callVi C [.int a1] (c_X12_isTentHere l D ad ca kz C.2.2.2.2.2.2.1 _ _ _ _ h12) tw_1258 gm_X12_isTentHere pi_249.1 (pe_11 pi_249.2) rfl ⟨rfl, rfl⟩ ⟨Nat.le_of_ble_eq_true rfl, Nat.le_of_ble_eq_true rfl⟩ rfl (Nat.le_of_ble_eq_true rfl) dX12_campLineHere_44 q00 ?_
        refine q_goto (tgt := 54) C dX12_campLineHere_47 (by decide) ?_
        obtain ⟨g13, hF⟩ := grd hF
        exact q_zret C hr hlk dX12_campLineHere_54 g13 hF
    · replace hF := ift c4 hF
      refine q_aload_n C 0 dX12_campLineHere_25 rfl rfl ?_
      refine q_iconst (v := 4) C dX12_campLineHere_26 (by decide) ?_
      refine q_iload_n C 1 dX12_campLineHere_27 rfl rfl ?_
      obtain ⟨q14, h15, hF⟩ := bnd hF
      try dsimp only at hF
      refine q_callVi C [.int 4, .int a1] (c_X12_fails l D ad ca kz C.2.2.2.2.2.2.1 _ _ _ _ _ h15) tw_1227 gm_X12_fails pi_249.1 (pe_11 pi_249.2) rfl ⟨rfl, rfl⟩ ⟨Nat.le_of_ble_eq_true rfl, Nat.le_of_ble_eq_true rfl⟩ rfl (Nat.le_of_ble_eq_true rfl) dX12_campLineHere_28 q00 ?_
      obtain ⟨g16, hF⟩ := grd hF
      exact q_zret C hr hlk dX12_campLineHere_31 g16 hF
  · replace hF := ife c3 hF
    refine q_aload_n C 0 dX12_campLineHere_10 rfl rfl ?_
    refine q_iload_n C 1 dX12_campLineHere_11 rfl rfl ?_
    obtain ⟨q17, h18, hF⟩ := bnd hF
    try dsimp only at hF
    refine q_callVi C [.int a1] (c_X12_isCampHere l D ad ca kz C.2.2.2.2.2.2.1 _ _ _ _ h18) tw_1235 gm_X12_isCampHere pi_249.1 (pe_11 pi_249.2) rfl ⟨rfl, rfl⟩ ⟨Nat.le_of_ble_eq_true rfl, Nat.le_of_ble_eq_true rfl⟩ rfl (Nat.le_of_ble_eq_true rfl) dX12_campLineHere_12 q00 ?_
    obtain ⟨g19, hF⟩ := grd hF
    exact q_zret C hr hlk dX12_campLineHere_15 g19 hF
-- X12_isCampWord
def F_X12_isCampWord (n : Nat) (σ : PS) : Option (Int32 × PS) := (F_X12_isWord n (1667329392 : Int64) σ).bind (fun q1 => (if q1.1 = 0 then (F_X12_isWord n (1952804468 : Int64) q1.2).bind (fun q4 => (if q4.1 = 0 then (F_X12_isWord n (1651864424 : Int64) q4.2).bind (fun q7 => (if q7.1 = 0 then some ((0 : Int32), q7.2) else some ((1 : Int32), q7.2))) else some ((1 : Int32), q4.2))) else some ((1 : Int32), q1.2)))
theorem gm_X12_isCampWord : gM "AskedCampModel" yX12_isCampWord (Cond.code yX12_isCampWord cX12_isCampWord 1 (Option.some Jvm.ClassFile.FieldType.boolean)) 0 := ⟨by decide +kernel, tw_1213, tw_p29, tw_12, tw_1214⟩
set_option maxHeartbeats 4000000 in
set_option maxRecDepth 100000 in
theorem c_X12_isCampWord (l : Launch) (D : va_G) (ad : Nat → Nat) (ca : Nat → ClassId) (kz : Nat → Nat) (hJ : pInj ad) (n : Nat) (σ : PS) (out : Int32 × PS) (hF : F_X12_isCampWord n σ = some out) : Met l yX12_isCampWord (Cond.code yX12_isCampWord cX12_isCampWord 1 (Option.some Jvm.ClassFile.FieldType.boolean) :: gw_tbl) { frames := 2, cells := 0, slots := 0, locals := 46 } (va_Pc [.ref (ad (249))] (pU D ad ca kz σ)) (pQi D ad ca out) 0 0 (pAD ad) := by
  refine q_entry (own := "AskedCampModel") hJ (by decide) rfl (Nat.le_of_ble_eq_true rfl) (fun p e s m below meth c C hr hlk => ?_)
  refine q_lv [(0, .ref (ad (249)))] rfl ?_
  rw [F_X12_isCampWord] at hF
  refine q_aload_n C 0 dX12_isCampWord_0 rfl rfl ?_
  refine q_ldc2 C dX12_isCampWord_1 tw_1215 ?_
  obtain ⟨q1, h2, hF⟩ := bnd hF
  try dsimp only at hF
  refine q_callVi C [.long ((1667329392 : Int64))] (c_X12_isWord l D ad ca kz C.2.2.2.2.2.2.1 _ _ _ _ h2) tw_1216 gm_X12_isWord pi_249.1 (pe_11 pi_249.2) rfl ⟨rfl, rfl⟩ ⟨Nat.le_of_ble_eq_true rfl, Nat.le_of_ble_eq_true rfl⟩ rfl (Nat.le_of_ble_eq_true rfl) dX12_isCampWord_4 q00 ?_
  refine q_if_ne (tgt := 30) C dX12_isCampWord_7 (by decide) (fun c3 => ?_) (fun c3 => ?_)
  · replace hF := ife c3 hF
    refine q_iconst (v := 1) C dX12_isCampWord_30 (by decide) ?_
    refine q_goto (tgt := 35) C dX12_isCampWord_31 (by decide) ?_
    exact q_zret C hr hlk dX12_isCampWord_35 (by decide) hF
  · replace hF := ift c3 hF
    refine q_aload_n C 0 dX12_isCampWord_10 rfl rfl ?_
    refine q_ldc2 C dX12_isCampWord_11 tw_1224 ?_
    obtain ⟨q4, h5, hF⟩ := bnd hF
    try dsimp only at hF
    refine q_callVi C [.long ((1952804468 : Int64))] (c_X12_isWord l D ad ca kz C.2.2.2.2.2.2.1 _ _ _ _ h5) tw_1216 gm_X12_isWord pi_249.1 (pe_11 pi_249.2) rfl ⟨rfl, rfl⟩ ⟨Nat.le_of_ble_eq_true rfl, Nat.le_of_ble_eq_true rfl⟩ rfl (Nat.le_of_ble_eq_true rfl) dX12_isCampWord_14 q00 ?_
    refine q_if_ne (tgt := 30) C dX12_isCampWord_17 (by decide) (fun c6 => ?_) (fun c6 => ?_)
    · replace hF := ife c6 hF
      refine q_iconst (v := 1) C dX12_isCampWord_30 (by decide) ?_
      refine q_goto (tgt := 35) C dX12_isCampWord_31 (by decide) ?_
      exact q_zret C hr hlk dX12_isCampWord_35 (by decide) hF
    · replace hF := ift c6 hF
      refine q_aload_n C 0 dX12_isCampWord_20 rfl rfl ?_
      refine q_ldc2 C dX12_isCampWord_21 tw_1225 ?_
      obtain ⟨q7, h8, hF⟩ := bnd hF
      try dsimp only at hF
      refine q_callVi C [.long ((1651864424 : Int64))] (c_X12_isWord l D ad ca kz C.2.2.2.2.2.2.1 _ _ _ _ h8) tw_1216 gm_X12_isWord pi_249.1 (pe_11 pi_249.2) rfl ⟨rfl, rfl⟩ ⟨Nat.le_of_ble_eq_true rfl, Nat.le_of_ble_eq_true rfl⟩ rfl (Nat.le_of_ble_eq_true rfl) dX12_isCampWord_24 q00 ?_
      refine q_if_eq (tgt := 34) C dX12_isCampWord_27 (by decide) (fun c9 => ?_) (fun c9 => ?_)
      · replace hF := ift c9 hF
        refine q_iconst (v := 0) C dX12_isCampWord_34 (by decide) ?_
        exact q_zret C hr hlk dX12_isCampWord_35 (by decide) hF
      · replace hF := ife c9 hF
        refine q_iconst (v := 1) C dX12_isCampWord_30 (by decide) ?_
        refine q_goto (tgt := 35) C dX12_isCampWord_31 (by decide) ?_
        exact q_zret C hr hlk dX12_isCampWord_35 (by decide) hF
-- X12_puts
def F_X12_puts (n : Nat) (a1 : Int32) (a2 : Int32) (σ : PS) : Option (PS) := (if 0 ≤ (σ.1 249 11) ∧ (σ.1 249 11).toNatClampNeg < 7 then (if 0 ≤ (((400 : Int32) * (σ.1 249 11)) + (σ.1 252 ((σ.1 249 11).toNatClampNeg))) ∧ (((400 : Int32) * (σ.1 249 11)) + (σ.1 252 ((σ.1 249 11).toNatClampNeg))).toNatClampNeg < 2400 then (if 0 ≤ ((psI σ 251 ((((400 : Int32) * (σ.1 249 11)) + (σ.1 252 ((σ.1 249 11).toNatClampNeg))).toNatClampNeg) (a1 + ((16 : Int32) * a2))).1 249 11) ∧ ((psI σ 251 ((((400 : Int32) * (σ.1 249 11)) + (σ.1 252 ((σ.1 249 11).toNatClampNeg))).toNatClampNeg) (a1 + ((16 : Int32) * a2))).1 249 11).toNatClampNeg < 7 then some (psI (psI σ 251 ((((400 : Int32) * (σ.1 249 11)) + (σ.1 252 ((σ.1 249 11).toNatClampNeg))).toNatClampNeg) (a1 + ((16 : Int32) * a2))) 252 (((psI σ 251 ((((400 : Int32) * (σ.1 249 11)) + (σ.1 252 ((σ.1 249 11).toNatClampNeg))).toNatClampNeg) (a1 + ((16 : Int32) * a2))).1 249 11).toNatClampNeg) (((psI σ 251 ((((400 : Int32) * (σ.1 249 11)) + (σ.1 252 ((σ.1 249 11).toNatClampNeg))).toNatClampNeg) (a1 + ((16 : Int32) * a2))).1 252 (((psI σ 251 ((((400 : Int32) * (σ.1 249 11)) + (σ.1 252 ((σ.1 249 11).toNatClampNeg))).toNatClampNeg) (a1 + ((16 : Int32) * a2))).1 249 11).toNatClampNeg)) + (1 : Int32))) else none) else none) else none)
theorem gm_X12_puts : gM "AskedCampModel" yX12_puts (Cond.code yX12_puts cX12_puts 3 (Option.none : Option Jvm.ClassFile.FieldType)) 2 := ⟨by decide +kernel, tw_1293, tw_p47, tw_12, tw_1294⟩
set_option maxHeartbeats 4000000 in
set_option maxRecDepth 100000 in
theorem c_X12_puts (l : Launch) (D : va_G) (ad : Nat → Nat) (ca : Nat → ClassId) (kz : Nat → Nat) (hJ : pInj ad) (n : Nat) (a1 : Int32) (a2 : Int32) (σ : PS) (out : PS) (hF : F_X12_puts n a1 a2 σ = some out) : Met l yX12_puts (Cond.code yX12_puts cX12_puts 3 (Option.none : Option Jvm.ClassFile.FieldType) :: gw_tbl) { frames := 0, cells := 0, slots := 0, locals := 0 } (va_Pc [.ref (ad (249)), .int a1, .int a2] (pU D ad ca kz σ)) (pQv D ad ca out) 0 0 (pAD ad) := by
  refine q_entry (own := "AskedCampModel") hJ (by decide) rfl (Nat.le_of_ble_eq_true rfl) (fun p e s m below meth c C hr hlk => ?_)
  refine q_lv [(0, .ref (ad (249))), (1, .int a1), (2, .int a2)] rfl ?_
  rw [F_X12_puts] at hF
  refine q_aload_n C 0 dX12_puts_0 rfl rfl ?_
  refine qg_11_3 C pi_249 tw_1056 dX12_puts_1 ?_
  refine q_sipush (v := 400) C dX12_puts_4 (by decide) ?_
  refine q_aload_n C 0 dX12_puts_7 rfl rfl ?_
  refine qg_11_11 C pi_249 tw_1064 dX12_puts_8 ?_
  refine q_imul C dX12_puts_11 ?_
  refine q_aload_n C 0 dX12_puts_12 rfl rfl ?_
  refine qg_11_4 C pi_249 tw_1057 dX12_puts_13 ?_
  refine q_aload_n C 0 dX12_puts_16 rfl rfl ?_
  refine qg_11_11 C pi_249 tw_1064 dX12_puts_17 ?_
  obtain ⟨g1, hF⟩ := grd hF
  refine q_iald C pa_252 (vp_of g1) dX12_puts_20 ?_
  refine q_iadd C dX12_puts_21 ?_
  refine q_iload_n C 1 dX12_puts_22 rfl rfl ?_
  refine q_bipush (v := 16) C dX12_puts_23 (by decide) ?_
  refine q_iload_n C 2 dX12_puts_25 rfl rfl ?_
  refine q_imul C dX12_puts_26 ?_
  refine q_iadd C dX12_puts_27 ?_
  obtain ⟨g2, hF⟩ := grd hF
  refine q_iast C pa_251 (vp_of g2) dX12_puts_28 ?_
  refine q_aload_n C 0 dX12_puts_29 rfl rfl ?_
  refine qg_11_4 C pi_249 tw_1057 dX12_puts_30 ?_
  refine q_aload_n C 0 dX12_puts_33 rfl rfl ?_
  refine qg_11_11 C pi_249 tw_1064 dX12_puts_34 ?_
  refine q_dup2 C dX12_puts_37 rfl rfl ?_
  obtain ⟨g3, hF⟩ := grd hF
  refine q_iald C pa_252 (vp_of g3) dX12_puts_38 ?_
  refine q_iconst (v := 1) C dX12_puts_39 (by decide) ?_
  refine q_iadd C dX12_puts_40 ?_
  refine q_iast C pa_252 (vp_of g3) dX12_puts_41 ?_
  exact q_vret C hr hlk dX12_puts_42 hF
-- X12_makes
def F_X12_makes (n : Nat) (a1 : Int32) (σ : PS) : Option (Int32 × PS) := (if (σ.1 249 12) = (60 : Int32) then (F_X12_fails n (3 : Int32) a1 σ).bind (fun q2 => (if q2.1 = 0 ∨ q2.1 = 1 then some (q2.1, q2.2) else none)) else some ((1 : Int32), psI σ 249 12 ((σ.1 249 12) + (1 : Int32))))
theorem gm_X12_makes : gM "AskedCampModel" yX12_makes (Cond.code yX12_makes cX12_makes 2 (Option.some Jvm.ClassFile.FieldType.boolean)) 1 := ⟨by decide +kernel, tw_1289, tw_p46, tw_12, tw_1290⟩
set_option maxHeartbeats 4000000 in
set_option maxRecDepth 100000 in
theorem c_X12_makes (l : Launch) (D : va_G) (ad : Nat → Nat) (ca : Nat → ClassId) (kz : Nat → Nat) (hJ : pInj ad) (n : Nat) (a1 : Int32) (σ : PS) (out : Int32 × PS) (hF : F_X12_makes n a1 σ = some out) : Met l yX12_makes (Cond.code yX12_makes cX12_makes 2 (Option.some Jvm.ClassFile.FieldType.boolean) :: gw_tbl) { frames := 1, cells := 0, slots := 0, locals := 22 } (va_Pc [.ref (ad (249)), .int a1] (pU D ad ca kz σ)) (pQi D ad ca out) 0 0 (pAD ad) := by
  refine q_entry (own := "AskedCampModel") hJ (by decide) rfl (Nat.le_of_ble_eq_true rfl) (fun p e s m below meth c C hr hlk => ?_)
  refine q_lv [(0, .ref (ad (249))), (1, .int a1)] rfl ?_
  rw [F_X12_makes] at hF
  refine q_aload_n C 0 dX12_makes_0 rfl rfl ?_
  refine qg_11_12 C pi_249 tw_1065 dX12_makes_1 ?_
  refine q_bipush (v := 60) C dX12_makes_4 (by decide) ?_
  refine q_icmp_ne (tgt := 16) C dX12_makes_6 (by decide) (fun c1 => ?_) (fun c1 => ?_)
  · replace hF := ife c1 hF
    refine q_aload_n C 0 dX12_makes_16 rfl rfl ?_
    refine q_dup C dX12_makes_17 rfl ?_
    refine qg_11_12 C pi_249 tw_1065 dX12_makes_18 ?_
    refine q_iconst (v := 1) C dX12_makes_21 (by decide) ?_
    refine q_iadd C dX12_makes_22 ?_
    refine qs_11_12 C pi_249 tw_1065 dX12_makes_23 ?_
    refine q_iconst (v := 1) C dX12_makes_26 (by decide) ?_
    exact q_zret C hr hlk dX12_makes_27 (by decide) hF
  · replace hF := ift c1 hF
    refine q_aload_n C 0 dX12_makes_9 rfl rfl ?_
    refine q_iconst (v := 3) C dX12_makes_10 (by decide) ?_
    refine q_iload_n C 1 dX12_makes_11 rfl rfl ?_
    obtain ⟨q2, h3, hF⟩ := bnd hF
    try dsimp only at hF
    refine q_callVi C [.int 3, .int a1] (c_X12_fails l D ad ca kz C.2.2.2.2.2.2.1 _ _ _ _ _ h3) tw_1227 gm_X12_fails pi_249.1 (pe_11 pi_249.2) rfl ⟨rfl, rfl⟩ ⟨Nat.le_of_ble_eq_true rfl, Nat.le_of_ble_eq_true rfl⟩ rfl (Nat.le_of_ble_eq_true rfl) dX12_makes_12 q00 ?_
    obtain ⟨g4, hF⟩ := grd hF
    exact q_zret C hr hlk dX12_makes_15 g4 hF
-- X12_wordHere
def F_X12_wordHere (n : Nat) (σ : PS) : Option (Int32 × PS) := (F_X12_isWord n (1667591276 : Int64) σ).bind (fun q1 => (if q1.1 = 0 then (F_X12_isWord n (7499639 : Int64) q1.2).bind (fun q4 => (if q4.1 = 0 then (F_X12_isWord n (109330212154734 : Int64) q4.2).bind (fun q7 => (if q7.1 = 0 then (F_X12_isWord n (499917943923 : Int64) q7.2).bind (fun q10 => (if q10.1 = 0 then (F_X12_isWord n (474148402789 : Int64) q10.2).bind (fun q13 => (if q13.1 = 0 then (F_X12_isWord n (1650812270 : Int64) q13.2).bind (fun q16 => (if q16.1 = 0 then (F_X12_isWord n (1852137842 : Int64) q16.2).bind (fun q19 => (if q19.1 = 0 then (F_X12_isWord n (108256586917235 : Int64) q19.2).bind (fun q22 => (if q22.1 = 0 then (F_X12_isWord n (1651078259 : Int64) q22.2).bind (fun q25 => (if q25.1 = 0 then (F_X12_isWord n (418548245860 : Int64) q25.2).bind (fun q28 => (if q28.1 = 0 then (F_X12_isWord n (1937007984 : Int64) q28.2).bind (fun q31 => (if q31.1 = 0 then some ((-1 : Int32), q31.2) else some ((10 : Int32), q31.2))) else some ((9 : Int32), q28.2))) else some ((8 : Int32), q25.2))) else some ((7 : Int32), q22.2))) else some ((6 : Int32), q19.2))) else some ((5 : Int32), q16.2))) else some ((4 : Int32), q13.2))) else some ((3 : Int32), q10.2))) else some ((2 : Int32), q7.2))) else some ((1 : Int32), q4.2))) else some ((0 : Int32), q1.2)))
theorem gm_X12_wordHere : gM "AskedCampModel" yX12_wordHere (Cond.code yX12_wordHere cX12_wordHere 1 (Option.some Jvm.ClassFile.FieldType.int)) 0 := ⟨by decide +kernel, tw_1297, tw_p48, tw_12, tw_1298⟩
set_option maxHeartbeats 4000000 in
set_option maxRecDepth 100000 in
theorem c_X12_wordHere (l : Launch) (D : va_G) (ad : Nat → Nat) (ca : Nat → ClassId) (kz : Nat → Nat) (hJ : pInj ad) (n : Nat) (σ : PS) (out : Int32 × PS) (hF : F_X12_wordHere n σ = some out) : Met l yX12_wordHere (Cond.code yX12_wordHere cX12_wordHere 1 (Option.some Jvm.ClassFile.FieldType.int) :: gw_tbl) { frames := 2, cells := 0, slots := 0, locals := 46 } (va_Pc [.ref (ad (249))] (pU D ad ca kz σ)) (pQi D ad ca out) 0 0 (pAD ad) := by
  refine q_entry (own := "AskedCampModel") hJ (by decide) rfl (Nat.le_of_ble_eq_true rfl) (fun p e s m below meth c C hr hlk => ?_)
  refine q_lv [(0, .ref (ad (249)))] rfl ?_
  rw [F_X12_wordHere] at hF
  refine q_aload_n C 0 dX12_wordHere_0 rfl rfl ?_
  refine q_ldc2 C dX12_wordHere_1 tw_1299 ?_
  obtain ⟨q1, h2, hF⟩ := bnd hF
  try dsimp only at hF
  refine q_callVi C [.long ((1667591276 : Int64))] (c_X12_isWord l D ad ca kz C.2.2.2.2.2.2.1 _ _ _ _ h2) tw_1216 gm_X12_isWord pi_249.1 (pe_11 pi_249.2) rfl ⟨rfl, rfl⟩ ⟨Nat.le_of_ble_eq_true rfl, Nat.le_of_ble_eq_true rfl⟩ rfl (Nat.le_of_ble_eq_true rfl) dX12_wordHere_4 q00 ?_
  refine q_if_eq (tgt := 12) C dX12_wordHere_7 (by decide) (fun c3 => ?_) (fun c3 => ?_)
  · replace hF := ift c3 hF
    refine q_aload_n C 0 dX12_wordHere_12 rfl rfl ?_
    refine q_ldc2 C dX12_wordHere_13 tw_1300 ?_
    obtain ⟨q4, h5, hF⟩ := bnd hF
    try dsimp only at hF
    refine q_callVi C [.long ((7499639 : Int64))] (c_X12_isWord l D ad ca kz C.2.2.2.2.2.2.1 _ _ _ _ h5) tw_1216 gm_X12_isWord pi_249.1 (pe_11 pi_249.2) rfl ⟨rfl, rfl⟩ ⟨Nat.le_of_ble_eq_true rfl, Nat.le_of_ble_eq_true rfl⟩ rfl (Nat.le_of_ble_eq_true rfl) dX12_wordHere_16 q00 ?_
    refine q_if_eq (tgt := 24) C dX12_wordHere_19 (by decide) (fun c6 => ?_) (fun c6 => ?_)
    · replace hF := ift c6 hF
      refine q_aload_n C 0 dX12_wordHere_24 rfl rfl ?_
      refine q_ldc2 C dX12_wordHere_25 tw_1301 ?_
      obtain ⟨q7, h8, hF⟩ := bnd hF
      try dsimp only at hF
      refine q_callVi C [.long ((109330212154734 : Int64))] (c_X12_isWord l D ad ca kz C.2.2.2.2.2.2.1 _ _ _ _ h8) tw_1216 gm_X12_isWord pi_249.1 (pe_11 pi_249.2) rfl ⟨rfl, rfl⟩ ⟨Nat.le_of_ble_eq_true rfl, Nat.le_of_ble_eq_true rfl⟩ rfl (Nat.le_of_ble_eq_true rfl) dX12_wordHere_28 q00 ?_
      refine q_if_eq (tgt := 36) C dX12_wordHere_31 (by decide) (fun c9 => ?_) (fun c9 => ?_)
      · replace hF := ift c9 hF
        refine q_aload_n C 0 dX12_wordHere_36 rfl rfl ?_
        refine q_ldc2 C dX12_wordHere_37 tw_1302 ?_
        obtain ⟨q10, h11, hF⟩ := bnd hF
        try dsimp only at hF
        refine q_callVi C [.long ((499917943923 : Int64))] (c_X12_isWord l D ad ca kz C.2.2.2.2.2.2.1 _ _ _ _ h11) tw_1216 gm_X12_isWord pi_249.1 (pe_11 pi_249.2) rfl ⟨rfl, rfl⟩ ⟨Nat.le_of_ble_eq_true rfl, Nat.le_of_ble_eq_true rfl⟩ rfl (Nat.le_of_ble_eq_true rfl) dX12_wordHere_40 q00 ?_
        refine q_if_eq (tgt := 48) C dX12_wordHere_43 (by decide) (fun c12 => ?_) (fun c12 => ?_)
        · replace hF := ift c12 hF
          refine q_aload_n C 0 dX12_wordHere_48 rfl rfl ?_
          refine q_ldc2 C dX12_wordHere_49 tw_1303 ?_
          obtain ⟨q13, h14, hF⟩ := bnd hF
          try dsimp only at hF
          refine q_callVi C [.long ((474148402789 : Int64))] (c_X12_isWord l D ad ca kz C.2.2.2.2.2.2.1 _ _ _ _ h14) tw_1216 gm_X12_isWord pi_249.1 (pe_11 pi_249.2) rfl ⟨rfl, rfl⟩ ⟨Nat.le_of_ble_eq_true rfl, Nat.le_of_ble_eq_true rfl⟩ rfl (Nat.le_of_ble_eq_true rfl) dX12_wordHere_52 q00 ?_
          refine q_if_eq (tgt := 60) C dX12_wordHere_55 (by decide) (fun c15 => ?_) (fun c15 => ?_)
          · replace hF := ift c15 hF
            refine q_aload_n C 0 dX12_wordHere_60 rfl rfl ?_
            refine q_ldc2 C dX12_wordHere_61 tw_1304 ?_
            obtain ⟨q16, h17, hF⟩ := bnd hF
            try dsimp only at hF
            refine q_callVi C [.long ((1650812270 : Int64))] (c_X12_isWord l D ad ca kz C.2.2.2.2.2.2.1 _ _ _ _ h17) tw_1216 gm_X12_isWord pi_249.1 (pe_11 pi_249.2) rfl ⟨rfl, rfl⟩ ⟨Nat.le_of_ble_eq_true rfl, Nat.le_of_ble_eq_true rfl⟩ rfl (Nat.le_of_ble_eq_true rfl) dX12_wordHere_64 q00 ?_
            refine q_if_eq (tgt := 72) C dX12_wordHere_67 (by decide) (fun c18 => ?_) (fun c18 => ?_)
            · replace hF := ift c18 hF
              refine q_aload_n C 0 dX12_wordHere_72 rfl rfl ?_
              refine q_ldc2 C dX12_wordHere_73 tw_1305 ?_
              obtain ⟨q19, h20, hF⟩ := bnd hF
              try dsimp only at hF
              refine q_callVi C [.long ((1852137842 : Int64))] (c_X12_isWord l D ad ca kz C.2.2.2.2.2.2.1 _ _ _ _ h20) tw_1216 gm_X12_isWord pi_249.1 (pe_11 pi_249.2) rfl ⟨rfl, rfl⟩ ⟨Nat.le_of_ble_eq_true rfl, Nat.le_of_ble_eq_true rfl⟩ rfl (Nat.le_of_ble_eq_true rfl) dX12_wordHere_76 q00 ?_
              refine q_if_eq (tgt := 85) C dX12_wordHere_79 (by decide) (fun c21 => ?_) (fun c21 => ?_)
              · replace hF := ift c21 hF
                refine q_aload_n C 0 dX12_wordHere_85 rfl rfl ?_
                refine q_ldc2 C dX12_wordHere_86 tw_1306 ?_
                obtain ⟨q22, h23, hF⟩ := bnd hF
                try dsimp only at hF
                refine q_callVi C [.long ((108256586917235 : Int64))] (c_X12_isWord l D ad ca kz C.2.2.2.2.2.2.1 _ _ _ _ h23) tw_1216 gm_X12_isWord pi_249.1 (pe_11 pi_249.2) rfl ⟨rfl, rfl⟩ ⟨Nat.le_of_ble_eq_true rfl, Nat.le_of_ble_eq_true rfl⟩ rfl (Nat.le_of_ble_eq_true rfl) dX12_wordHere_89 q00 ?_
                refine q_if_eq (tgt := 98) C dX12_wordHere_92 (by decide) (fun c24 => ?_) (fun c24 => ?_)
                · replace hF := ift c24 hF
                  refine q_aload_n C 0 dX12_wordHere_98 rfl rfl ?_
                  refine q_ldc2 C dX12_wordHere_99 tw_1307 ?_
                  obtain ⟨q25, h26, hF⟩ := bnd hF
                  try dsimp only at hF
                  refine q_callVi C [.long ((1651078259 : Int64))] (c_X12_isWord l D ad ca kz C.2.2.2.2.2.2.1 _ _ _ _ h26) tw_1216 gm_X12_isWord pi_249.1 (pe_11 pi_249.2) rfl ⟨rfl, rfl⟩ ⟨Nat.le_of_ble_eq_true rfl, Nat.le_of_ble_eq_true rfl⟩ rfl (Nat.le_of_ble_eq_true rfl) dX12_wordHere_102 q00 ?_
                  refine q_if_eq (tgt := 111) C dX12_wordHere_105 (by decide) (fun c27 => ?_) (fun c27 => ?_)
                  · replace hF := ift c27 hF
                    refine q_aload_n C 0 dX12_wordHere_111 rfl rfl ?_
                    refine q_ldc2 C dX12_wordHere_112 tw_1308 ?_
                    obtain ⟨q28, h29, hF⟩ := bnd hF
                    try dsimp only at hF
                    refine q_callVi C [.long ((418548245860 : Int64))] (c_X12_isWord l D ad ca kz C.2.2.2.2.2.2.1 _ _ _ _ h29) tw_1216 gm_X12_isWord pi_249.1 (pe_11 pi_249.2) rfl ⟨rfl, rfl⟩ ⟨Nat.le_of_ble_eq_true rfl, Nat.le_of_ble_eq_true rfl⟩ rfl (Nat.le_of_ble_eq_true rfl) dX12_wordHere_115 q00 ?_
                    refine q_if_eq (tgt := 126) C dX12_wordHere_118 (by decide) (fun c30 => ?_) (fun c30 => ?_)
                    · replace hF := ift c30 hF
                      refine q_aload_n C 0 dX12_wordHere_126 rfl rfl ?_
                      refine q_ldc2 C dX12_wordHere_127 tw_1309 ?_
                      obtain ⟨q31, h32, hF⟩ := bnd hF
                      try dsimp only at hF
                      refine q_callVi C [.long ((1937007984 : Int64))] (c_X12_isWord l D ad ca kz C.2.2.2.2.2.2.1 _ _ _ _ h32) tw_1216 gm_X12_isWord pi_249.1 (pe_11 pi_249.2) rfl ⟨rfl, rfl⟩ ⟨Nat.le_of_ble_eq_true rfl, Nat.le_of_ble_eq_true rfl⟩ rfl (Nat.le_of_ble_eq_true rfl) dX12_wordHere_130 q00 ?_
                      refine q_if_eq (tgt := 141) C dX12_wordHere_133 (by decide) (fun c33 => ?_) (fun c33 => ?_)
                      · replace hF := ift c33 hF
                        refine q_iconst (v := -1) C dX12_wordHere_141 (by decide) ?_
                        exact q_iret C hr hlk dX12_wordHere_142 hF
                      · replace hF := ife c33 hF
                        refine q_bipush (v := 10) C dX12_wordHere_136 (by decide) ?_
                        refine q_goto (tgt := 142) C dX12_wordHere_138 (by decide) ?_
                        exact q_iret C hr hlk dX12_wordHere_142 hF
                    · replace hF := ife c30 hF
                      refine q_bipush (v := 9) C dX12_wordHere_121 (by decide) ?_
                      refine q_goto (tgt := 142) C dX12_wordHere_123 (by decide) ?_
                      exact q_iret C hr hlk dX12_wordHere_142 hF
                  · replace hF := ife c27 hF
                    refine q_bipush (v := 8) C dX12_wordHere_108 (by decide) ?_
                    exact q_iret C hr hlk dX12_wordHere_110 hF
                · replace hF := ife c24 hF
                  refine q_bipush (v := 7) C dX12_wordHere_95 (by decide) ?_
                  exact q_iret C hr hlk dX12_wordHere_97 hF
              · replace hF := ife c21 hF
                refine q_bipush (v := 6) C dX12_wordHere_82 (by decide) ?_
                exact q_iret C hr hlk dX12_wordHere_84 hF
            · replace hF := ife c18 hF
              refine q_iconst (v := 5) C dX12_wordHere_70 (by decide) ?_
              exact q_iret C hr hlk dX12_wordHere_71 hF
          · replace hF := ife c15 hF
            refine q_iconst (v := 4) C dX12_wordHere_58 (by decide) ?_
            exact q_iret C hr hlk dX12_wordHere_59 hF
        · replace hF := ife c12 hF
          refine q_iconst (v := 3) C dX12_wordHere_46 (by decide) ?_
          exact q_iret C hr hlk dX12_wordHere_47 hF
      · replace hF := ife c9 hF
        refine q_iconst (v := 2) C dX12_wordHere_34 (by decide) ?_
        exact q_iret C hr hlk dX12_wordHere_35 hF
    · replace hF := ife c6 hF
      refine q_iconst (v := 1) C dX12_wordHere_22 (by decide) ?_
      exact q_iret C hr hlk dX12_wordHere_23 hF
  · replace hF := ife c3 hF
    refine q_iconst (v := 0) C dX12_wordHere_10 (by decide) ?_
    exact q_iret C hr hlk dX12_wordHere_11 hF
