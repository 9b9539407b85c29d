-- X5_emit
def F_X5_emit (n : Nat) (a1 : Int32) (σ : PS) : Option (PS) := (if a1 = 0 then some σ else (if (400 : Int32) ≤ (σ.1 4 1) then some σ else (if 0 ≤ (σ.1 4 1) ∧ (σ.1 4 1).toNatClampNeg < 400 then some (psI (psI σ 5 ((σ.1 4 1).toNatClampNeg) a1) 4 1 (((psI σ 5 ((σ.1 4 1).toNatClampNeg) a1).1 4 1) + (1 : Int32))) else none)))
theorem gm_X5_emit : gM "AskedCamp$RuleReader" yX5_emit (Cond.code yX5_emit cX5_emit 2 (Option.none : Option Jvm.ClassFile.FieldType)) 1 := ⟨by decide +kernel, tw_598, tw_p6, tw_4, tw_599⟩
set_option maxHeartbeats 4000000 in
set_option maxRecDepth 100000 in
theorem c_X5_emit (l : Launch) (D : va_G) (ad : Nat → Nat) (ca : Nat → ClassId) (kz : Nat → Nat) (hJ : pInj ad) (n : Nat) (a1 : Int32) (σ : PS) (out : PS) (hF : F_X5_emit n a1 σ = some out) : Met l yX5_emit (Cond.code yX5_emit cX5_emit 2 (Option.none : Option Jvm.ClassFile.FieldType) :: gw_tbl) { frames := 0, cells := 0, slots := 0, locals := 0 } (va_Pc [.ref (ad (4)), .int a1] (pU D ad ca kz σ)) (pQv D ad ca out) 0 0 (pAD ad) := by
  refine q_entry (own := "AskedCamp$RuleReader") hJ (by decide) rfl (Nat.le_of_ble_eq_true rfl) (fun p e s m below meth c C hr hlk => ?_)
  refine q_lv [(0, .ref (ad (4))), (1, .int a1)] rfl ?_
  rw [F_X5_emit] at hF
  refine q_iload_n C 1 dX5_emit_0 rfl rfl ?_
  refine q_if_eq (tgt := 34) C dX5_emit_1 (by decide) (fun c1 => ?_) (fun c1 => ?_)
  · replace hF := ift c1 hF
    exact q_vret C hr hlk dX5_emit_34 hF
  · replace hF := ife c1 hF
    refine q_aload_n C 0 dX5_emit_4 rfl rfl ?_
    refine qg_4_1 C pi_4 tw_84 dX5_emit_5 ?_
    refine q_sipush (v := 400) C dX5_emit_8 (by decide) ?_
    refine q_icmp_ge (tgt := 34) C dX5_emit_11 (by decide) (fun c2 => ?_) (fun c2 => ?_)
    · replace hF := ift c2 hF
      exact q_vret C hr hlk dX5_emit_34 hF
    · replace hF := ife c2 hF
      refine q_aload_n C 0 dX5_emit_14 rfl rfl ?_
      refine qg_4_0 C pi_4 tw_82 dX5_emit_15 ?_
      refine q_aload_n C 0 dX5_emit_18 rfl rfl ?_
      refine qg_4_1 C pi_4 tw_84 dX5_emit_19 ?_
      refine q_iload_n C 1 dX5_emit_22 rfl rfl ?_
      obtain ⟨g3, hF⟩ := grd hF
      refine q_iast C pa_5 (vp_of g3) dX5_emit_23 ?_
      refine q_aload_n C 0 dX5_emit_24 rfl rfl ?_
      refine q_dup C dX5_emit_25 rfl ?_
      refine qg_4_1 C pi_4 tw_84 dX5_emit_26 ?_
      refine q_iconst (v := 1) C dX5_emit_29 (by decide) ?_
      refine q_iadd C dX5_emit_30 ?_
      refine qs_4_1 C pi_4 tw_84 dX5_emit_31 ?_
      exact q_vret C hr hlk dX5_emit_34 hF
-- X3_ofAdding
def F_X3_ofAdding (n : Nat) (a0 : Int32) (σ : PS) : Option (Int32 × PS) := (if a0 = (43 : Int32) then some ((-20 : Int32), σ) else (if a0 = (45 : Int32) then some ((-21 : Int32), σ) else some ((0 : Int32), σ)))
theorem gm_X3_ofAdding : gS yX3_ofAdding (Cond.code yX3_ofAdding cX3_ofAdding 1 (Option.some Jvm.ClassFile.FieldType.int)) 1 := ⟨by decide +kernel, tw_605, tw_18, tw_606⟩
set_option maxHeartbeats 4000000 in
set_option maxRecDepth 100000 in
theorem c_X3_ofAdding (l : Launch) (D : va_G) (ad : Nat → Nat) (ca : Nat → ClassId) (kz : Nat → Nat) (hJ : pInj ad) (n : Nat) (a0 : Int32) (σ : PS) (out : Int32 × PS) (hF : F_X3_ofAdding n a0 σ = some out) : Met l yX3_ofAdding (Cond.code yX3_ofAdding cX3_ofAdding 1 (Option.some Jvm.ClassFile.FieldType.int) :: gw_tbl) { frames := 0, cells := 0, slots := 0, locals := 0 } (va_Pc [.int a0] (pU D ad ca kz σ)) (pQi D ad ca out) 0 0 (pAD ad) := by
  refine q_entry (own := "AskedCamp$Op") hJ (by decide) rfl (Nat.le_of_ble_eq_true rfl) (fun p e s m below meth c C hr hlk => ?_)
  refine q_lv [(0, .int a0)] rfl ?_
  rw [F_X3_ofAdding] at hF
  refine q_iload_n C 0 dX3_ofAdding_0 rfl rfl ?_
  by_cases c1 : a0 = (43 : Int32)
  · replace hF := ift c1 hF
    refine q_lookup (off := 27) (tgt := 28) C dX3_ofAdding_1 (by decide) (by rw [c1] <;> rfl) (by decide) ?_
    refine q_bipush (v := -20) C dX3_ofAdding_28 (by decide) ?_
    exact q_iret C hr hlk dX3_ofAdding_30 hF
  replace hF := ife c1 hF
  by_cases c2 : a0 = (45 : Int32)
  · replace hF := ift c2 hF
    refine q_lookup (off := 30) (tgt := 31) C dX3_ofAdding_1 (by decide) (by rw [c2] <;> rfl) (by decide) ?_
    refine q_bipush (v := -21) C dX3_ofAdding_31 (by decide) ?_
    exact q_iret C hr hlk dX3_ofAdding_33 hF
  replace hF := ife c2 hF
  refine q_lookup (off := 33) (tgt := 34) C dX3_ofAdding_1 (by decide) (by have ec1 := (sw_ne c1).symm; have ec2 := (sw_ne c2).symm; simp only [sw_lit] at ec1 ec2; simp [Op.lookupswitch.offset, ec1, ec2]) (by decide) ?_
  refine q_iconst (v := 0) C dX3_ofAdding_34 (by decide) ?_
  exact q_iret C hr hlk dX3_ofAdding_35 hF
-- X3_ofMultiplying
def F_X3_ofMultiplying (n : Nat) (a0 : Int32) (σ : PS) : Option (Int32 × PS) := (if a0 = (37 : Int32) then some ((-24 : Int32), σ) else (if a0 = (42 : Int32) then some ((-22 : Int32), σ) else (if a0 = (47 : Int32) then some ((-23 : Int32), σ) else some ((0 : Int32), σ))))
theorem gm_X3_ofMultiplying : gS yX3_ofMultiplying (Cond.code yX3_ofMultiplying cX3_ofMultiplying 1 (Option.some Jvm.ClassFile.FieldType.int)) 1 := ⟨by decide +kernel, tw_602, tw_18, tw_603⟩
set_option maxHeartbeats 4000000 in
set_option maxRecDepth 100000 in
theorem c_X3_ofMultiplying (l : Launch) (D : va_G) (ad : Nat → Nat) (ca : Nat → ClassId) (kz : Nat → Nat) (hJ : pInj ad) (n : Nat) (a0 : Int32) (σ : PS) (out : Int32 × PS) (hF : F_X3_ofMultiplying n a0 σ = some out) : Met l yX3_ofMultiplying (Cond.code yX3_ofMultiplying cX3_ofMultiplying 1 (Option.some Jvm.ClassFile.FieldType.int) :: gw_tbl) { frames := 0, cells := 0, slots := 0, locals := 0 } (va_Pc [.int a0] (pU D ad ca kz σ)) (pQi D ad ca out) 0 0 (pAD ad) := by
  refine q_entry (own := "AskedCamp$Op") hJ (by decide) rfl (Nat.le_of_ble_eq_true rfl) (fun p e s m below meth c C hr hlk => ?_)
  refine q_lv [(0, .int a0)] rfl ?_
  rw [F_X3_ofMultiplying] at hF
  refine q_iload_n C 0 dX3_ofMultiplying_0 rfl rfl ?_
  by_cases c1 : a0 = (37 : Int32)
  · replace hF := ift c1 hF
    refine q_lookup (off := 41) (tgt := 42) C dX3_ofMultiplying_1 (by decide) (by rw [c1] <;> rfl) (by decide) ?_
    refine q_bipush (v := -24) C dX3_ofMultiplying_42 (by decide) ?_
    exact q_iret C hr hlk dX3_ofMultiplying_44 hF
  replace hF := ife c1 hF
  by_cases c2 : a0 = (42 : Int32)
  · replace hF := ift c2 hF
    refine q_lookup (off := 35) (tgt := 36) C dX3_ofMultiplying_1 (by decide) (by rw [c2] <;> rfl) (by decide) ?_
    refine q_bipush (v := -22) C dX3_ofMultiplying_36 (by decide) ?_
    exact q_iret C hr hlk dX3_ofMultiplying_38 hF
  replace hF := ife c2 hF
  by_cases c3 : a0 = (47 : Int32)
  · replace hF := ift c3 hF
    refine q_lookup (off := 38) (tgt := 39) C dX3_ofMultiplying_1 (by decide) (by rw [c3] <;> rfl) (by decide) ?_
    refine q_bipush (v := -23) C dX3_ofMultiplying_39 (by decide) ?_
    exact q_iret C hr hlk dX3_ofMultiplying_41 hF
  replace hF := ife c3 hF
  refine q_lookup (off := 44) (tgt := 45) C dX3_ofMultiplying_1 (by decide) (by have ec1 := (sw_ne c1).symm; have ec2 := (sw_ne c2).symm; have ec3 := (sw_ne c3).symm; simp only [sw_lit] at ec1 ec2 ec3; simp [Op.lookupswitch.offset, ec1, ec2, ec3]) (by decide) ?_
  refine q_iconst (v := 0) C dX3_ofMultiplying_45 (by decide) ?_
  exact q_iret C hr hlk dX3_ofMultiplying_46 hF
-- X5_countOne
def F_X5_countOne (n : Nat) (a1 : Int32) (σ : PS) : Option (PS) := (if ((psI σ 4 7 ((σ.1 4 7) + (1 : Int32))).1 4 7) ≤ (60 : Int32) then some (psI σ 4 7 ((σ.1 4 7) + (1 : Int32))) else (F_X9_fail n a1 (3 : Int32) (psI σ 4 7 ((σ.1 4 7) + (1 : Int32)))).bind (fun q2 => some q2))
theorem gm_X5_countOne : gM "AskedCamp$RuleReader" yX5_countOne (Cond.code yX5_countOne cX5_countOne 2 (Option.none : Option Jvm.ClassFile.FieldType)) 1 := ⟨by decide +kernel, tw_594, tw_p5, tw_4, tw_595⟩
set_option maxHeartbeats 4000000 in
set_option maxRecDepth 100000 in
theorem c_X5_countOne (l : Launch) (D : va_G) (ad : Nat → Nat) (ca : Nat → ClassId) (kz : Nat → Nat) (hJ : pInj ad) (n : Nat) (a1 : Int32) (σ : PS) (out : PS) (hF : F_X5_countOne n a1 σ = some out) : Met l yX5_countOne (Cond.code yX5_countOne cX5_countOne 2 (Option.none : Option Jvm.ClassFile.FieldType) :: gw_tbl) { frames := 1, cells := 0, slots := 0, locals := 22 } (va_Pc [.ref (ad (4)), .int a1] (pU D ad ca kz σ)) (pQv D ad ca out) 0 0 (pAD ad) := by
  refine q_entry (own := "AskedCamp$RuleReader") hJ (by decide) rfl (Nat.le_of_ble_eq_true rfl) (fun p e s m below meth c C hr hlk => ?_)
  refine q_lv [(0, .ref (ad (4))), (1, .int a1)] rfl ?_
  rw [F_X5_countOne] at hF
  refine q_aload_n C 0 dX5_countOne_0 rfl rfl ?_
  refine q_dup C dX5_countOne_1 rfl ?_
  refine qg_4_7 C pi_4 tw_91 dX5_countOne_2 ?_
  refine q_iconst (v := 1) C dX5_countOne_5 (by decide) ?_
  refine q_iadd C dX5_countOne_6 ?_
  refine qs_4_7 C pi_4 tw_91 dX5_countOne_7 ?_
  refine q_aload_n C 0 dX5_countOne_10 rfl rfl ?_
  refine qg_4_7 C pi_4 tw_91 dX5_countOne_11 ?_
  refine q_bipush (v := 60) C dX5_countOne_14 (by decide) ?_
  refine q_icmp_le (tgt := 28) C dX5_countOne_16 (by decide) (fun c1 => ?_) (fun c1 => ?_)
  · replace hF := ift c1 hF
    exact q_vret C hr hlk dX5_countOne_28 hF
  · replace hF := ife c1 hF
    refine q_aload_n C 0 dX5_countOne_19 rfl rfl ?_
    refine qg_4_2 C pi_4 tw_86 dX5_countOne_20 ?_
    refine q_iload_n C 1 dX5_countOne_23 rfl rfl ?_
    refine q_iconst (v := 3) C dX5_countOne_24 (by decide) ?_
    obtain ⟨q2, h3, hF⟩ := bnd hF
    try dsimp only at hF
    refine q_callVv C [.int a1, .int 3] (c_X9_fail l D ad ca kz C.2.2.2.2.2.2.1 _ _ _ _ _ h3) tw_562 gm_X9_fail pi_1.1 (pe_8 pi_1.2) rfl ⟨rfl, rfl⟩ ⟨Nat.le_of_ble_eq_true rfl, Nat.le_of_ble_eq_true rfl⟩ rfl (Nat.le_of_ble_eq_true rfl) dX5_countOne_25 ?_
    exact q_vret C hr hlk dX5_countOne_28 hF
-- X9_putWordBack
def F_X9_putWordBack (n : Nat) (σ : PS) : Option (PS) := some (psI σ 1 2 (σ.1 1 3))
theorem gm_X9_putWordBack : gM "AskedCamp$Tape" yX9_putWordBack (Cond.code yX9_putWordBack cX9_putWordBack 1 (Option.none : Option Jvm.ClassFile.FieldType)) 0 := ⟨by decide +kernel, tw_587, tw_588, tw_2, tw_589⟩
set_option maxHeartbeats 4000000 in
set_option maxRecDepth 100000 in
theorem c_X9_putWordBack (l : Launch) (D : va_G) (ad : Nat → Nat) (ca : Nat → ClassId) (kz : Nat → Nat) (hJ : pInj ad) (n : Nat) (σ : PS) (out : PS) (hF : F_X9_putWordBack n σ = some out) : Met l yX9_putWordBack (Cond.code yX9_putWordBack cX9_putWordBack 1 (Option.none : Option Jvm.ClassFile.FieldType) :: gw_tbl) { frames := 0, cells := 0, slots := 0, locals := 0 } (va_Pc [.ref (ad (1))] (pU D ad ca kz σ)) (pQv D ad ca out) 0 0 (pAD ad) := by
  refine q_entry (own := "AskedCamp$Tape") hJ (by decide) rfl (Nat.le_of_ble_eq_true rfl) (fun p e s m below meth c C hr hlk => ?_)
  refine q_lv [(0, .ref (ad (1)))] rfl ?_
  rw [F_X9_putWordBack] at hF
  refine q_aload_n C 0 dX9_putWordBack_0 rfl rfl ?_
  refine q_aload_n C 0 dX9_putWordBack_1 rfl rfl ?_
  refine qg_8_3 C pi_1 tw_45 dX9_putWordBack_2 ?_
  refine qs_8_2 C pi_1 tw_41 dX9_putWordBack_5 ?_
  exact q_vret C hr hlk dX9_putWordBack_8 hF
-- X5_popDownTo
def L_X5_popDownTo_7 (n : Nat) : Nat → Int32 → Int32 → PS → Option (Nat × PS)
  | 0, _, _, _ => none
  | k + 1, x1, x2, σ => (if x2 < 0 then some (1, σ) else (if 0 ≤ x2 ∧ x2.toNatClampNeg < 33 then (if (σ.1 6 x2.toNatClampNeg) = (-33 : Int32) then some (0, σ) else (if (σ.1 6 x2.toNatClampNeg) ≤ x1 then (if (σ.1 6 x2.toNatClampNeg) = (-36 : Int32) then (F_X5_emit n (σ.1 6 x2.toNatClampNeg) (psI σ 4 5 ((σ.1 4 5) - (1 : Int32)))).bind (fun q8 => L_X5_popDownTo_7 n k x1 (x2 + (-1)) (psI q8 4 4 x2)) else (F_X5_emit n (σ.1 6 x2.toNatClampNeg) σ).bind (fun q6 => L_X5_popDownTo_7 n k x1 (x2 + (-1)) (psI q6 4 4 x2))) else some (0, σ))) else none))
def F_X5_popDownTo (n : Nat) (a1 : Int32) (σ : PS) : Option (PS) := (L_X5_popDownTo_7 n n a1 ((σ.1 4 4) - (1 : Int32)) σ).bind (fun o10 => (if o10.1 = 0 then some o10.2 else some o10.2))
theorem gm_X5_popDownTo : gM "AskedCamp$RuleReader" yX5_popDownTo (Cond.code yX5_popDownTo cX5_popDownTo 4 (Option.none : Option Jvm.ClassFile.FieldType)) 1 := ⟨by decide +kernel, tw_638, tw_p13, tw_4, tw_639⟩
set_option maxHeartbeats 4000000 in
set_option maxRecDepth 100000 in
theorem l_X5_popDownTo_7 {p : Program} {l : Launch} {e : Env} {R : Room} {s : State} {m : MethodId} {args : Array Value} {below : List Frame} {meth : Method} {c : Code} {D : va_G} {ad : Nat → Nat} {ca : Nat → ClassId} {kz : Nat → Nat} {Q : State → Prop} (C : pC p s m args c cX5_popDownTo "AskedCamp$RuleReader" 4 D ad ca kz) (hR : 1 ≤ R.frames ∧ 21 ≤ R.locals) {n : Nat} (o : Nat × PS) (hx0 : o.1 = 0 → PW p l e R s m args below meth c 4 D ad ca Q (o.2) 29 [] []) (hx1 : o.1 = 1 → PW p l e R s m args below meth c 4 D ad ca Q (o.2) 62 [] []) : ∀ (k : Nat) (x1 : Int32) (x2 : Int32) (σ : PS), L_X5_popDownTo_7 n k x1 x2 σ = some o → PW p l e R s m args below meth c 4 D ad ca Q σ 7 [(0, .ref (ad (4))), (1, .int x1), (2, .int x2)] [] := by
  intro k
  induction k with
  | zero => intro x1 x2 σ hF; exact nomatch (show (none : Option (Nat × PS)) = some o from hF)
  | succ k ih =>
    intro x1 x2 σ hF
    rw [L_X5_popDownTo_7] at hF
    refine q_iload_n C 2 dX5_popDownTo_7 rfl rfl ?_
    refine q_if_lt (tgt := 62) C dX5_popDownTo_8 (by decide) (fun c1 => ?_) (fun c1 => ?_)
    · replace hF := ift c1 hF
      cases hF
      refine q_sub [] rfl ?_
      exact hx1 rfl
    · replace hF := ife c1 hF
      refine q_aload_n C 0 dX5_popDownTo_11 rfl rfl ?_
      refine qg_4_3 C pi_4 tw_87 dX5_popDownTo_12 ?_
      refine q_iload_n C 2 dX5_popDownTo_15 rfl rfl ?_
      obtain ⟨g2, hF⟩ := grd hF
      refine q_iald C pa_6 (vp_of g2) dX5_popDownTo_16 ?_
      refine q_istore_n C [(3, .int (σ.1 6 x2.toNatClampNeg)), (0, .ref (ad (4))), (1, .int x1), (2, .int x2)] dX5_popDownTo_17 rfl (by decide) rfl ?_
      refine q_iload_n C 0 dX5_popDownTo_18 rfl rfl ?_
      refine q_bipush (v := -33) C dX5_popDownTo_19 (by decide) ?_
      refine q_icmp_eq (tgt := 29) C dX5_popDownTo_21 (by decide) (fun c3 => ?_) (fun c3 => ?_)
      · replace hF := ift c3 hF
        cases hF
        refine q_sub [] rfl ?_
        exact hx0 rfl
      · replace hF := ife c3 hF
        refine q_iload_n C 0 dX5_popDownTo_24 rfl rfl ?_
        refine q_iload_n C 2 dX5_popDownTo_25 rfl rfl ?_
        refine q_icmp_le (tgt := 30) C dX5_popDownTo_26 (by decide) (fun c4 => ?_) (fun c4 => ?_)
        · replace hF := ift c4 hF
          refine q_iload_n C 0 dX5_popDownTo_30 rfl rfl ?_
          refine q_bipush (v := -36) C dX5_popDownTo_31 (by decide) ?_
          refine q_icmp_ne (tgt := 46) C dX5_popDownTo_33 (by decide) (fun c5 => ?_) (fun c5 => ?_)
          · replace hF := ife c5 hF
            refine q_aload_n C 1 dX5_popDownTo_46 rfl rfl ?_
            refine q_iload_n C 0 dX5_popDownTo_47 rfl rfl ?_
            obtain ⟨q6, h7, hF⟩ := bnd hF
            try dsimp only at hF
            refine q_callVv C [.int (σ.1 6 x2.toNatClampNeg)] (c_X5_emit l D ad ca kz C.2.2.2.2.2.2.1 _ _ _ _ h7) tw_596 gm_X5_emit pi_4.1 (pe_4 pi_4.2) rfl ⟨rfl, rfl⟩ ⟨Nat.le_trans (Nat.le_of_ble_eq_true rfl) hR.1, Nat.le_trans (Nat.le_of_ble_eq_true rfl) hR.2⟩ rfl (Nat.le_of_ble_eq_true rfl) dX5_popDownTo_48 ?_
            refine q_aload_n C 1 dX5_popDownTo_51 rfl rfl ?_
            refine q_iload_n C 3 dX5_popDownTo_52 rfl rfl ?_
            refine qs_4_4 C pi_4 tw_88 dX5_popDownTo_53 ?_
            refine q_iinc C 3 [(2, .int (x2 + (-1))), (3, .int (σ.1 6 x2.toNatClampNeg)), (0, .ref (ad (4))), (1, .int x1)] dX5_popDownTo_56 rfl rfl (by decide) rfl ?_
            refine q_goto (tgt := 7) C dX5_popDownTo_59 (by decide) ?_
            refine q_sub [2, 3, 0] rfl ?_
            exact ih _ _ _ hF
          · replace hF := ift c5 hF
            refine q_aload_n C 1 dX5_popDownTo_36 rfl rfl ?_
            refine q_dup C dX5_popDownTo_37 rfl ?_
            refine qg_4_5 C pi_4 tw_89 dX5_popDownTo_38 ?_
            refine q_iconst (v := 1) C dX5_popDownTo_41 (by decide) ?_
            refine q_isub C dX5_popDownTo_42 ?_
            refine qs_4_5 C pi_4 tw_89 dX5_popDownTo_43 ?_
            refine q_aload_n C 1 dX5_popDownTo_46 rfl rfl ?_
            refine q_iload_n C 0 dX5_popDownTo_47 rfl rfl ?_
            obtain ⟨q8, h9, hF⟩ := bnd hF
            try dsimp only at hF
            refine q_callVv C [.int (σ.1 6 x2.toNatClampNeg)] (c_X5_emit l D ad ca kz C.2.2.2.2.2.2.1 _ _ _ _ h9) tw_596 gm_X5_emit pi_4.1 (pe_4 pi_4.2) rfl ⟨rfl, rfl⟩ ⟨Nat.le_trans (Nat.le_of_ble_eq_true rfl) hR.1, Nat.le_trans (Nat.le_of_ble_eq_true rfl) hR.2⟩ rfl (Nat.le_of_ble_eq_true rfl) dX5_popDownTo_48 ?_
            refine q_aload_n C 1 dX5_popDownTo_51 rfl rfl ?_
            refine q_iload_n C 3 dX5_popDownTo_52 rfl rfl ?_
            refine qs_4_4 C pi_4 tw_88 dX5_popDownTo_53 ?_
            refine q_iinc C 3 [(2, .int (x2 + (-1))), (3, .int (σ.1 6 x2.toNatClampNeg)), (0, .ref (ad (4))), (1, .int x1)] dX5_popDownTo_56 rfl rfl (by decide) rfl ?_
            refine q_goto (tgt := 7) C dX5_popDownTo_59 (by decide) ?_
            refine q_sub [2, 3, 0] rfl ?_
            exact ih _ _ _ hF
        · replace hF := ife c4 hF
          cases hF
          refine q_sub [] rfl ?_
          exact hx0 rfl
set_option maxHeartbeats 4000000 in
set_option maxRecDepth 100000 in
theorem c_X5_popDownTo (l : Launch) (D : va_G) (ad : Nat → Nat) (ca : Nat → ClassId) (kz : Nat → Nat) (hJ : pInj ad) (n : Nat) (a1 : Int32) (σ : PS) (out : PS) (hF : F_X5_popDownTo n a1 σ = some out) : Met l yX5_popDownTo (Cond.code yX5_popDownTo cX5_popDownTo 4 (Option.none : Option Jvm.ClassFile.FieldType) :: gw_tbl) { frames := 1, cells := 0, slots := 0, locals := 21 } (va_Pc [.ref (ad (4)), .int a1] (pU D ad ca kz σ)) (pQv D ad ca out) 0 0 (pAD ad) := by
  refine q_entry (own := "AskedCamp$RuleReader") hJ (by decide) rfl (Nat.le_of_ble_eq_true rfl) (fun p e s m below meth c C hr hlk => ?_)
  refine q_lv [(0, .ref (ad (4))), (1, .int a1)] rfl ?_
  rw [F_X5_popDownTo] at hF
  refine q_aload_n C 0 dX5_popDownTo_0 rfl rfl ?_
  refine qg_4_4 C pi_4 tw_88 dX5_popDownTo_1 ?_
  refine q_iconst (v := 1) C dX5_popDownTo_4 (by decide) ?_
  refine q_isub C dX5_popDownTo_5 ?_
  refine q_istore_n C [(2, .int ((σ.1 4 4) - (1 : Int32))), (0, .ref (ad (4))), (1, .int a1)] dX5_popDownTo_6 rfl (by decide) rfl ?_
  obtain ⟨o10, h11, hF⟩ := bnd hF
  try dsimp only at hF
  refine q_sub [1, 2, 0] rfl ?_
  refine l_X5_popDownTo_7 C ⟨Nat.le_of_ble_eq_true rfl, Nat.le_of_ble_eq_true rfl⟩ o10 (fun eo10_0 => ?_) (fun eo10_1 => ?_) n _ _ _ h11
  · -- exit 0
    replace hF := ift eo10_0 hF
    exact q_vret C hr hlk dX5_popDownTo_29 hF
  · -- exit 1
    replace hF := ife (by rw [eo10_1]; decide) hF
    exact q_vret C hr hlk dX5_popDownTo_62 hF
-- X5_push
def F_X5_push (n : Nat) (a1 : Int32) (σ : PS) : Option (PS) := (if (Int32.ofNat 33) ≤ (σ.1 4 4) then some σ else (if 0 ≤ (σ.1 4 4) ∧ (σ.1 4 4).toNatClampNeg < 33 then some (psI (psI σ 6 ((σ.1 4 4).toNatClampNeg) a1) 4 4 (((psI σ 6 ((σ.1 4 4).toNatClampNeg) a1).1 4 4) + (1 : Int32))) else none))
theorem gm_X5_push : gM "AskedCamp$RuleReader" yX5_push (Cond.code yX5_push cX5_push 2 (Option.none : Option Jvm.ClassFile.FieldType)) 1 := ⟨by decide +kernel, tw_630, tw_p11, tw_4, tw_631⟩
set_option maxHeartbeats 4000000 in
set_option maxRecDepth 100000 in
theorem c_X5_push (l : Launch) (D : va_G) (ad : Nat → Nat) (ca : Nat → ClassId) (kz : Nat → Nat) (hJ : pInj ad) (n : Nat) (a1 : Int32) (σ : PS) (out : PS) (hF : F_X5_push n a1 σ = some out) : Met l yX5_push (Cond.code yX5_push cX5_push 2 (Option.none : Option Jvm.ClassFile.FieldType) :: gw_tbl) { frames := 0, cells := 0, slots := 0, locals := 0 } (va_Pc [.ref (ad (4)), .int a1] (pU D ad ca kz σ)) (pQv D ad ca out) 0 0 (pAD ad) := by
  refine q_entry (own := "AskedCamp$RuleReader") hJ (by decide) rfl (Nat.le_of_ble_eq_true rfl) (fun p e s m below meth c C hr hlk => ?_)
  refine q_lv [(0, .ref (ad (4))), (1, .int a1)] rfl ?_
  rw [F_X5_push] at hF
  refine q_aload_n C 0 dX5_push_0 rfl rfl ?_
  refine qg_4_4 C pi_4 tw_88 dX5_push_1 ?_
  refine q_aload_n C 0 dX5_push_4 rfl rfl ?_
  refine qg_4_3 C pi_4 tw_87 dX5_push_5 ?_
  refine q_alen21 C pa_6 dX5_push_8 ?_
  refine q_icmp_ge (tgt := 32) C dX5_push_9 (by decide) (fun c1 => ?_) (fun c1 => ?_)
  · replace hF := ift c1 hF
    exact q_vret C hr hlk dX5_push_32 hF
  · replace hF := ife c1 hF
    refine q_aload_n C 0 dX5_push_12 rfl rfl ?_
    refine qg_4_3 C pi_4 tw_87 dX5_push_13 ?_
    refine q_aload_n C 0 dX5_push_16 rfl rfl ?_
    refine qg_4_4 C pi_4 tw_88 dX5_push_17 ?_
    refine q_iload_n C 1 dX5_push_20 rfl rfl ?_
    obtain ⟨g2, hF⟩ := grd hF
    refine q_iast C pa_6 (vp_of g2) dX5_push_21 ?_
    refine q_aload_n C 0 dX5_push_22 rfl rfl ?_
    refine q_dup C dX5_push_23 rfl ?_
    refine qg_4_4 C pi_4 tw_88 dX5_push_24 ?_
    refine q_iconst (v := 1) C dX5_push_27 (by decide) ?_
    refine q_iadd C dX5_push_28 ?_
    refine qs_4_4 C pi_4 tw_88 dX5_push_29 ?_
    exact q_vret C hr hlk dX5_push_32 hF
-- X3_ofSign
def F_X3_ofSign (n : Nat) (a0 : Int32) (σ : PS) : Option (Int32 × PS) := (if a0 = (60 : Int32) then some ((-25 : Int32), σ) else (if a0 = (61 : Int32) then some ((-27 : Int32), σ) else (if a0 = (62 : Int32) then some ((-29 : Int32), σ) else some ((0 : Int32), σ))))
theorem gm_X3_ofSign : gS yX3_ofSign (Cond.code yX3_ofSign cX3_ofSign 1 (Option.some Jvm.ClassFile.FieldType.int)) 1 := ⟨by decide +kernel, tw_626, tw_18, tw_627⟩
set_option maxHeartbeats 4000000 in
set_option maxRecDepth 100000 in
theorem c_X3_ofSign (l : Launch) (D : va_G) (ad : Nat → Nat) (ca : Nat → ClassId) (kz : Nat → Nat) (hJ : pInj ad) (n : Nat) (a0 : Int32) (σ : PS) (out : Int32 × PS) (hF : F_X3_ofSign n a0 σ = some out) : Met l yX3_ofSign (Cond.code yX3_ofSign cX3_ofSign 1 (Option.some Jvm.ClassFile.FieldType.int) :: gw_tbl) { frames := 0, cells := 0, slots := 0, locals := 0 } (va_Pc [.int a0] (pU D ad ca kz σ)) (pQi D ad ca out) 0 0 (pAD ad) := by
  refine q_entry (own := "AskedCamp$Op") hJ (by decide) rfl (Nat.le_of_ble_eq_true rfl) (fun p e s m below meth c C hr hlk => ?_)
  refine q_lv [(0, .int a0)] rfl ?_
  rw [F_X3_ofSign] at hF
  refine q_iload_n C 0 dX3_ofSign_0 rfl rfl ?_
  by_cases c1 : a0 = (60 : Int32)
  · replace hF := ift c1 hF
    refine q_tableIn (off := 27) (tgt := 28) C dX3_ofSign_1 (by rw [c1]; decide) (by rw [c1]; decide) (by rw [c1] <;> rfl) (by decide) ?_
    refine q_bipush (v := -25) C dX3_ofSign_28 (by decide) ?_
    exact q_iret C hr hlk dX3_ofSign_30 hF
  replace hF := ife c1 hF
  by_cases c2 : a0 = (61 : Int32)
  · replace hF := ift c2 hF
    refine q_tableIn (off := 30) (tgt := 31) C dX3_ofSign_1 (by rw [c2]; decide) (by rw [c2]; decide) (by rw [c2] <;> rfl) (by decide) ?_
    refine q_bipush (v := -27) C dX3_ofSign_31 (by decide) ?_
    exact q_iret C hr hlk dX3_ofSign_33 hF
  replace hF := ife c2 hF
  by_cases c3 : a0 = (62 : Int32)
  · replace hF := ift c3 hF
    refine q_tableIn (off := 33) (tgt := 34) C dX3_ofSign_1 (by rw [c3]; decide) (by rw [c3]; decide) (by rw [c3] <;> rfl) (by decide) ?_
    refine q_bipush (v := -29) C dX3_ofSign_34 (by decide) ?_
    exact q_iret C hr hlk dX3_ofSign_36 hF
  replace hF := ife c3 hF
  refine q_tableOut (tgt := 37) C dX3_ofSign_1 (by have ec1 := sw_ne c1; have ec2 := sw_ne c2; have ec3 := sw_ne c3; simp only [sw_lit] at ec1 ec2 ec3; omega) (by decide) ?_
  refine q_iconst (v := 0) C dX3_ofSign_37 (by decide) ?_
  exact q_iret C hr hlk dX3_ofSign_38 hF
-- X5_readSign
def F_X5_readSign (n : Nat) (σ : PS) : Option (Int32 × PS) := (if (σ.1 1 5) = 0 then (F_X9_peek n σ).bind (fun q2 => (F_X3_ofSign n q2.1 q2.2).bind (fun q4 => (if q4.1 = 0 then (F_X9_fail n (q2.2.1 1 2) (0 : Int32) q4.2).bind (fun q47 => some ((0 : Int32), q47)) else (if q4.1 = (-27 : Int32) then (if (0 : Int32) = 0 then (F_X5_countOne n (q2.2.1 1 2) (psI q4.2 1 2 ((q4.2.1 1 2) + (1 : Int32)))).bind (fun q9 => (if (0 : Int32) = 0 then some (q4.1, q9) else (if q4.1 = (-25 : Int32) then some ((-26 : Int32), q9) else some ((-28 : Int32), q9)))) else (F_X5_countOne n (q2.2.1 1 2) (psI (psI q4.2 1 2 ((q4.2.1 1 2) + (1 : Int32))) 1 2 (((psI q4.2 1 2 ((q4.2.1 1 2) + (1 : Int32))).1 1 2) + (1 : Int32)))).bind (fun q13 => (if (0 : Int32) = 0 then some (q4.1, q13) else (if q4.1 = (-25 : Int32) then some ((-26 : Int32), q13) else some ((-28 : Int32), q13))))) else (if ((psI q4.2 1 2 ((q4.2.1 1 2) + (1 : Int32))).1 1 1) ≤ ((psI q4.2 1 2 ((q4.2.1 1 2) + (1 : Int32))).1 1 2) then (if (0 : Int32) = 0 then (F_X5_countOne n (q2.2.1 1 2) (psI q4.2 1 2 ((q4.2.1 1 2) + (1 : Int32)))).bind (fun q19 => (if (0 : Int32) = 0 then some (q4.1, q19) else (if q4.1 = (-25 : Int32) then some ((-26 : Int32), q19) else some ((-28 : Int32), q19)))) else (F_X5_countOne n (q2.2.1 1 2) (psI (psI q4.2 1 2 ((q4.2.1 1 2) + (1 : Int32))) 1 2 (((psI q4.2 1 2 ((q4.2.1 1 2) + (1 : Int32))).1 1 2) + (1 : Int32)))).bind (fun q23 => (if (0 : Int32) = 0 then some (q4.1, q23) else (if q4.1 = (-25 : Int32) then some ((-26 : Int32), q23) else some ((-28 : Int32), q23))))) else (if 0 ≤ ((psI q4.2 1 2 ((q4.2.1 1 2) + (1 : Int32))).1 1 2) ∧ ((psI q4.2 1 2 ((q4.2.1 1 2) + (1 : Int32))).1 1 2).toNatClampNeg < 400 then (if ((psI q4.2 1 2 ((q4.2.1 1 2) + (1 : Int32))).1 2 (((psI q4.2 1 2 ((q4.2.1 1 2) + (1 : Int32))).1 1 2).toNatClampNeg)) = (61 : Int32) then (if (1 : Int32) = 0 then (F_X5_countOne n (q2.2.1 1 2) (psI q4.2 1 2 ((q4.2.1 1 2) + (1 : Int32)))).bind (fun q39 => (if (1 : Int32) = 0 then some (q4.1, q39) else (if q4.1 = (-25 : Int32) then some ((-26 : Int32), q39) else some ((-28 : Int32), q39)))) else (F_X5_countOne n (q2.2.1 1 2) (psI (psI q4.2 1 2 ((q4.2.1 1 2) + (1 : Int32))) 1 2 (((psI q4.2 1 2 ((q4.2.1 1 2) + (1 : Int32))).1 1 2) + (1 : Int32)))).bind (fun q43 => (if (1 : Int32) = 0 then some (q4.1, q43) else (if q4.1 = (-25 : Int32) then some ((-26 : Int32), q43) else some ((-28 : Int32), q43))))) else (if (0 : Int32) = 0 then (F_X5_countOne n (q2.2.1 1 2) (psI q4.2 1 2 ((q4.2.1 1 2) + (1 : Int32)))).bind (fun q30 => (if (0 : Int32) = 0 then some (q4.1, q30) else (if q4.1 = (-25 : Int32) then some ((-26 : Int32), q30) else some ((-28 : Int32), q30)))) else (F_X5_countOne n (q2.2.1 1 2) (psI (psI q4.2 1 2 ((q4.2.1 1 2) + (1 : Int32))) 1 2 (((psI q4.2 1 2 ((q4.2.1 1 2) + (1 : Int32))).1 1 2) + (1 : Int32)))).bind (fun q34 => (if (0 : Int32) = 0 then some (q4.1, q34) else (if q4.1 = (-25 : Int32) then some ((-26 : Int32), q34) else some ((-28 : Int32), q34)))))) else none)))))) else some ((0 : Int32), σ))
theorem gm_X5_readSign : gM "AskedCamp$RuleReader" yX5_readSign (Cond.code yX5_readSign cX5_readSign 5 (Option.some Jvm.ClassFile.FieldType.int)) 0 := ⟨by decide +kernel, tw_623, tw_p10, tw_4, tw_624⟩
set_option maxHeartbeats 4000000 in
set_option maxRecDepth 100000 in
theorem c_X5_readSign (l : Launch) (D : va_G) (ad : Nat → Nat) (ca : Nat → ClassId) (kz : Nat → Nat) (hJ : pInj ad) (n : Nat) (σ : PS) (out : Int32 × PS) (hF : F_X5_readSign n σ = some out) : Met l yX5_readSign (Cond.code yX5_readSign cX5_readSign 5 (Option.some Jvm.ClassFile.FieldType.int) :: gw_tbl) { frames := 2, cells := 0, slots := 0, locals := 43 } (va_Pc [.ref (ad (4))] (pU D ad ca kz σ)) (pQi D ad ca out) 0 0 (pAD ad) := by
  refine q_entry (own := "AskedCamp$RuleReader") hJ (by decide) rfl (Nat.le_of_ble_eq_true rfl) (fun p e s m below meth c C hr hlk => ?_)
  refine q_lv [(0, .ref (ad (4)))] rfl ?_
  rw [F_X5_readSign] at hF
  refine q_aload_n C 0 dX5_readSign_0 rfl rfl ?_
  refine qg_4_2 C pi_4 tw_86 dX5_readSign_1 ?_
  refine qg_8_5 C pi_1 tw_49 dX5_readSign_4 ?_
  refine q_if_eq (tgt := 12) C dX5_readSign_7 (by decide) (fun c1 => ?_) (fun c1 => ?_)
  · replace hF := ift c1 hF
    refine q_aload_n C 0 dX5_readSign_12 rfl rfl ?_
    refine qg_4_2 C pi_4 tw_86 dX5_readSign_13 ?_
    obtain ⟨q2, h3, hF⟩ := bnd hF
    try dsimp only at hF
    refine q_callVi C [] (c_X9_peek l D ad ca kz C.2.2.2.2.2.2.1 _ _ _ h3) tw_600 gm_X9_peek pi_1.1 (pe_8 pi_1.2) rfl ⟨rfl, rfl⟩ ⟨Nat.le_of_ble_eq_true rfl, Nat.le_of_ble_eq_true rfl⟩ rfl (Nat.le_of_ble_eq_true rfl) dX5_readSign_16 ?_
    refine q_istore_n C [(1, .int q2.1), (0, .ref (ad (4)))] dX5_readSign_19 rfl (by decide) rfl ?_
    refine q_aload_n C 1 dX5_readSign_20 rfl rfl ?_
    refine qg_4_2 C pi_4 tw_86 dX5_readSign_21 ?_
    refine qg_8_2 C pi_1 tw_42 dX5_readSign_24 ?_
    refine q_istore_n C [(2, .int (q2.2.1 1 2)), (1, .int q2.1), (0, .ref (ad (4)))] dX5_readSign_27 rfl (by decide) rfl ?_
    refine q_iload_n C 1 dX5_readSign_28 rfl rfl ?_
    obtain ⟨q4, h5, hF⟩ := bnd hF
    try dsimp only at hF
    refine q_callSi C [.int q2.1] (c_X3_ofSign l D ad ca kz C.2.2.2.2.2.2.1 _ _ _ _ h5) tw_625 gm_X3_ofSign ⟨rfl, rfl⟩ ⟨Nat.le_of_ble_eq_true rfl, Nat.le_of_ble_eq_true rfl⟩ rfl (Nat.le_of_ble_eq_true rfl) dX5_readSign_29 ?_
    refine q_istore_n C [(3, .int q4.1), (2, .int (q2.2.1 1 2)), (1, .int q2.1), (0, .ref (ad (4)))] dX5_readSign_32 rfl (by decide) rfl ?_
    refine q_iload_n C 0 dX5_readSign_33 rfl rfl ?_
    refine q_if_ne (tgt := 48) C dX5_readSign_34 (by decide) (fun c6 => ?_) (fun c6 => ?_)
    · replace hF := ife c6 hF
      refine q_aload_n C 3 dX5_readSign_48 rfl rfl ?_
      refine qg_4_2 C pi_4 tw_86 dX5_readSign_49 ?_
      refine q_dup C dX5_readSign_52 rfl ?_
      refine qg_8_2 C pi_1 tw_42 dX5_readSign_53 ?_
      refine q_iconst (v := 1) C dX5_readSign_56 (by decide) ?_
      refine q_iadd C dX5_readSign_57 ?_
      refine qs_8_2 C pi_1 tw_42 dX5_readSign_58 ?_
      refine q_iload_n C 0 dX5_readSign_61 rfl rfl ?_
      refine q_bipush (v := -27) C dX5_readSign_62 (by decide) ?_
      refine q_icmp_eq (tgt := 108) C dX5_readSign_64 (by decide) (fun c7 => ?_) (fun c7 => ?_)
      · replace hF := ift c7 hF
        refine q_iconst (v := 0) C dX5_readSign_108 (by decide) ?_
        refine q_istore C [(4, .int 0), (3, .int q4.1), (2, .int (q2.2.1 1 2)), (1, .int q2.1), (0, .ref (ad (4)))] dX5_readSign_109 (by decide) rfl ?_
        refine q_iload C 0 dX5_readSign_111 rfl ?_
        refine q_if_eq (tgt := 129) C dX5_readSign_113 (by decide) (fun c8 => ?_) (fun c8 => ?_)
        · replace hF := ift c8 hF
          refine q_aload_n C 4 dX5_readSign_129 rfl rfl ?_
          refine q_iload_n C 2 dX5_readSign_130 rfl rfl ?_
          obtain ⟨q9, h10, hF⟩ := bnd hF
          try dsimp only at hF
          refine q_callVv C [.int (q2.2.1 1 2)] (c_X5_countOne l D ad ca kz C.2.2.2.2.2.2.1 _ _ _ _ h10) tw_592 gm_X5_countOne pi_4.1 (pe_4 pi_4.2) rfl ⟨rfl, rfl⟩ ⟨Nat.le_of_ble_eq_true rfl, Nat.le_of_ble_eq_true rfl⟩ rfl (Nat.le_of_ble_eq_true rfl) dX5_readSign_131 ?_
          refine q_iload C 0 dX5_readSign_134 rfl ?_
          refine q_if_ne (tgt := 141) C dX5_readSign_136 (by decide) (fun c11 => ?_) (fun c11 => ?_)
          · replace hF := ife c11 hF
            refine q_iload_n C 1 dX5_readSign_141 rfl rfl ?_
            refine q_bipush (v := -25) C dX5_readSign_142 (by decide) ?_
            refine q_icmp_ne (tgt := 152) C dX5_readSign_144 (by decide) (fun c12 => ?_) (fun c12 => ?_)
            · replace hF := ife c12 hF
              refine q_bipush (v := -28) C dX5_readSign_152 (by decide) ?_
              exact q_iret C hr hlk dX5_readSign_154 hF
            · replace hF := ift c12 hF
              refine q_bipush (v := -26) C dX5_readSign_147 (by decide) ?_
              refine q_goto (tgt := 154) C dX5_readSign_149 (by decide) ?_
              exact q_iret C hr hlk dX5_readSign_154 hF
          · replace hF := ift c11 hF
            refine q_iload_n C 1 dX5_readSign_139 rfl rfl ?_
            exact q_iret C hr hlk dX5_readSign_140 hF
        · replace hF := ife c8 hF
          refine q_aload_n C 4 dX5_readSign_116 rfl rfl ?_
          refine qg_4_2 C pi_4 tw_86 dX5_readSign_117 ?_
          refine q_dup C dX5_readSign_120 rfl ?_
          refine qg_8_2 C pi_1 tw_42 dX5_readSign_121 ?_
          refine q_iconst (v := 1) C dX5_readSign_124 (by decide) ?_
          refine q_iadd C dX5_readSign_125 ?_
          refine qs_8_2 C pi_1 tw_42 dX5_readSign_126 ?_
          refine q_aload_n C 4 dX5_readSign_129 rfl rfl ?_
          refine q_iload_n C 2 dX5_readSign_130 rfl rfl ?_
          obtain ⟨q13, h14, hF⟩ := bnd hF
          try dsimp only at hF
          refine q_callVv C [.int (q2.2.1 1 2)] (c_X5_countOne l D ad ca kz C.2.2.2.2.2.2.1 _ _ _ _ h14) tw_592 gm_X5_countOne pi_4.1 (pe_4 pi_4.2) rfl ⟨rfl, rfl⟩ ⟨Nat.le_of_ble_eq_true rfl, Nat.le_of_ble_eq_true rfl⟩ rfl (Nat.le_of_ble_eq_true rfl) dX5_readSign_131 ?_
          refine q_iload C 0 dX5_readSign_134 rfl ?_
          refine q_if_ne (tgt := 141) C dX5_readSign_136 (by decide) (fun c15 => ?_) (fun c15 => ?_)
          · replace hF := ife c15 hF
            refine q_iload_n C 1 dX5_readSign_141 rfl rfl ?_
            refine q_bipush (v := -25) C dX5_readSign_142 (by decide) ?_
            refine q_icmp_ne (tgt := 152) C dX5_readSign_144 (by decide) (fun c16 => ?_) (fun c16 => ?_)
            · replace hF := ife c16 hF
              refine q_bipush (v := -28) C dX5_readSign_152 (by decide) ?_
              exact q_iret C hr hlk dX5_readSign_154 hF
            · replace hF := ift c16 hF
              refine q_bipush (v := -26) C dX5_readSign_147 (by decide) ?_
              refine q_goto (tgt := 154) C dX5_readSign_149 (by decide) ?_
              exact q_iret C hr hlk dX5_readSign_154 hF
          · replace hF := ift c15 hF
            refine q_iload_n C 1 dX5_readSign_139 rfl rfl ?_
            exact q_iret C hr hlk dX5_readSign_140 hF
      · replace hF := ife c7 hF
        refine q_aload_n C 3 dX5_readSign_67 rfl rfl ?_
        refine qg_4_2 C pi_4 tw_86 dX5_readSign_68 ?_
        refine qg_8_2 C pi_1 tw_42 dX5_readSign_71 ?_
        refine q_aload_n C 3 dX5_readSign_74 rfl rfl ?_
        refine qg_4_2 C pi_4 tw_86 dX5_readSign_75 ?_
        refine qg_8_1 C pi_1 tw_40 dX5_readSign_78 ?_
        refine q_icmp_ge (tgt := 108) C dX5_readSign_81 (by decide) (fun c17 => ?_) (fun c17 => ?_)
        · replace hF := ift c17 hF
          refine q_iconst (v := 0) C dX5_readSign_108 (by decide) ?_
          refine q_istore C [(4, .int 0), (3, .int q4.1), (2, .int (q2.2.1 1 2)), (1, .int q2.1), (0, .ref (ad (4)))] dX5_readSign_109 (by decide) rfl ?_
          refine q_iload C 0 dX5_readSign_111 rfl ?_
          refine q_if_eq (tgt := 129) C dX5_readSign_113 (by decide) (fun c18 => ?_) (fun c18 => ?_)
          · replace hF := ift c18 hF
            refine q_aload_n C 4 dX5_readSign_129 rfl rfl ?_
            refine q_iload_n C 2 dX5_readSign_130 rfl rfl ?_
            obtain ⟨q19, h20, hF⟩ := bnd hF
            try dsimp only at hF
            refine q_callVv C [.int (q2.2.1 1 2)] (c_X5_countOne l D ad ca kz C.2.2.2.2.2.2.1 _ _ _ _ h20) tw_592 gm_X5_countOne pi_4.1 (pe_4 pi_4.2) rfl ⟨rfl, rfl⟩ ⟨Nat.le_of_ble_eq_true rfl, Nat.le_of_ble_eq_true rfl⟩ rfl (Nat.le_of_ble_eq_true rfl) dX5_readSign_131 ?_
            refine q_iload C 0 dX5_readSign_134 rfl ?_
            refine q_if_ne (tgt := 141) C dX5_readSign_136 (by decide) (fun c21 => ?_) (fun c21 => ?_)
            · replace hF := ife c21 hF
              refine q_iload_n C 1 dX5_readSign_141 rfl rfl ?_
              refine q_bipush (v := -25) C dX5_readSign_142 (by decide) ?_
              refine q_icmp_ne (tgt := 152) C dX5_readSign_144 (by decide) (fun c22 => ?_) (fun c22 => ?_)
              · replace hF := ife c22 hF
                refine q_bipush (v := -28) C dX5_readSign_152 (by decide) ?_
                exact q_iret C hr hlk dX5_readSign_154 hF
              · replace hF := ift c22 hF
                refine q_bipush (v := -26) C dX5_readSign_147 (by decide) ?_
                refine q_goto (tgt := 154) C dX5_readSign_149 (by decide) ?_
                exact q_iret C hr hlk dX5_readSign_154 hF
            · replace hF := ift c21 hF
              refine q_iload_n C 1 dX5_readSign_139 rfl rfl ?_
              exact q_iret C hr hlk dX5_readSign_140 hF
          · replace hF := ife c18 hF
            refine q_aload_n C 4 dX5_readSign_116 rfl rfl ?_
            refine qg_4_2 C pi_4 tw_86 dX5_readSign_117 ?_
            refine q_dup C dX5_readSign_120 rfl ?_
            refine qg_8_2 C pi_1 tw_42 dX5_readSign_121 ?_
            refine q_iconst (v := 1) C dX5_readSign_124 (by decide) ?_
            refine q_iadd C dX5_readSign_125 ?_
            refine qs_8_2 C pi_1 tw_42 dX5_readSign_126 ?_
            refine q_aload_n C 4 dX5_readSign_129 rfl rfl ?_
            refine q_iload_n C 2 dX5_readSign_130 rfl rfl ?_
            obtain ⟨q23, h24, hF⟩ := bnd hF
            try dsimp only at hF
            refine q_callVv C [.int (q2.2.1 1 2)] (c_X5_countOne l D ad ca kz C.2.2.2.2.2.2.1 _ _ _ _ h24) tw_592 gm_X5_countOne pi_4.1 (pe_4 pi_4.2) rfl ⟨rfl, rfl⟩ ⟨Nat.le_of_ble_eq_true rfl, Nat.le_of_ble_eq_true rfl⟩ rfl (Nat.le_of_ble_eq_true rfl) dX5_readSign_131 ?_
            refine q_iload C 0 dX5_readSign_134 rfl ?_
            refine q_if_ne (tgt := 141) C dX5_readSign_136 (by decide) (fun c25 => ?_) (fun c25 => ?_)
            · replace hF := ife c25 hF
              refine q_iload_n C 1 dX5_readSign_141 rfl rfl ?_
              refine q_bipush (v := -25) C dX5_readSign_142 (by decide) ?_
              refine q_icmp_ne (tgt := 152) C dX5_readSign_144 (by decide) (fun c26 => ?_) (fun c26 => ?_)
              · replace hF := ife c26 hF
                refine q_bipush (v := -28) C dX5_readSign_152 (by decide) ?_
                exact q_iret C hr hlk dX5_readSign_154 hF
              · replace hF := ift c26 hF
                refine q_bipush (v := -26) C dX5_readSign_147 (by decide) ?_
                refine q_goto (tgt := 154) C dX5_readSign_149 (by decide) ?_
                exact q_iret C hr hlk dX5_readSign_154 hF
            · replace hF := ift c25 hF
              refine q_iload_n C 1 dX5_readSign_139 rfl rfl ?_
              exact q_iret C hr hlk dX5_readSign_140 hF
        · replace hF := ife c17 hF
          refine q_aload_n C 3 dX5_readSign_84 rfl rfl ?_
          refine qg_4_2 C pi_4 tw_86 dX5_readSign_85 ?_
          refine qg_8_0 C pi_1 tw_37 dX5_readSign_88 ?_
          refine q_aload_n C 3 dX5_readSign_91 rfl rfl ?_
          refine qg_4_2 C pi_4 tw_86 dX5_readSign_92 ?_
          refine qg_8_2 C pi_1 tw_42 dX5_readSign_95 ?_
          obtain ⟨g27, hF⟩ := grd hF
          refine q_bald C pa_2 (vp_of g27) dX5_readSign_98 ?_
          refine q_bipush (v := 61) C dX5_readSign_99 (by decide) ?_
          refine q_icmp_ne (tgt := 108) C dX5_readSign_101 (by decide) (fun c28 => ?_) (fun c28 => ?_)
          · replace hF := ife c28 hF
            refine q_iconst (v := 0) C dX5_readSign_108 (by decide) ?_
            refine q_istore C [(4, .int 0), (3, .int q4.1), (2, .int (q2.2.1 1 2)), (1, .int q2.1), (0, .ref (ad (4)))] dX5_readSign_109 (by decide) rfl ?_
            refine q_iload C 0 dX5_readSign_111 rfl ?_
            refine q_if_eq (tgt := 129) C dX5_readSign_113 (by decide) (fun c29 => ?_) (fun c29 => ?_)
            · replace hF := ift c29 hF
              refine q_aload_n C 4 dX5_readSign_129 rfl rfl ?_
              refine q_iload_n C 2 dX5_readSign_130 rfl rfl ?_
              obtain ⟨q30, h31, hF⟩ := bnd hF
              try dsimp only at hF
              refine q_callVv C [.int (q2.2.1 1 2)] (c_X5_countOne l D ad ca kz C.2.2.2.2.2.2.1 _ _ _ _ h31) tw_592 gm_X5_countOne pi_4.1 (pe_4 pi_4.2) rfl ⟨rfl, rfl⟩ ⟨Nat.le_of_ble_eq_true rfl, Nat.le_of_ble_eq_true rfl⟩ rfl (Nat.le_of_ble_eq_true rfl) dX5_readSign_131 ?_
              refine q_iload C 0 dX5_readSign_134 rfl ?_
              refine q_if_ne (tgt := 141) C dX5_readSign_136 (by decide) (fun c32 => ?_) (fun c32 => ?_)
              · replace hF := ife c32 hF
                refine q_iload_n C 1 dX5_readSign_141 rfl rfl ?_
                refine q_bipush (v := -25) C dX5_readSign_142 (by decide) ?_
                refine q_icmp_ne (tgt := 152) C dX5_readSign_144 (by decide) (fun c33 => ?_) (fun c33 => ?_)
                · replace hF := ife c33 hF
                  refine q_bipush (v := -28) C dX5_readSign_152 (by decide) ?_
                  exact q_iret C hr hlk dX5_readSign_154 hF
                · replace hF := ift c33 hF
                  refine q_bipush (v := -26) C dX5_readSign_147 (by decide) ?_
                  refine q_goto (tgt := 154) C dX5_readSign_149 (by decide) ?_
                  exact q_iret C hr hlk dX5_readSign_154 hF
              · replace hF := ift c32 hF
                refine q_iload_n C 1 dX5_readSign_139 rfl rfl ?_
                exact q_iret C hr hlk dX5_readSign_140 hF
            · replace hF := ife c29 hF
              refine q_aload_n C 4 dX5_readSign_116 rfl rfl ?_
              refine qg_4_2 C pi_4 tw_86 dX5_readSign_117 ?_
              refine q_dup C dX5_readSign_120 rfl ?_
              refine qg_8_2 C pi_1 tw_42 dX5_readSign_121 ?_
              refine q_iconst (v := 1) C dX5_readSign_124 (by decide) ?_
              refine q_iadd C dX5_readSign_125 ?_
              refine qs_8_2 C pi_1 tw_42 dX5_readSign_126 ?_
              refine q_aload_n C 4 dX5_readSign_129 rfl rfl ?_
              refine q_iload_n C 2 dX5_readSign_130 rfl rfl ?_
              obtain ⟨q34, h35, hF⟩ := bnd hF
              try dsimp only at hF
              refine q_callVv C [.int (q2.2.1 1 2)] (c_X5_countOne l D ad ca kz C.2.2.2.2.2.2.1 _ _ _ _ h35) tw_592 gm_X5_countOne pi_4.1 (pe_4 pi_4.2) rfl ⟨rfl, rfl⟩ ⟨Nat.le_of_ble_eq_true rfl, Nat.le_of_ble_eq_true rfl⟩ rfl (Nat.le_of_ble_eq_true rfl) dX5_readSign_131 ?_
              refine q_iload C 0 dX5_readSign_134 rfl ?_
              refine q_if_ne (tgt := 141) C dX5_readSign_136 (by decide) (fun c36 => ?_) (fun c36 => ?_)
              · replace hF := ife c36 hF
                refine q_iload_n C 1 dX5_readSign_141 rfl rfl ?_
                refine q_bipush (v := -25) C dX5_readSign_142 (by decide) ?_
                refine q_icmp_ne (tgt := 152) C dX5_readSign_144 (by decide) (fun c37 => ?_) (fun c37 => ?_)
                · replace hF := ife c37 hF
                  refine q_bipush (v := -28) C dX5_readSign_152 (by decide) ?_
                  exact q_iret C hr hlk dX5_readSign_154 hF
                · replace hF := ift c37 hF
                  refine q_bipush (v := -26) C dX5_readSign_147 (by decide) ?_
                  refine q_goto (tgt := 154) C dX5_readSign_149 (by decide) ?_
                  exact q_iret C hr hlk dX5_readSign_154 hF
              · replace hF := ift c36 hF
                refine q_iload_n C 1 dX5_readSign_139 rfl rfl ?_
                exact q_iret C hr hlk dX5_readSign_140 hF
          · replace hF := ift c28 hF
            refine q_iconst (v := 1) C dX5_readSign_104 (by decide) ?_
            refine q_goto (tgt := 109) C dX5_readSign_105 (by decide) ?_
            refine q_istore C [(4, .int 1), (3, .int q4.1), (2, .int (q2.2.1 1 2)), (1, .int q2.1), (0, .ref (ad (4)))] dX5_readSign_109 (by decide) rfl ?_
            refine q_iload C 0 dX5_readSign_111 rfl ?_
            refine q_if_eq (tgt := 129) C dX5_readSign_113 (by decide) (fun c38 => ?_) (fun c38 => ?_)
            · replace hF := ift c38 hF
              refine q_aload_n C 4 dX5_readSign_129 rfl rfl ?_
              refine q_iload_n C 2 dX5_readSign_130 rfl rfl ?_
              obtain ⟨q39, h40, hF⟩ := bnd hF
              try dsimp only at hF
              refine q_callVv C [.int (q2.2.1 1 2)] (c_X5_countOne l D ad ca kz C.2.2.2.2.2.2.1 _ _ _ _ h40) tw_592 gm_X5_countOne pi_4.1 (pe_4 pi_4.2) rfl ⟨rfl, rfl⟩ ⟨Nat.le_of_ble_eq_true rfl, Nat.le_of_ble_eq_true rfl⟩ rfl (Nat.le_of_ble_eq_true rfl) dX5_readSign_131 ?_
              refine q_iload C 0 dX5_readSign_134 rfl ?_
              refine q_if_ne (tgt := 141) C dX5_readSign_136 (by decide) (fun c41 => ?_) (fun c41 => ?_)
              · replace hF := ife c41 hF
                refine q_iload_n C 1 dX5_readSign_141 rfl rfl ?_
                refine q_bipush (v := -25) C dX5_readSign_142 (by decide) ?_
                refine q_icmp_ne (tgt := 152) C dX5_readSign_144 (by decide) (fun c42 => ?_) (fun c42 => ?_)
                · replace hF := ife c42 hF
                  refine q_bipush (v := -28) C dX5_readSign_152 (by decide) ?_
                  exact q_iret C hr hlk dX5_readSign_154 hF
                · replace hF := ift c42 hF
                  refine q_bipush (v := -26) C dX5_readSign_147 (by decide) ?_
                  refine q_goto (tgt := 154) C dX5_readSign_149 (by decide) ?_
                  exact q_iret C hr hlk dX5_readSign_154 hF
              · replace hF := ift c41 hF
                refine q_iload_n C 1 dX5_readSign_139 rfl rfl ?_
                exact q_iret C hr hlk dX5_readSign_140 hF
            · replace hF := ife c38 hF
              refine q_aload_n C 4 dX5_readSign_116 rfl rfl ?_
              refine qg_4_2 C pi_4 tw_86 dX5_readSign_117 ?_
              refine q_dup C dX5_readSign_120 rfl ?_
              refine qg_8_2 C pi_1 tw_42 dX5_readSign_121 ?_
              refine q_iconst (v := 1) C dX5_readSign_124 (by decide) ?_
              refine q_iadd C dX5_readSign_125 ?_
              refine qs_8_2 C pi_1 tw_42 dX5_readSign_126 ?_
              refine q_aload_n C 4 dX5_readSign_129 rfl rfl ?_
              refine q_iload_n C 2 dX5_readSign_130 rfl rfl ?_
              obtain ⟨q43, h44, hF⟩ := bnd hF
              try dsimp only at hF
              refine q_callVv C [.int (q2.2.1 1 2)] (c_X5_countOne l D ad ca kz C.2.2.2.2.2.2.1 _ _ _ _ h44) tw_592 gm_X5_countOne pi_4.1 (pe_4 pi_4.2) rfl ⟨rfl, rfl⟩ ⟨Nat.le_of_ble_eq_true rfl, Nat.le_of_ble_eq_true rfl⟩ rfl (Nat.le_of_ble_eq_true rfl) dX5_readSign_131 ?_
              refine q_iload C 0 dX5_readSign_134 rfl ?_
              refine q_if_ne (tgt := 141) C dX5_readSign_136 (by decide) (fun c45 => ?_) (fun c45 => ?_)
              · replace hF := ife c45 hF
                refine q_iload_n C 1 dX5_readSign_141 rfl rfl ?_
                refine q_bipush (v := -25) C dX5_readSign_142 (by decide) ?_
                refine q_icmp_ne (tgt := 152) C dX5_readSign_144 (by decide) (fun c46 => ?_) (fun c46 => ?_)
                · replace hF := ife c46 hF
                  refine q_bipush (v := -28) C dX5_readSign_152 (by decide) ?_
                  exact q_iret C hr hlk dX5_readSign_154 hF
                · replace hF := ift c46 hF
                  refine q_bipush (v := -26) C dX5_readSign_147 (by decide) ?_
                  refine q_goto (tgt := 154) C dX5_readSign_149 (by decide) ?_
                  exact q_iret C hr hlk dX5_readSign_154 hF
              · replace hF := ift c45 hF
                refine q_iload_n C 1 dX5_readSign_139 rfl rfl ?_
                exact q_iret C hr hlk dX5_readSign_140 hF
    · replace hF := ift c6 hF
      refine q_aload_n C 3 dX5_readSign_37 rfl rfl ?_
      refine qg_4_2 C pi_4 tw_86 dX5_readSign_38 ?_
      refine q_iload_n C 1 dX5_readSign_41 rfl rfl ?_
      refine q_iconst (v := 0) C dX5_readSign_42 (by decide) ?_
      obtain ⟨q47, h48, hF⟩ := bnd hF
      try dsimp only at hF
      refine q_callVv C [.int (q2.2.1 1 2), .int 0] (c_X9_fail l D ad ca kz C.2.2.2.2.2.2.1 _ _ _ _ _ h48) tw_562 gm_X9_fail pi_1.1 (pe_8 pi_1.2) rfl ⟨rfl, rfl⟩ ⟨Nat.le_of_ble_eq_true rfl, Nat.le_of_ble_eq_true rfl⟩ rfl (Nat.le_of_ble_eq_true rfl) dX5_readSign_43 ?_
      refine q_iconst (v := 0) C dX5_readSign_46 (by decide) ?_
      exact q_iret C hr hlk dX5_readSign_47 hF
  · replace hF := ife c1 hF
    refine q_iconst (v := 0) C dX5_readSign_10 (by decide) ?_
    exact q_iret C hr hlk dX5_readSign_11 hF
-- X8_firstFitting
def L_X8_firstFitting_2 (n : Nat) : Nat → Int32 → PS → Option (Nat × Int32 × PS)
  | 0, _, _ => none
  | k + 1, x1, σ => (if (7 : Int32) ≤ x1 then some (1, 0, σ) else (if 0 ≤ x1 ∧ x1.toNatClampNeg < 7 then (if (σ.1 239 x1.toNatClampNeg) = 0 then L_X8_firstFitting_2 n k (x1 + 1) σ else some (0, x1, σ)) else none))
def F_X8_firstFitting (n : Nat) (σ : PS) : Option (Int32 × PS) := (L_X8_firstFitting_2 n n (0 : Int32) σ).bind (fun o4 => (if o4.1 = 0 then some ((o4.2.1 - (1 : Int32)), o4.2.2) else some ((-2 : Int32), o4.2.2)))
theorem gm_X8_firstFitting : gM "AskedCamp$Sleuth" yX8_firstFitting (Cond.code yX8_firstFitting cX8_firstFitting 2 (Option.some Jvm.ClassFile.FieldType.int)) 0 := ⟨by decide +kernel, tw_1026, tw_1027, tw_10, tw_1028⟩
set_option maxHeartbeats 4000000 in
set_option maxRecDepth 100000 in
theorem l_X8_firstFitting_2 {p : Program} {l : Launch} {e : Env} {R : Room} {s : State} {m : MethodId} {args : Array Value} {below : List Frame} {meth : Method} {c : Code} {D : va_G} {ad : Nat → Nat} {ca : Nat → ClassId} {kz : Nat → Nat} {Q : State → Prop} (C : pC p s m args c cX8_firstFitting "AskedCamp$Sleuth" 2 D ad ca kz) (hR : 0 ≤ R.frames ∧ 0 ≤ R.locals) {n : Nat} (o : Nat × Int32 × PS) (hx0 : o.1 = 0 → PW p l e R s m args below meth c 2 D ad ca Q (o.2.2) 17 [(1, .int o.2.1)] []) (hx1 : o.1 = 1 → PW p l e R s m args below meth c 2 D ad ca Q (o.2.2) 27 [] []) : ∀ (k : Nat) (x1 : Int32) (σ : PS), L_X8_firstFitting_2 n k x1 σ = some o → PW p l e R s m args below meth c 2 D ad ca Q σ 2 [(0, .ref (ad (224))), (1, .int x1)] [] := by
  intro k
  induction k with
  | zero => intro x1 σ hF; exact nomatch (show (none : Option (Nat × Int32 × PS)) = some o from hF)
  | succ k ih =>
    intro x1 σ hF
    rw [L_X8_firstFitting_2] at hF
    refine q_iload_n C 1 dX8_firstFitting_2 rfl rfl ?_
    refine q_bipush (v := 7) C dX8_firstFitting_3 (by decide) ?_
    refine q_icmp_ge (tgt := 27) C dX8_firstFitting_5 (by decide) (fun c1 => ?_) (fun c1 => ?_)
    · replace hF := ift c1 hF
      cases hF
      refine q_sub [] rfl ?_
      exact hx1 rfl
    · replace hF := ife c1 hF
      refine q_aload_n C 0 dX8_firstFitting_8 rfl rfl ?_
      refine qg_7_5 C pi_224 tw_335 dX8_firstFitting_9 ?_
      refine q_iload_n C 1 dX8_firstFitting_12 rfl rfl ?_
      obtain ⟨g2, hF⟩ := grd hF
      refine q_zald C pa_239 (vp_of g2) dX8_firstFitting_13 ?_
      refine q_if_eq (tgt := 21) C dX8_firstFitting_14 (by decide) (fun c3 => ?_) (fun c3 => ?_)
      · replace hF := ift c3 hF
        refine q_iinc C 1 [(1, .int (x1 + 1)), (0, .ref (ad (224)))] dX8_firstFitting_21 rfl rfl (by decide) rfl ?_
        refine q_goto (tgt := 2) C dX8_firstFitting_24 (by decide) ?_
        refine q_sub [1, 0] rfl ?_
        exact ih _ _ hF
      · replace hF := ife c3 hF
        cases hF
        refine q_sub [1] rfl ?_
        exact hx0 rfl
set_option maxHeartbeats 4000000 in
set_option maxRecDepth 100000 in
theorem c_X8_firstFitting (l : Launch) (D : va_G) (ad : Nat → Nat) (ca : Nat → ClassId) (kz : Nat → Nat) (hJ : pInj ad) (n : Nat) (σ : PS) (out : Int32 × PS) (hF : F_X8_firstFitting n σ = some out) : Met l yX8_firstFitting (Cond.code yX8_firstFitting cX8_firstFitting 2 (Option.some Jvm.ClassFile.FieldType.int) :: gw_tbl) { frames := 0, cells := 0, slots := 0, locals := 0 } (va_Pc [.ref (ad (224))] (pU D ad ca kz σ)) (pQi D ad ca out) 0 0 (pAD ad) := by
  refine q_entry (own := "AskedCamp$Sleuth") hJ (by decide) rfl (Nat.le_of_ble_eq_true rfl) (fun p e s m below meth c C hr hlk => ?_)
  refine q_lv [(0, .ref (ad (224)))] rfl ?_
  rw [F_X8_firstFitting] at hF
  refine q_iconst (v := 0) C dX8_firstFitting_0 (by decide) ?_
  refine q_istore_n C [(1, .int 0), (0, .ref (ad (224)))] dX8_firstFitting_1 rfl (by decide) rfl ?_
  obtain ⟨o4, h5, hF⟩ := bnd hF
  try dsimp only at hF
  refine q_sub [1, 0] rfl ?_
  refine l_X8_firstFitting_2 C ⟨Nat.le_of_ble_eq_true rfl, Nat.le_of_ble_eq_true rfl⟩ o4 (fun eo4_0 => ?_) (fun eo4_1 => ?_) n _ _ h5
  · -- exit 0
    replace hF := ift eo4_0 hF
    refine q_iload_n C 0 dX8_firstFitting_17 rfl rfl ?_
    refine q_iconst (v := 1) C dX8_firstFitting_18 (by decide) ?_
    refine q_isub C dX8_firstFitting_19 ?_
    exact q_iret C hr hlk dX8_firstFitting_20 hF
  · -- exit 1
    replace hF := ife (by rw [eo4_1]; decide) hF
    refine q_bipush (v := -2) C dX8_firstFitting_27 (by decide) ?_
    exact q_iret C hr hlk dX8_firstFitting_29 hF
-- X11_ruled
def F_X11_ruled (n : Nat) (a1 : Int32) (σ : PS) : Option (Int32 × PS) := (F_X10_isPitched n 25 σ).bind (fun q1 => (if q1.1 = 0 then some ((-3 : Int32), q1.2) else (if a1 < 0 then some ((-3 : Int32), q1.2) else (if a1 ≤ (1 : Int32) then (F_X8_trace n 18 q1.2).bind (fun q6 => (if a1 = 0 then (F_X8_fitting n q6).bind (fun q11 => some (q11.1, q11.2)) else (F_X8_firstFitting n q6).bind (fun q9 => some (q9.1, q9.2)))) else some ((-3 : Int32), q1.2)))))
theorem gm_X11_ruled : gM "AskedCamp" yX11_ruled (Cond.code yX11_ruled cX11_ruled 2 (Option.some Jvm.ClassFile.FieldType.int)) 1 := ⟨by decide +kernel, tw_1004, tw_1005, tw_1, tw_1006⟩
set_option maxHeartbeats 4000000 in
set_option maxRecDepth 100000 in
theorem c_X11_ruled (l : Launch) (D : va_G) (ad : Nat → Nat) (ca : Nat → ClassId) (kz : Nat → Nat) (hJ : pInj ad) (n : Nat) (a1 : Int32) (σ : PS) (out : Int32 × PS) (hF : F_X11_ruled n a1 σ = some out) : Met l yX11_ruled (Cond.code yX11_ruled cX11_ruled 2 (Option.some Jvm.ClassFile.FieldType.int) :: gw_tbl) { frames := 8, cells := 0, slots := 0, locals := 197 } (va_Pc [.ref (ad (0)), .int a1] (pU D ad ca kz σ)) (pQi D ad ca out) 0 0 (pAD ad) := by
  refine q_entry (own := "AskedCamp") hJ (by decide) rfl (Nat.le_of_ble_eq_true rfl) (fun p e s m below meth c C hr hlk => ?_)
  refine q_lv [(0, .ref (ad (0))), (1, .int a1)] rfl ?_
  rw [F_X11_ruled] at hF
  refine q_aload_n C 0 dX11_ruled_0 rfl rfl ?_
  refine qg_10_4 C pi_0 tw_384 dX11_ruled_1 ?_
  refine qg_5_1 C pi_18 tw_232 dX11_ruled_4 ?_
  obtain ⟨q1, h2, hF⟩ := bnd hF
  try dsimp only at hF
  refine q_callVi C [] (c_X10_isPitched l D ad ca kz C.2.2.2.2.2.2.1 _ pi_25 _ _ h2) tw_687 gm_X10_isPitched pi_25.1 (pe_9 pi_25.2) rfl ⟨rfl, rfl⟩ ⟨Nat.le_of_ble_eq_true rfl, Nat.le_of_ble_eq_true rfl⟩ rfl (Nat.le_of_ble_eq_true rfl) dX11_ruled_7 ?_
  refine q_if_eq (tgt := 22) C dX11_ruled_10 (by decide) (fun c3 => ?_) (fun c3 => ?_)
  · replace hF := ift c3 hF
    refine q_bipush (v := -3) C dX11_ruled_22 (by decide) ?_
    exact q_iret C hr hlk dX11_ruled_24 hF
  · replace hF := ife c3 hF
    refine q_iload_n C 1 dX11_ruled_13 rfl rfl ?_
    refine q_if_lt (tgt := 22) C dX11_ruled_14 (by decide) (fun c4 => ?_) (fun c4 => ?_)
    · replace hF := ift c4 hF
      refine q_bipush (v := -3) C dX11_ruled_22 (by decide) ?_
      exact q_iret C hr hlk dX11_ruled_24 hF
    · replace hF := ife c4 hF
      refine q_iload_n C 1 dX11_ruled_17 rfl rfl ?_
      refine q_iconst (v := 1) C dX11_ruled_18 (by decide) ?_
      refine q_icmp_le (tgt := 25) C dX11_ruled_19 (by decide) (fun c5 => ?_) (fun c5 => ?_)
      · replace hF := ift c5 hF
        refine q_aload_n C 0 dX11_ruled_25 rfl rfl ?_
        refine qg_10_8 C pi_0 tw_388 dX11_ruled_26 ?_
        refine q_aload_n C 0 dX11_ruled_29 rfl rfl ?_
        refine qg_10_4 C pi_0 tw_384 dX11_ruled_30 ?_
        obtain ⟨q6, h7, hF⟩ := bnd hF
        try dsimp only at hF
        refine q_callVv C [.ref (ad (18))] (c_X8_trace l D ad ca kz C.2.2.2.2.2.2.1 _ pi_18 _ _ h7) tw_1007 gm_X8_trace pi_224.1 (pe_7 pi_224.2) rfl ⟨rfl, rfl⟩ ⟨Nat.le_of_ble_eq_true rfl, Nat.le_of_ble_eq_true rfl⟩ rfl (Nat.le_of_ble_eq_true rfl) dX11_ruled_33 ?_
        refine q_iload_n C 1 dX11_ruled_36 rfl rfl ?_
        refine q_if_ne (tgt := 50) C dX11_ruled_37 (by decide) (fun c8 => ?_) (fun c8 => ?_)
        · replace hF := ife c8 hF
          refine q_aload_n C 0 dX11_ruled_50 rfl rfl ?_
          refine qg_10_8 C pi_0 tw_388 dX11_ruled_51 ?_
          obtain ⟨q9, h10, hF⟩ := bnd hF
          try dsimp only at hF
          refine q_callVi C [] (c_X8_firstFitting l D ad ca kz C.2.2.2.2.2.2.1 _ _ _ h10) tw_1025 gm_X8_firstFitting pi_224.1 (pe_7 pi_224.2) rfl ⟨rfl, rfl⟩ ⟨Nat.le_of_ble_eq_true rfl, Nat.le_of_ble_eq_true rfl⟩ rfl (Nat.le_of_ble_eq_true rfl) dX11_ruled_54 ?_
          exact q_iret C hr hlk dX11_ruled_57 hF
        · replace hF := ift c8 hF
          refine q_aload_n C 0 dX11_ruled_40 rfl rfl ?_
          refine qg_10_8 C pi_0 tw_388 dX11_ruled_41 ?_
          obtain ⟨q11, h12, hF⟩ := bnd hF
          try dsimp only at hF
          refine q_callVi C [] (c_X8_fitting l D ad ca kz C.2.2.2.2.2.2.1 _ _ _ h12) tw_1021 gm_X8_fitting pi_224.1 (pe_7 pi_224.2) rfl ⟨rfl, rfl⟩ ⟨Nat.le_of_ble_eq_true rfl, Nat.le_of_ble_eq_true rfl⟩ rfl (Nat.le_of_ble_eq_true rfl) dX11_ruled_44 ?_
          refine q_goto (tgt := 57) C dX11_ruled_47 (by decide) ?_
          exact q_iret C hr hlk dX11_ruled_57 hF
      · replace hF := ife c5 hF
        refine q_bipush (v := -3) C dX11_ruled_22 (by decide) ?_
        exact q_iret C hr hlk dX11_ruled_24 hF
-- X11_seed
def F_X11_seed (n : Nat) (a1 : Int32) (σ : PS) : Option (Int32 × PS) := (if 0 ≤ a1 then some ((σ.1 18 6), psI σ 18 6 a1) else some ((-1 : Int32), σ))
theorem gm_X11_seed : gM "AskedCamp" yX11_seed (Cond.code yX11_seed cX11_seed 3 (Option.some Jvm.ClassFile.FieldType.int)) 1 := ⟨by decide +kernel, tw_926, tw_927, tw_1, tw_928⟩
set_option maxHeartbeats 4000000 in
set_option maxRecDepth 100000 in
theorem c_X11_seed (l : Launch) (D : va_G) (ad : Nat → Nat) (ca : Nat → ClassId) (kz : Nat → Nat) (hJ : pInj ad) (n : Nat) (a1 : Int32) (σ : PS) (out : Int32 × PS) (hF : F_X11_seed n a1 σ = some out) : Met l yX11_seed (Cond.code yX11_seed cX11_seed 3 (Option.some Jvm.ClassFile.FieldType.int) :: gw_tbl) { frames := 0, cells := 0, slots := 0, locals := 0 } (va_Pc [.ref (ad (0)), .int a1] (pU D ad ca kz σ)) (pQi D ad ca out) 0 0 (pAD ad) := by
  refine q_entry (own := "AskedCamp") hJ (by decide) rfl (Nat.le_of_ble_eq_true rfl) (fun p e s m below meth c C hr hlk => ?_)
  refine q_lv [(0, .ref (ad (0))), (1, .int a1)] rfl ?_
  rw [F_X11_seed] at hF
  refine q_iload_n C 1 dX11_seed_0 rfl rfl ?_
  refine q_if_ge (tgt := 6) C dX11_seed_1 (by decide) (fun c1 => ?_) (fun c1 => ?_)
  · replace hF := ift c1 hF
    refine q_aload_n C 0 dX11_seed_6 rfl rfl ?_
    refine qg_10_4 C pi_0 tw_384 dX11_seed_7 ?_
    refine qg_5_6 C pi_18 tw_244 dX11_seed_10 ?_
    refine q_istore_n C [(2, .int (σ.1 18 6)), (0, .ref (ad (0))), (1, .int a1)] dX11_seed_13 rfl (by decide) rfl ?_
    refine q_aload_n C 1 dX11_seed_14 rfl rfl ?_
    refine qg_10_4 C pi_0 tw_384 dX11_seed_15 ?_
    refine q_iload_n C 2 dX11_seed_18 rfl rfl ?_
    refine qs_5_6 C pi_18 tw_244 dX11_seed_19 ?_
    refine q_iload_n C 0 dX11_seed_22 rfl rfl ?_
    exact q_iret C hr hlk dX11_seed_23 hF
  · replace hF := ife c1 hF
    refine q_iconst (v := -1) C dX11_seed_4 (by decide) ?_
    exact q_iret C hr hlk dX11_seed_5 hF
-- X11_steady
def F_X11_steady (n : Nat) (a1 : Int32) (a2 : Int32) (σ : PS) : Option (Int32 × PS) := (F_X10_hasTent n 25 a1 σ).bind (fun q1 => (if q1.1 = 0 then some ((-1 : Int32), q1.2) else (if a2 < (1 : Int32) then some ((-1 : Int32), q1.2) else (if a2 ≤ (9 : Int32) then (F_X0_keep n 25 q1.2).bind (fun q6 => (if 0 ≤ a1 ∧ a1.toNatClampNeg < 6 then some (((psI q6 27 a1.toNatClampNeg (if (99 : Int32) < ((q6.1 27 a1.toNatClampNeg) + a2) then (99 : Int32) else ((q6.1 27 a1.toNatClampNeg) + a2))).1 27 a1.toNatClampNeg), psI q6 27 a1.toNatClampNeg (if (99 : Int32) < ((q6.1 27 a1.toNatClampNeg) + a2) then (99 : Int32) else ((q6.1 27 a1.toNatClampNeg) + a2))) else none)) else some ((-1 : Int32), q1.2)))))
theorem gm_X11_steady : gM "AskedCamp" yX11_steady (Cond.code yX11_steady cX11_steady 4 (Option.some Jvm.ClassFile.FieldType.int)) 2 := ⟨by decide +kernel, tw_819, tw_820, tw_1, tw_821⟩
set_option maxHeartbeats 4000000 in
set_option maxRecDepth 100000 in
theorem c_X11_steady (l : Launch) (D : va_G) (ad : Nat → Nat) (ca : Nat → ClassId) (kz : Nat → Nat) (hJ : pInj ad) (n : Nat) (a1 : Int32) (a2 : Int32) (σ : PS) (out : Int32 × PS) (hF : F_X11_steady n a1 a2 σ = some out) : Met l yX11_steady (Cond.code yX11_steady cX11_steady 4 (Option.some Jvm.ClassFile.FieldType.int) :: gw_tbl) { frames := 3, cells := 0, slots := 0, locals := 123 } (va_Pc [.ref (ad (0)), .int a1, .int a2] (pU D ad ca kz σ)) (pQi D ad ca out) 0 0 (pAD ad) := by
  refine q_entry (own := "AskedCamp") hJ (by decide) rfl (Nat.le_of_ble_eq_true rfl) (fun p e s m below meth c C hr hlk => ?_)
  refine q_lv [(0, .ref (ad (0))), (1, .int a1), (2, .int a2)] rfl ?_
  rw [F_X11_steady] at hF
  refine q_aload_n C 0 dX11_steady_0 rfl rfl ?_
  refine qg_10_4 C pi_0 tw_384 dX11_steady_1 ?_
  refine qg_5_1 C pi_18 tw_232 dX11_steady_4 ?_
  refine q_astore_n C [(3, .ref (ad (25))), (0, .ref (ad (0))), (1, .int a1), (2, .int a2)] dX11_steady_7 rfl (by decide) rfl ?_
  refine q_aload_n C 0 dX11_steady_8 rfl rfl ?_
  refine q_iload_n C 2 dX11_steady_9 rfl rfl ?_
  obtain ⟨q1, h2, hF⟩ := bnd hF
  try dsimp only at hF
  refine q_callVi C [.int a1] (c_X10_hasTent l D ad ca kz C.2.2.2.2.2.2.1 _ pi_25 _ _ _ h2) tw_663 gm_X10_hasTent pi_25.1 (pe_9 pi_25.2) rfl ⟨rfl, rfl⟩ ⟨Nat.le_of_ble_eq_true rfl, Nat.le_of_ble_eq_true rfl⟩ rfl (Nat.le_of_ble_eq_true rfl) dX11_steady_10 ?_
  refine q_if_eq (tgt := 27) C dX11_steady_13 (by decide) (fun c3 => ?_) (fun c3 => ?_)
  · replace hF := ift c3 hF
    refine q_iconst (v := -1) C dX11_steady_27 (by decide) ?_
    exact q_iret C hr hlk dX11_steady_28 hF
  · replace hF := ife c3 hF
    refine q_iload_n C 3 dX11_steady_16 rfl rfl ?_
    refine q_iconst (v := 1) C dX11_steady_17 (by decide) ?_
    refine q_icmp_lt (tgt := 27) C dX11_steady_18 (by decide) (fun c4 => ?_) (fun c4 => ?_)
    · replace hF := ift c4 hF
      refine q_iconst (v := -1) C dX11_steady_27 (by decide) ?_
      exact q_iret C hr hlk dX11_steady_28 hF
    · replace hF := ife c4 hF
      refine q_iload_n C 3 dX11_steady_21 rfl rfl ?_
      refine q_bipush (v := 9) C dX11_steady_22 (by decide) ?_
      refine q_icmp_le (tgt := 29) C dX11_steady_24 (by decide) (fun c5 => ?_) (fun c5 => ?_)
      · replace hF := ift c5 hF
        refine q_aload_n C 1 dX11_steady_29 rfl rfl ?_
        refine qg_10_6 C pi_0 tw_386 dX11_steady_30 ?_
        refine q_aload_n C 0 dX11_steady_33 rfl rfl ?_
        obtain ⟨q6, h7, hF⟩ := bnd hF
        try dsimp only at hF
        refine q_callVv C [.ref (ad (25))] (c_X0_keep l D ad ca kz C.2.2.2.2.2.2.1 _ pi_25 _ _ h7) tw_709 gm_X0_keep pi_94.1 (pe_0 pi_94.2) rfl ⟨rfl, rfl⟩ ⟨Nat.le_of_ble_eq_true rfl, Nat.le_of_ble_eq_true rfl⟩ rfl (Nat.le_of_ble_eq_true rfl) dX11_steady_34 ?_
        refine q_aload_n C 0 dX11_steady_37 rfl rfl ?_
        refine qg_9_8 C pi_25 tw_192 dX11_steady_38 ?_
        refine q_iload_n C 2 dX11_steady_41 rfl rfl ?_
        refine q_aload_n C 0 dX11_steady_42 rfl rfl ?_
        refine qg_9_8 C pi_25 tw_192 dX11_steady_43 ?_
        refine q_iload_n C 2 dX11_steady_46 rfl rfl ?_
        obtain ⟨g8, hF⟩ := grd hF
        refine q_iald C pa_27 (vp_of g8) dX11_steady_47 ?_
        refine q_iload_n C 3 dX11_steady_48 rfl rfl ?_
        refine q_iadd C dX11_steady_49 ?_
        refine q_bipush (v := 99) C dX11_steady_50 (by decide) ?_
        refine q_mmin C tw_822 ⟨Nat.le_of_ble_eq_true rfl, Nat.le_of_ble_eq_true rfl⟩ dX11_steady_52 ?_
        refine q_iast C pa_27 (vp_of g8) dX11_steady_55 ?_
        refine q_aload_n C 0 dX11_steady_56 rfl rfl ?_
        refine qg_9_8 C pi_25 tw_192 dX11_steady_57 ?_
        refine q_iload_n C 2 dX11_steady_60 rfl rfl ?_
        refine q_iald C pa_27 (vp_of g8) dX11_steady_61 ?_
        exact q_iret C hr hlk dX11_steady_62 hF
      · replace hF := ife c5 hF
        refine q_iconst (v := -1) C dX11_steady_27 (by decide) ?_
        exact q_iret C hr hlk dX11_steady_28 hF
-- X11_step
def F_X11_step (n : Nat) (σ : PS) : Option (Int32 × PS) := (F_X10_isPitched n 25 σ).bind (fun q1 => (if q1.1 = 0 then some ((-1 : Int32), q1.2) else (if (q1.2.1 25 3) < (999 : Int32) then (F_X0_keep n 25 q1.2).bind (fun q5 => (F_X4_stride n 25 (q5.1 18 5) q5).bind (fun q7 => some ((q7.1 25 2), q7))) else some ((-1 : Int32), q1.2))))
theorem gm_X11_step : gM "AskedCamp" yX11_step (Cond.code yX11_step cX11_step 2 (Option.some Jvm.ClassFile.FieldType.int)) 0 := ⟨by decide +kernel, tw_706, tw_707, tw_1, tw_708⟩
set_option maxHeartbeats 4000000 in
set_option maxRecDepth 100000 in
theorem c_X11_step (l : Launch) (D : va_G) (ad : Nat → Nat) (ca : Nat → ClassId) (kz : Nat → Nat) (hJ : pInj ad) (n : Nat) (σ : PS) (out : Int32 × PS) (hF : F_X11_step n σ = some out) : Met l yX11_step (Cond.code yX11_step cX11_step 2 (Option.some Jvm.ClassFile.FieldType.int) :: gw_tbl) { frames := 6, cells := 0, slots := 0, locals := 152 } (va_Pc [.ref (ad (0))] (pU D ad ca kz σ)) (pQi D ad ca out) 0 0 (pAD ad) := by
  refine q_entry (own := "AskedCamp") hJ (by decide) rfl (Nat.le_of_ble_eq_true rfl) (fun p e s m below meth c C hr hlk => ?_)
  refine q_lv [(0, .ref (ad (0)))] rfl ?_
  rw [F_X11_step] at hF
  refine q_aload_n C 0 dX11_step_0 rfl rfl ?_
  refine qg_10_4 C pi_0 tw_384 dX11_step_1 ?_
  refine qg_5_1 C pi_18 tw_232 dX11_step_4 ?_
  refine q_astore_n C [(1, .ref (ad (25))), (0, .ref (ad (0)))] dX11_step_7 rfl (by decide) rfl ?_
  refine q_aload_n C 0 dX11_step_8 rfl rfl ?_
  obtain ⟨q1, h2, hF⟩ := bnd hF
  try dsimp only at hF
  refine q_callVi C [] (c_X10_isPitched l D ad ca kz C.2.2.2.2.2.2.1 _ pi_25 _ _ h2) tw_687 gm_X10_isPitched pi_25.1 (pe_9 pi_25.2) rfl ⟨rfl, rfl⟩ ⟨Nat.le_of_ble_eq_true rfl, Nat.le_of_ble_eq_true rfl⟩ rfl (Nat.le_of_ble_eq_true rfl) dX11_step_9 ?_
  refine q_if_eq (tgt := 25) C dX11_step_12 (by decide) (fun c3 => ?_) (fun c3 => ?_)
  · replace hF := ift c3 hF
    refine q_iconst (v := -1) C dX11_step_25 (by decide) ?_
    exact q_iret C hr hlk dX11_step_26 hF
  · replace hF := ife c3 hF
    refine q_aload_n C 0 dX11_step_15 rfl rfl ?_
    refine qg_9_3 C pi_25 tw_173 dX11_step_16 ?_
    refine q_sipush (v := 999) C dX11_step_19 (by decide) ?_
    refine q_icmp_lt (tgt := 27) C dX11_step_22 (by decide) (fun c4 => ?_) (fun c4 => ?_)
    · replace hF := ift c4 hF
      refine q_aload_n C 1 dX11_step_27 rfl rfl ?_
      refine qg_10_6 C pi_0 tw_386 dX11_step_28 ?_
      refine q_aload_n C 0 dX11_step_31 rfl rfl ?_
      obtain ⟨q5, h6, hF⟩ := bnd hF
      try dsimp only at hF
      refine q_callVv C [.ref (ad (25))] (c_X0_keep l D ad ca kz C.2.2.2.2.2.2.1 _ pi_25 _ _ h6) tw_709 gm_X0_keep pi_94.1 (pe_0 pi_94.2) rfl ⟨rfl, rfl⟩ ⟨Nat.le_of_ble_eq_true rfl, Nat.le_of_ble_eq_true rfl⟩ rfl (Nat.le_of_ble_eq_true rfl) dX11_step_32 ?_
      refine q_aload_n C 1 dX11_step_35 rfl rfl ?_
      refine qg_10_3 C pi_0 tw_383 dX11_step_36 ?_
      refine q_aload_n C 0 dX11_step_39 rfl rfl ?_
      refine q_aload_n C 1 dX11_step_40 rfl rfl ?_
      refine qg_10_4 C pi_0 tw_384 dX11_step_41 ?_
      refine qg_5_5 C pi_18 tw_242 dX11_step_44 ?_
      obtain ⟨q7, h8, hF⟩ := bnd hF
      try dsimp only at hF
      refine q_callVv C [.ref (ad (25)), .int (q5.1 18 5)] (c_X4_stride l D ad ca kz C.2.2.2.2.2.2.1 _ pi_25 _ _ _ h8) tw_717 gm_X4_stride pi_7.1 (pe_3 pi_7.2) rfl ⟨rfl, rfl⟩ ⟨Nat.le_of_ble_eq_true rfl, Nat.le_of_ble_eq_true rfl⟩ rfl (Nat.le_of_ble_eq_true rfl) dX11_step_47 ?_
      refine q_aload_n C 0 dX11_step_50 rfl rfl ?_
      refine qg_9_2 C pi_25 tw_169 dX11_step_51 ?_
      exact q_iret C hr hlk dX11_step_54 hF
    · replace hF := ife c4 hF
      refine q_iconst (v := -1) C dX11_step_25 (by decide) ?_
      exact q_iret C hr hlk dX11_step_26 hF
-- X11_tent
def F_X11_tent (n : Nat) (a1 : Int32) (a2 : Int32) (σ : PS) : Option (Int32 × PS) := (F_X10_hasTent n 25 a1 σ).bind (fun q1 => (if q1.1 = 0 then some ((-1 : Int32), q1.2) else (if a2 = (0 : Int32) then (if 0 ≤ a1 ∧ a1.toNatClampNeg < 6 then some ((q1.2.1 26 a1.toNatClampNeg), q1.2) else none) else (if a2 = (1 : Int32) then (if 0 ≤ a1 ∧ a1.toNatClampNeg < 6 then some ((q1.2.1 27 a1.toNatClampNeg), q1.2) else none) else (if a2 = (2 : Int32) then (if 0 ≤ a1 ∧ a1.toNatClampNeg < 6 then some ((q1.2.1 28 a1.toNatClampNeg), q1.2) else none) else (if a2 = (3 : Int32) then (if 0 ≤ a1 ∧ a1.toNatClampNeg < 6 then some ((q1.2.1 29 a1.toNatClampNeg), q1.2) else none) else some ((-1 : Int32), q1.2)))))))
theorem gm_X11_tent : gM "AskedCamp" yX11_tent (Cond.code yX11_tent cX11_tent 4 (Option.some Jvm.ClassFile.FieldType.int)) 2 := ⟨by decide +kernel, tw_660, tw_661, tw_1, tw_662⟩
set_option maxHeartbeats 4000000 in
set_option maxRecDepth 100000 in
theorem c_X11_tent (l : Launch) (D : va_G) (ad : Nat → Nat) (ca : Nat → ClassId) (kz : Nat → Nat) (hJ : pInj ad) (n : Nat) (a1 : Int32) (a2 : Int32) (σ : PS) (out : Int32 × PS) (hF : F_X11_tent n a1 a2 σ = some out) : Met l yX11_tent (Cond.code yX11_tent cX11_tent 4 (Option.some Jvm.ClassFile.FieldType.int) :: gw_tbl) { frames := 1, cells := 0, slots := 0, locals := 21 } (va_Pc [.ref (ad (0)), .int a1, .int a2] (pU D ad ca kz σ)) (pQi D ad ca out) 0 0 (pAD ad) := by
  refine q_entry (own := "AskedCamp") hJ (by decide) rfl (Nat.le_of_ble_eq_true rfl) (fun p e s m below meth c C hr hlk => ?_)
  refine q_lv [(0, .ref (ad (0))), (1, .int a1), (2, .int a2)] rfl ?_
  rw [F_X11_tent] at hF
  refine q_aload_n C 0 dX11_tent_0 rfl rfl ?_
  refine qg_10_4 C pi_0 tw_384 dX11_tent_1 ?_
  refine qg_5_1 C pi_18 tw_232 dX11_tent_4 ?_
  refine q_astore_n C [(3, .ref (ad (25))), (0, .ref (ad (0))), (1, .int a1), (2, .int a2)] dX11_tent_7 rfl (by decide) rfl ?_
  refine q_aload_n C 0 dX11_tent_8 rfl rfl ?_
  refine q_iload_n C 2 dX11_tent_9 rfl rfl ?_
  obtain ⟨q1, h2, hF⟩ := bnd hF
  try dsimp only at hF
  refine q_callVi C [.int a1] (c_X10_hasTent l D ad ca kz C.2.2.2.2.2.2.1 _ pi_25 _ _ _ h2) tw_663 gm_X10_hasTent pi_25.1 (pe_9 pi_25.2) rfl ⟨rfl, rfl⟩ ⟨Nat.le_of_ble_eq_true rfl, Nat.le_of_ble_eq_true rfl⟩ rfl (Nat.le_of_ble_eq_true rfl) dX11_tent_10 ?_
  refine q_if_ne (tgt := 18) C dX11_tent_13 (by decide) (fun c3 => ?_) (fun c3 => ?_)
  · replace hF := ife c3 hF
    refine q_iload_n C 3 dX11_tent_18 rfl rfl ?_
    by_cases c4 : a2 = (0 : Int32)
    · replace hF := ift c4 hF
      refine q_tableIn (off := 29) (tgt := 48) C dX11_tent_19 (by rw [c4]; decide) (by rw [c4]; decide) (by rw [c4] <;> rfl) (by decide) ?_
      refine q_aload_n C 0 dX11_tent_48 rfl rfl ?_
      refine qg_9_7 C pi_25 tw_190 dX11_tent_49 ?_
      refine q_iload_n C 2 dX11_tent_52 rfl rfl ?_
      obtain ⟨g5, hF⟩ := grd hF
      refine q_iald C pa_26 (vp_of g5) dX11_tent_53 ?_
      exact q_iret C hr hlk dX11_tent_54 hF
    replace hF := ife c4 hF
    by_cases c6 : a2 = (1 : Int32)
    · replace hF := ift c6 hF
      refine q_tableIn (off := 36) (tgt := 55) C dX11_tent_19 (by rw [c6]; decide) (by rw [c6]; decide) (by rw [c6] <;> rfl) (by decide) ?_
      refine q_aload_n C 0 dX11_tent_55 rfl rfl ?_
      refine qg_9_8 C pi_25 tw_192 dX11_tent_56 ?_
      refine q_iload_n C 2 dX11_tent_59 rfl rfl ?_
      obtain ⟨g7, hF⟩ := grd hF
      refine q_iald C pa_27 (vp_of g7) dX11_tent_60 ?_
      exact q_iret C hr hlk dX11_tent_61 hF
    replace hF := ife c6 hF
    by_cases c8 : a2 = (2 : Int32)
    · replace hF := ift c8 hF
      refine q_tableIn (off := 43) (tgt := 62) C dX11_tent_19 (by rw [c8]; decide) (by rw [c8]; decide) (by rw [c8] <;> rfl) (by decide) ?_
      refine q_aload_n C 0 dX11_tent_62 rfl rfl ?_
      refine qg_9_9 C pi_25 tw_195 dX11_tent_63 ?_
      refine q_iload_n C 2 dX11_tent_66 rfl rfl ?_
      obtain ⟨g9, hF⟩ := grd hF
      refine q_iald C pa_28 (vp_of g9) dX11_tent_67 ?_
      exact q_iret C hr hlk dX11_tent_68 hF
    replace hF := ife c8 hF
    by_cases c10 : a2 = (3 : Int32)
    · replace hF := ift c10 hF
      refine q_tableIn (off := 50) (tgt := 69) C dX11_tent_19 (by rw [c10]; decide) (by rw [c10]; decide) (by rw [c10] <;> rfl) (by decide) ?_
      refine q_aload_n C 0 dX11_tent_69 rfl rfl ?_
      refine qg_9_10 C pi_25 tw_198 dX11_tent_70 ?_
      refine q_iload_n C 2 dX11_tent_73 rfl rfl ?_
      obtain ⟨g11, hF⟩ := grd hF
      refine q_iald C pa_29 (vp_of g11) dX11_tent_74 ?_
      exact q_iret C hr hlk dX11_tent_75 hF
    replace hF := ife c10 hF
    refine q_tableOut (tgt := 76) C dX11_tent_19 (by have ec4 := sw_ne c4; have ec6 := sw_ne c6; have ec8 := sw_ne c8; have ec10 := sw_ne c10; simp only [sw_lit] at ec4 ec6 ec8 ec10; omega) (by decide) ?_
    refine q_iconst (v := -1) C dX11_tent_76 (by decide) ?_
    exact q_iret C hr hlk dX11_tent_77 hF
  · replace hF := ift c3 hF
    refine q_iconst (v := -1) C dX11_tent_16 (by decide) ?_
    exact q_iret C hr hlk dX11_tent_17 hF
-- X11_undo
def F_X11_undo (n : Nat) (σ : PS) : Option (Int32 × PS) := (if (σ.1 94 0) = 0 then some ((-1 : Int32), σ) else (F_X0_takeBack n 25 σ).bind (fun q2 => some ((q2.1 94 0), q2)))
theorem gm_X11_undo : gM "AskedCamp" yX11_undo (Cond.code yX11_undo cX11_undo 1 (Option.some Jvm.ClassFile.FieldType.int)) 0 := ⟨by decide +kernel, tw_828, tw_829, tw_1, tw_830⟩
set_option maxHeartbeats 4000000 in
set_option maxRecDepth 100000 in
theorem c_X11_undo (l : Launch) (D : va_G) (ad : Nat → Nat) (ca : Nat → ClassId) (kz : Nat → Nat) (hJ : pInj ad) (n : Nat) (σ : PS) (out : Int32 × PS) (hF : F_X11_undo n σ = some out) : Met l yX11_undo (Cond.code yX11_undo cX11_undo 1 (Option.some Jvm.ClassFile.FieldType.int) :: gw_tbl) { frames := 3, cells := 0, slots := 0, locals := 123 } (va_Pc [.ref (ad (0))] (pU D ad ca kz σ)) (pQi D ad ca out) 0 0 (pAD ad) := by
  refine q_entry (own := "AskedCamp") hJ (by decide) rfl (Nat.le_of_ble_eq_true rfl) (fun p e s m below meth c C hr hlk => ?_)
  refine q_lv [(0, .ref (ad (0)))] rfl ?_
  rw [F_X11_undo] at hF
  refine q_aload_n C 0 dX11_undo_0 rfl rfl ?_
  refine qg_10_6 C pi_0 tw_386 dX11_undo_1 ?_
  refine qg_0_0 C pi_94 tw_275 dX11_undo_4 ?_
  refine q_if_ne (tgt := 12) C dX11_undo_7 (by decide) (fun c1 => ?_) (fun c1 => ?_)
  · replace hF := ife c1 hF
    refine q_aload_n C 0 dX11_undo_12 rfl rfl ?_
    refine qg_10_6 C pi_0 tw_386 dX11_undo_13 ?_
    refine q_aload_n C 0 dX11_undo_16 rfl rfl ?_
    refine qg_10_4 C pi_0 tw_384 dX11_undo_17 ?_
    refine qg_5_1 C pi_18 tw_232 dX11_undo_20 ?_
    obtain ⟨q2, h3, hF⟩ := bnd hF
    try dsimp only at hF
    refine q_callVv C [.ref (ad (25))] (c_X0_takeBack l D ad ca kz C.2.2.2.2.2.2.1 _ pi_25 _ _ h3) tw_831 gm_X0_takeBack pi_94.1 (pe_0 pi_94.2) rfl ⟨rfl, rfl⟩ ⟨Nat.le_of_ble_eq_true rfl, Nat.le_of_ble_eq_true rfl⟩ rfl (Nat.le_of_ble_eq_true rfl) dX11_undo_23 ?_
    refine q_aload_n C 0 dX11_undo_26 rfl rfl ?_
    refine qg_10_6 C pi_0 tw_386 dX11_undo_27 ?_
    refine qg_0_0 C pi_94 tw_275 dX11_undo_30 ?_
    exact q_iret C hr hlk dX11_undo_33 hF
  · replace hF := ift c1 hF
    refine q_iconst (v := -1) C dX11_undo_10 (by decide) ?_
    exact q_iret C hr hlk dX11_undo_11 hF
-- X2_findWhomToWake
def L_X2_findWhomToWake_12 (n : Nat) (a1 : Nat) : Nat → Int32 → Int32 → PS → Option (PS)
  | 0, _, _, _ => none
  | k + 1, x2, x3, σ => (if (σ.1 (a1 + 7) 5) ≤ x3 then some σ else (F_X10_copyFrom n 217 (a1 + 7) σ).bind (fun q2 => (if x3 = (-1 : Int32) then (F_X10_everAsked n 217 q2).bind (fun q5 => (F_X2_walkOn n (q5.2.1 a1 5) x2 q5.2).bind (fun q7 => (F_X10_everAsked n 217 q7).bind (fun q9 => (F_J6_bitCount_0f7a4 n (q9.1 &&& (q5.1 ^^^ (-1 : Int32))) q9.2).bind (fun q11 => (if q11.1 ≤ (q11.2.1 216 4) then L_X2_findWhomToWake_12 n a1 k x2 (x3 + 1) q11.2 else L_X2_findWhomToWake_12 n a1 k x2 (x3 + 1) (psI (psI q11.2 216 3 x3) 216 4 q11.1)))))) else (if 0 ≤ x3 ∧ x3.toNatClampNeg < 6 then (F_X10_everAsked n 217 (psI q2 220 x3.toNatClampNeg ((q2.1 220 x3.toNatClampNeg) + (1 : Int32)))).bind (fun q15 => (F_X2_walkOn n (q15.2.1 a1 5) x2 q15.2).bind (fun q17 => (F_X10_everAsked n 217 q17).bind (fun q19 => (F_J6_bitCount_0f7a4 n (q19.1 &&& (q15.1 ^^^ (-1 : Int32))) q19.2).bind (fun q21 => (if q21.1 ≤ (q21.2.1 216 4) then L_X2_findWhomToWake_12 n a1 k x2 (x3 + 1) q21.2 else L_X2_findWhomToWake_12 n a1 k x2 (x3 + 1) (psI (psI q21.2 216 3 x3) 216 4 q21.1)))))) else none))))
def F_X2_findWhomToWake (n : Nat) (a1 : Nat) (a2 : Int32) (σ : PS) : Option (PS) := (L_X2_findWhomToWake_12 n a1 n a2 (-1 : Int32) (psI (psI σ 216 3 (-1 : Int32)) 216 4 (-1 : Int32))).bind (fun o24 => some o24)
theorem gm_X2_findWhomToWake : gM "AskedCamp$Foresight" yX2_findWhomToWake (Cond.code yX2_findWhomToWake cX2_findWhomToWake 6 (Option.none : Option Jvm.ClassFile.FieldType)) 2 := ⟨by decide +kernel, tw_886, tw_887, tw_9, tw_888⟩
set_option maxHeartbeats 4000000 in
set_option maxRecDepth 100000 in
theorem l_X2_findWhomToWake_12 {p : Program} {l : Launch} {e : Env} {R : Room} {s : State} {m : MethodId} {args : Array Value} {below : List Frame} {meth : Method} {c : Code} {D : va_G} {ad : Nat → Nat} {ca : Nat → ClassId} {kz : Nat → Nat} {Q : State → Prop} (C : pC p s m args c cX2_findWhomToWake "AskedCamp$Foresight" 6 D ad ca kz) (hR : 7 ≤ R.frames ∧ 175 ≤ R.locals) {n : Nat} {a1 : Nat} (ha1 : pis a1 5) (o : PS) (hx0 : PW p l e R s m args below meth c 6 D ad ca Q (o) 113 [] []) : ∀ (k : Nat) (x2 : Int32) (x3 : Int32) (σ : PS), L_X2_findWhomToWake_12 n a1 k x2 x3 σ = some o → PW p l e R s m args below meth c 6 D ad ca Q σ 12 [(0, .ref (ad (216))), (1, .ref (ad (a1))), (2, .int x2), (3, .int x3)] [] := by
  intro k
  induction k with
  | zero => intro x2 x3 σ hF; exact nomatch (show (none : Option (PS)) = some o from hF)
  | succ k ih =>
    intro x2 x3 σ hF
    rw [L_X2_findWhomToWake_12] at hF
    refine q_iload_n C 3 dX2_findWhomToWake_12 rfl rfl ?_
    refine q_aload_n C 1 dX2_findWhomToWake_13 rfl rfl ?_
    refine qg_5_1 C ha1 tw_231 dX2_findWhomToWake_14 ?_
    refine qg_9_5 C (pkS ha1).2.1 tw_181 dX2_findWhomToWake_17 ?_
    refine q_icmp_ge (tgt := 113) C dX2_findWhomToWake_20 (by decide) (fun c1 => ?_) (fun c1 => ?_)
    · replace hF := ift c1 hF
      cases hF
      refine q_sub [] rfl ?_
      exact hx0
    · replace hF := ife c1 hF
      refine q_aload_n C 0 dX2_findWhomToWake_23 rfl rfl ?_
      refine qg_2_0 C pi_216 tw_293 dX2_findWhomToWake_24 ?_
      refine q_aload_n C 1 dX2_findWhomToWake_27 rfl rfl ?_
      refine qg_5_1 C ha1 tw_231 dX2_findWhomToWake_28 ?_
      obtain ⟨q2, h3, hF⟩ := bnd hF
      try dsimp only at hF
      refine q_callVv C [.ref (ad (a1 + 7))] (c_X10_copyFrom l D ad ca kz C.2.2.2.2.2.2.1 _ pi_217 (pkS ha1).2.1 _ _ h3) tw_843 gm_X10_copyFrom pi_217.1 (pe_9 pi_217.2) rfl ⟨rfl, rfl⟩ ⟨Nat.le_trans (Nat.le_of_ble_eq_true rfl) hR.1, Nat.le_trans (Nat.le_of_ble_eq_true rfl) hR.2⟩ rfl (Nat.le_of_ble_eq_true rfl) dX2_findWhomToWake_31 ?_
      refine q_iload_n C 3 dX2_findWhomToWake_34 rfl rfl ?_
      refine q_iconst (v := -1) C dX2_findWhomToWake_35 (by decide) ?_
      refine q_icmp_eq (tgt := 52) C dX2_findWhomToWake_36 (by decide) (fun c4 => ?_) (fun c4 => ?_)
      · replace hF := ift c4 hF
        refine q_aload_n C 0 dX2_findWhomToWake_52 rfl rfl ?_
        refine qg_2_0 C pi_216 tw_293 dX2_findWhomToWake_53 ?_
        obtain ⟨q5, h6, hF⟩ := bnd hF
        try dsimp only at hF
        refine q_callVi C [] (c_X10_everAsked l D ad ca kz C.2.2.2.2.2.2.1 _ pi_217 _ _ h6) tw_889 gm_X10_everAsked pi_217.1 (pe_9 pi_217.2) rfl ⟨rfl, rfl⟩ ⟨Nat.le_trans (Nat.le_of_ble_eq_true rfl) hR.1, Nat.le_trans (Nat.le_of_ble_eq_true rfl) hR.2⟩ rfl (Nat.le_of_ble_eq_true rfl) dX2_findWhomToWake_56 ?_
        refine q_istore C [(4, .int q5.1), (0, .ref (ad (216))), (1, .ref (ad (a1))), (2, .int x2), (3, .int x3)] dX2_findWhomToWake_59 (by decide) rfl ?_
        refine q_aload_n C 1 dX2_findWhomToWake_61 rfl rfl ?_
        refine q_aload_n C 2 dX2_findWhomToWake_62 rfl rfl ?_
        refine qg_5_5 C ha1 tw_241 dX2_findWhomToWake_63 ?_
        refine q_iload_n C 3 dX2_findWhomToWake_66 rfl rfl ?_
        obtain ⟨q7, h8, hF⟩ := bnd hF
        try dsimp only at hF
        refine q_callVv C [.int (q5.2.1 a1 5), .int x2] (c_X2_walkOn l D ad ca kz C.2.2.2.2.2.2.1 _ _ _ _ _ h8) tw_844 gm_X2_walkOn pi_216.1 (pe_2 pi_216.2) rfl ⟨rfl, rfl⟩ ⟨Nat.le_trans (Nat.le_of_ble_eq_true rfl) hR.1, Nat.le_trans (Nat.le_of_ble_eq_true rfl) hR.2⟩ rfl (Nat.le_of_ble_eq_true rfl) dX2_findWhomToWake_67 ?_
        refine q_aload_n C 1 dX2_findWhomToWake_70 rfl rfl ?_
        refine qg_2_0 C pi_216 tw_293 dX2_findWhomToWake_71 ?_
        obtain ⟨q9, h10, hF⟩ := bnd hF
        try dsimp only at hF
        refine q_callVi C [] (c_X10_everAsked l D ad ca kz C.2.2.2.2.2.2.1 _ pi_217 _ _ h10) tw_889 gm_X10_everAsked pi_217.1 (pe_9 pi_217.2) rfl ⟨rfl, rfl⟩ ⟨Nat.le_trans (Nat.le_of_ble_eq_true rfl) hR.1, Nat.le_trans (Nat.le_of_ble_eq_true rfl) hR.2⟩ rfl (Nat.le_of_ble_eq_true rfl) dX2_findWhomToWake_74 ?_
        refine q_iload C 0 dX2_findWhomToWake_77 rfl ?_
        refine q_iconst (v := -1) C dX2_findWhomToWake_79 (by decide) ?_
        refine q_ixor C dX2_findWhomToWake_80 ?_
        refine q_iand C dX2_findWhomToWake_81 ?_
        obtain ⟨q11, h12, hF⟩ := bnd hF
        try dsimp only at hF
        refine q_callSi C [.int (q9.1 &&& (q5.1 ^^^ (-1 : Int32)))] (c_J6_bitCount_0f7a4 l D ad ca kz C.2.2.2.2.2.2.1 _ _ _ _ h12) tw_890 gm_J6_bitCount_0f7a4 ⟨rfl, rfl⟩ ⟨Nat.le_trans (Nat.le_of_ble_eq_true rfl) hR.1, Nat.le_trans (Nat.le_of_ble_eq_true rfl) hR.2⟩ rfl (Nat.le_of_ble_eq_true rfl) dX2_findWhomToWake_82 ?_
        refine q_istore C [(5, .int q11.1), (4, .int q5.1), (0, .ref (ad (216))), (1, .ref (ad (a1))), (2, .int x2), (3, .int x3)] dX2_findWhomToWake_85 (by decide) rfl ?_
        refine q_iload C 0 dX2_findWhomToWake_87 rfl ?_
        refine q_aload_n C 2 dX2_findWhomToWake_89 rfl rfl ?_
        refine qg_2_4 C pi_216 tw_299 dX2_findWhomToWake_90 ?_
        refine q_icmp_le (tgt := 107) C dX2_findWhomToWake_93 (by decide) (fun c13 => ?_) (fun c13 => ?_)
        · replace hF := ift c13 hF
          refine q_iinc C 5 [(3, .int (x3 + 1)), (5, .int q11.1), (4, .int q5.1), (0, .ref (ad (216))), (1, .ref (ad (a1))), (2, .int x2)] dX2_findWhomToWake_107 rfl rfl (by decide) rfl ?_
          refine q_goto (tgt := 12) C dX2_findWhomToWake_110 (by decide) ?_
          refine q_sub [3, 4, 5, 0] rfl ?_
          exact ih _ _ _ hF
        · replace hF := ife c13 hF
          refine q_aload_n C 2 dX2_findWhomToWake_96 rfl rfl ?_
          refine q_iload_n C 5 dX2_findWhomToWake_97 rfl rfl ?_
          refine qs_2_3 C pi_216 tw_297 dX2_findWhomToWake_98 ?_
          refine q_aload_n C 2 dX2_findWhomToWake_101 rfl rfl ?_
          refine q_iload C 0 dX2_findWhomToWake_102 rfl ?_
          refine qs_2_4 C pi_216 tw_299 dX2_findWhomToWake_104 ?_
          refine q_iinc C 5 [(3, .int (x3 + 1)), (5, .int q11.1), (4, .int q5.1), (0, .ref (ad (216))), (1, .ref (ad (a1))), (2, .int x2)] dX2_findWhomToWake_107 rfl rfl (by decide) rfl ?_
          refine q_goto (tgt := 12) C dX2_findWhomToWake_110 (by decide) ?_
          refine q_sub [3, 4, 5, 0] rfl ?_
          exact ih _ _ _ hF
      · replace hF := ife c4 hF
        refine q_aload_n C 0 dX2_findWhomToWake_39 rfl rfl ?_
        refine qg_2_0 C pi_216 tw_293 dX2_findWhomToWake_40 ?_
        refine qg_9_9 C pi_217 tw_194 dX2_findWhomToWake_43 ?_
        refine q_iload_n C 3 dX2_findWhomToWake_46 rfl rfl ?_
        refine q_dup2 C dX2_findWhomToWake_47 rfl rfl ?_
        obtain ⟨g14, hF⟩ := grd hF
        refine q_iald C pa_220 (vp_of g14) dX2_findWhomToWake_48 ?_
        refine q_iconst (v := 1) C dX2_findWhomToWake_49 (by decide) ?_
        refine q_iadd C dX2_findWhomToWake_50 ?_
        refine q_iast C pa_220 (vp_of g14) dX2_findWhomToWake_51 ?_
        refine q_aload_n C 0 dX2_findWhomToWake_52 rfl rfl ?_
        refine qg_2_0 C pi_216 tw_293 dX2_findWhomToWake_53 ?_
        obtain ⟨q15, h16, hF⟩ := bnd hF
        try dsimp only at hF
        refine q_callVi C [] (c_X10_everAsked l D ad ca kz C.2.2.2.2.2.2.1 _ pi_217 _ _ h16) tw_889 gm_X10_everAsked pi_217.1 (pe_9 pi_217.2) rfl ⟨rfl, rfl⟩ ⟨Nat.le_trans (Nat.le_of_ble_eq_true rfl) hR.1, Nat.le_trans (Nat.le_of_ble_eq_true rfl) hR.2⟩ rfl (Nat.le_of_ble_eq_true rfl) dX2_findWhomToWake_56 ?_
        refine q_istore C [(4, .int q15.1), (0, .ref (ad (216))), (1, .ref (ad (a1))), (2, .int x2), (3, .int x3)] dX2_findWhomToWake_59 (by decide) rfl ?_
        refine q_aload_n C 1 dX2_findWhomToWake_61 rfl rfl ?_
        refine q_aload_n C 2 dX2_findWhomToWake_62 rfl rfl ?_
        refine qg_5_5 C ha1 tw_241 dX2_findWhomToWake_63 ?_
        refine q_iload_n C 3 dX2_findWhomToWake_66 rfl rfl ?_
        obtain ⟨q17, h18, hF⟩ := bnd hF
        try dsimp only at hF
        refine q_callVv C [.int (q15.2.1 a1 5), .int x2] (c_X2_walkOn l D ad ca kz C.2.2.2.2.2.2.1 _ _ _ _ _ h18) tw_844 gm_X2_walkOn pi_216.1 (pe_2 pi_216.2) rfl ⟨rfl, rfl⟩ ⟨Nat.le_trans (Nat.le_of_ble_eq_true rfl) hR.1, Nat.le_trans (Nat.le_of_ble_eq_true rfl) hR.2⟩ rfl (Nat.le_of_ble_eq_true rfl) dX2_findWhomToWake_67 ?_
        refine q_aload_n C 1 dX2_findWhomToWake_70 rfl rfl ?_
        refine qg_2_0 C pi_216 tw_293 dX2_findWhomToWake_71 ?_
        obtain ⟨q19, h20, hF⟩ := bnd hF
        try dsimp only at hF
        refine q_callVi C [] (c_X10_everAsked l D ad ca kz C.2.2.2.2.2.2.1 _ pi_217 _ _ h20) tw_889 gm_X10_everAsked pi_217.1 (pe_9 pi_217.2) rfl ⟨rfl, rfl⟩ ⟨Nat.le_trans (Nat.le_of_ble_eq_true rfl) hR.1, Nat.le_trans (Nat.le_of_ble_eq_true rfl) hR.2⟩ rfl (Nat.le_of_ble_eq_true rfl) dX2_findWhomToWake_74 ?_
        refine q_iload C 0 dX2_findWhomToWake_77 rfl ?_
        refine q_iconst (v := -1) C dX2_findWhomToWake_79 (by decide) ?_
        refine q_ixor C dX2_findWhomToWake_80 ?_
        refine q_iand C dX2_findWhomToWake_81 ?_
        obtain ⟨q21, h22, hF⟩ := bnd hF
        try dsimp only at hF
        refine q_callSi C [.int (q19.1 &&& (q15.1 ^^^ (-1 : Int32)))] (c_J6_bitCount_0f7a4 l D ad ca kz C.2.2.2.2.2.2.1 _ _ _ _ h22) tw_890 gm_J6_bitCount_0f7a4 ⟨rfl, rfl⟩ ⟨Nat.le_trans (Nat.le_of_ble_eq_true rfl) hR.1, Nat.le_trans (Nat.le_of_ble_eq_true rfl) hR.2⟩ rfl (Nat.le_of_ble_eq_true rfl) dX2_findWhomToWake_82 ?_
        refine q_istore C [(5, .int q21.1), (4, .int q15.1), (0, .ref (ad (216))), (1, .ref (ad (a1))), (2, .int x2), (3, .int x3)] dX2_findWhomToWake_85 (by decide) rfl ?_
        refine q_iload C 0 dX2_findWhomToWake_87 rfl ?_
        refine q_aload_n C 2 dX2_findWhomToWake_89 rfl rfl ?_
        refine qg_2_4 C pi_216 tw_299 dX2_findWhomToWake_90 ?_
        refine q_icmp_le (tgt := 107) C dX2_findWhomToWake_93 (by decide) (fun c23 => ?_) (fun c23 => ?_)
        · replace hF := ift c23 hF
          refine q_iinc C 5 [(3, .int (x3 + 1)), (5, .int q21.1), (4, .int q15.1), (0, .ref (ad (216))), (1, .ref (ad (a1))), (2, .int x2)] dX2_findWhomToWake_107 rfl rfl (by decide) rfl ?_
          refine q_goto (tgt := 12) C dX2_findWhomToWake_110 (by decide) ?_
          refine q_sub [3, 4, 5, 0] rfl ?_
          exact ih _ _ _ hF
        · replace hF := ife c23 hF
          refine q_aload_n C 2 dX2_findWhomToWake_96 rfl rfl ?_
          refine q_iload_n C 5 dX2_findWhomToWake_97 rfl rfl ?_
          refine qs_2_3 C pi_216 tw_297 dX2_findWhomToWake_98 ?_
          refine q_aload_n C 2 dX2_findWhomToWake_101 rfl rfl ?_
          refine q_iload C 0 dX2_findWhomToWake_102 rfl ?_
          refine qs_2_4 C pi_216 tw_299 dX2_findWhomToWake_104 ?_
          refine q_iinc C 5 [(3, .int (x3 + 1)), (5, .int q21.1), (4, .int q15.1), (0, .ref (ad (216))), (1, .ref (ad (a1))), (2, .int x2)] dX2_findWhomToWake_107 rfl rfl (by decide) rfl ?_
          refine q_goto (tgt := 12) C dX2_findWhomToWake_110 (by decide) ?_
          refine q_sub [3, 4, 5, 0] rfl ?_
          exact ih _ _ _ hF
set_option maxHeartbeats 4000000 in
set_option maxRecDepth 100000 in
theorem c_X2_findWhomToWake (l : Launch) (D : va_G) (ad : Nat → Nat) (ca : Nat → ClassId) (kz : Nat → Nat) (hJ : pInj ad) (n : Nat) {a1 : Nat} (ha1 : pis a1 5) (a2 : Int32) (σ : PS) (out : PS) (hF : F_X2_findWhomToWake n a1 a2 σ = some out) : Met l yX2_findWhomToWake (Cond.code yX2_findWhomToWake cX2_findWhomToWake 6 (Option.none : Option Jvm.ClassFile.FieldType) :: gw_tbl) { frames := 7, cells := 0, slots := 0, locals := 175 } (va_Pc [.ref (ad (216)), .ref (ad (a1)), .int a2] (pU D ad ca kz σ)) (pQv D ad ca out) 0 0 (pAD ad) := by
  refine q_entry (own := "AskedCamp$Foresight") hJ (by decide) rfl (Nat.le_of_ble_eq_true rfl) (fun p e s m below meth c C hr hlk => ?_)
  refine q_lv [(0, .ref (ad (216))), (1, .ref (ad (a1))), (2, .int a2)] rfl ?_
  rw [F_X2_findWhomToWake] at hF
  refine q_aload_n C 0 dX2_findWhomToWake_0 rfl rfl ?_
  refine q_iconst (v := -1) C dX2_findWhomToWake_1 (by decide) ?_
  refine qs_2_3 C pi_216 tw_297 dX2_findWhomToWake_2 ?_
  refine q_aload_n C 0 dX2_findWhomToWake_5 rfl rfl ?_
  refine q_iconst (v := -1) C dX2_findWhomToWake_6 (by decide) ?_
  refine qs_2_4 C pi_216 tw_299 dX2_findWhomToWake_7 ?_
  refine q_iconst (v := -1) C dX2_findWhomToWake_10 (by decide) ?_
  refine q_istore_n C [(3, .int (-1)), (0, .ref (ad (216))), (1, .ref (ad (a1))), (2, .int a2)] dX2_findWhomToWake_11 rfl (by decide) rfl ?_
  obtain ⟨o24, h25, hF⟩ := bnd hF
  try dsimp only at hF
  refine q_sub [1, 2, 3, 0] rfl ?_
  refine l_X2_findWhomToWake_12 C ⟨Nat.le_of_ble_eq_true rfl, Nat.le_of_ble_eq_true rfl⟩ ha1 o24 ?_ n _ _ _ h25
  exact q_vret C hr hlk dX2_findWhomToWake_113 hF
-- X11_wake
def F_X11_wake (n : Nat) (a1 : Int32) (a2 : Int32) (σ : PS) : Option (Int32 × PS) := (F_X10_isPitched n 25 σ).bind (fun q1 => (if q1.1 = 0 then some ((-2 : Int32), q1.2) else (if a1 < (1 : Int32) then some ((-2 : Int32), q1.2) else (if (30 : Int32) < a1 then some ((-2 : Int32), q1.2) else (if a2 < 0 then some ((-2 : Int32), q1.2) else (if a2 ≤ (1 : Int32) then (F_X2_findWhomToWake n 18 a1 q1.2).bind (fun q8 => (if a2 = 0 then some ((q8.1 216 3), q8) else some ((q8.1 216 4), q8))) else some ((-2 : Int32), q1.2)))))))
theorem gm_X11_wake : gM "AskedCamp" yX11_wake (Cond.code yX11_wake cX11_wake 3 (Option.some Jvm.ClassFile.FieldType.int)) 2 := ⟨by decide +kernel, tw_882, tw_883, tw_1, tw_884⟩
set_option maxHeartbeats 4000000 in
set_option maxRecDepth 100000 in
theorem c_X11_wake (l : Launch) (D : va_G) (ad : Nat → Nat) (ca : Nat → ClassId) (kz : Nat → Nat) (hJ : pInj ad) (n : Nat) (a1 : Int32) (a2 : Int32) (σ : PS) (out : Int32 × PS) (hF : F_X11_wake n a1 a2 σ = some out) : Met l yX11_wake (Cond.code yX11_wake cX11_wake 3 (Option.some Jvm.ClassFile.FieldType.int) :: gw_tbl) { frames := 8, cells := 0, slots := 0, locals := 200 } (va_Pc [.ref (ad (0)), .int a1, .int a2] (pU D ad ca kz σ)) (pQi D ad ca out) 0 0 (pAD ad) := by
  refine q_entry (own := "AskedCamp") hJ (by decide) rfl (Nat.le_of_ble_eq_true rfl) (fun p e s m below meth c C hr hlk => ?_)
  refine q_lv [(0, .ref (ad (0))), (1, .int a1), (2, .int a2)] rfl ?_
  rw [F_X11_wake] at hF
  refine q_aload_n C 0 dX11_wake_0 rfl rfl ?_
  refine qg_10_4 C pi_0 tw_384 dX11_wake_1 ?_
  refine qg_5_1 C pi_18 tw_232 dX11_wake_4 ?_
  obtain ⟨q1, h2, hF⟩ := bnd hF
  try dsimp only at hF
  refine q_callVi C [] (c_X10_isPitched l D ad ca kz C.2.2.2.2.2.2.1 _ pi_25 _ _ h2) tw_687 gm_X10_isPitched pi_25.1 (pe_9 pi_25.2) rfl ⟨rfl, rfl⟩ ⟨Nat.le_of_ble_eq_true rfl, Nat.le_of_ble_eq_true rfl⟩ rfl (Nat.le_of_ble_eq_true rfl) dX11_wake_7 ?_
  refine q_if_eq (tgt := 33) C dX11_wake_10 (by decide) (fun c3 => ?_) (fun c3 => ?_)
  · replace hF := ift c3 hF
    refine q_bipush (v := -2) C dX11_wake_33 (by decide) ?_
    exact q_iret C hr hlk dX11_wake_35 hF
  · replace hF := ife c3 hF
    refine q_iload_n C 1 dX11_wake_13 rfl rfl ?_
    refine q_iconst (v := 1) C dX11_wake_14 (by decide) ?_
    refine q_icmp_lt (tgt := 33) C dX11_wake_15 (by decide) (fun c4 => ?_) (fun c4 => ?_)
    · replace hF := ift c4 hF
      refine q_bipush (v := -2) C dX11_wake_33 (by decide) ?_
      exact q_iret C hr hlk dX11_wake_35 hF
    · replace hF := ife c4 hF
      refine q_iload_n C 1 dX11_wake_18 rfl rfl ?_
      refine q_bipush (v := 30) C dX11_wake_19 (by decide) ?_
      refine q_icmp_gt (tgt := 33) C dX11_wake_21 (by decide) (fun c5 => ?_) (fun c5 => ?_)
      · replace hF := ift c5 hF
        refine q_bipush (v := -2) C dX11_wake_33 (by decide) ?_
        exact q_iret C hr hlk dX11_wake_35 hF
      · replace hF := ife c5 hF
        refine q_iload_n C 2 dX11_wake_24 rfl rfl ?_
        refine q_if_lt (tgt := 33) C dX11_wake_25 (by decide) (fun c6 => ?_) (fun c6 => ?_)
        · replace hF := ift c6 hF
          refine q_bipush (v := -2) C dX11_wake_33 (by decide) ?_
          exact q_iret C hr hlk dX11_wake_35 hF
        · replace hF := ife c6 hF
          refine q_iload_n C 2 dX11_wake_28 rfl rfl ?_
          refine q_iconst (v := 1) C dX11_wake_29 (by decide) ?_
          refine q_icmp_le (tgt := 36) C dX11_wake_30 (by decide) (fun c7 => ?_) (fun c7 => ?_)
          · replace hF := ift c7 hF
            refine q_aload_n C 0 dX11_wake_36 rfl rfl ?_
            refine qg_10_7 C pi_0 tw_387 dX11_wake_37 ?_
            refine q_aload_n C 0 dX11_wake_40 rfl rfl ?_
            refine qg_10_4 C pi_0 tw_384 dX11_wake_41 ?_
            refine q_iload_n C 1 dX11_wake_44 rfl rfl ?_
            obtain ⟨q8, h9, hF⟩ := bnd hF
            try dsimp only at hF
            refine q_callVv C [.ref (ad (18)), .int a1] (c_X2_findWhomToWake l D ad ca kz C.2.2.2.2.2.2.1 _ pi_18 _ _ _ h9) tw_885 gm_X2_findWhomToWake pi_216.1 (pe_2 pi_216.2) rfl ⟨rfl, rfl⟩ ⟨Nat.le_of_ble_eq_true rfl, Nat.le_of_ble_eq_true rfl⟩ rfl (Nat.le_of_ble_eq_true rfl) dX11_wake_45 ?_
            refine q_iload_n C 2 dX11_wake_48 rfl rfl ?_
            refine q_if_ne (tgt := 62) C dX11_wake_49 (by decide) (fun c10 => ?_) (fun c10 => ?_)
            · replace hF := ife c10 hF
              refine q_aload_n C 0 dX11_wake_62 rfl rfl ?_
              refine qg_10_7 C pi_0 tw_387 dX11_wake_63 ?_
              refine qg_2_4 C pi_216 tw_300 dX11_wake_66 ?_
              exact q_iret C hr hlk dX11_wake_69 hF
            · replace hF := ift c10 hF
              refine q_aload_n C 0 dX11_wake_52 rfl rfl ?_
              refine qg_10_7 C pi_0 tw_387 dX11_wake_53 ?_
              refine qg_2_3 C pi_216 tw_298 dX11_wake_56 ?_
              refine q_goto (tgt := 69) C dX11_wake_59 (by decide) ?_
              exact q_iret C hr hlk dX11_wake_69 hF
          · replace hF := ife c7 hF
            refine q_bipush (v := -2) C dX11_wake_33 (by decide) ?_
            exact q_iret C hr hlk dX11_wake_35 hF
-- X11_way
def F_X11_way (n : Nat) (a1 : Int32) (σ : PS) : Option (Int32 × PS) := (F_X10_hasCell n 25 a1 σ).bind (fun q1 => (if q1.1 = 0 then some ((-1 : Int32), q1.2) else (F_X10_distance n 25 (q1.2.1 25 2) ((1 : Int64) <<< (a1.toInt64 &&& 63)) q1.2).bind (fun q4 => (if q4.1 = (-1 : Int32) then some ((-2 : Int32), q4.2) else some (q4.1, q4.2)))))
theorem gm_X11_way : gM "AskedCamp" yX11_way (Cond.code yX11_way cX11_way 4 (Option.some Jvm.ClassFile.FieldType.int)) 1 := ⟨by decide +kernel, tw_930, tw_931, tw_1, tw_932⟩
set_option maxHeartbeats 4000000 in
set_option maxRecDepth 100000 in
theorem c_X11_way (l : Launch) (D : va_G) (ad : Nat → Nat) (ca : Nat → ClassId) (kz : Nat → Nat) (hJ : pInj ad) (n : Nat) (a1 : Int32) (σ : PS) (out : Int32 × PS) (hF : F_X11_way n a1 σ = some out) : Met l yX11_way (Cond.code yX11_way cX11_way 4 (Option.some Jvm.ClassFile.FieldType.int) :: gw_tbl) { frames := 2, cells := 0, slots := 0, locals := 56 } (va_Pc [.ref (ad (0)), .int a1] (pU D ad ca kz σ)) (pQi D ad ca out) 0 0 (pAD ad) := by
  refine q_entry (own := "AskedCamp") hJ (by decide) rfl (Nat.le_of_ble_eq_true rfl) (fun p e s m below meth c C hr hlk => ?_)
  refine q_lv [(0, .ref (ad (0))), (1, .int a1)] rfl ?_
  rw [F_X11_way] at hF
  refine q_aload_n C 0 dX11_way_0 rfl rfl ?_
  refine qg_10_4 C pi_0 tw_384 dX11_way_1 ?_
  refine qg_5_1 C pi_18 tw_232 dX11_way_4 ?_
  refine q_astore_n C [(2, .ref (ad (25))), (0, .ref (ad (0))), (1, .int a1)] dX11_way_7 rfl (by decide) rfl ?_
  refine q_aload_n C 0 dX11_way_8 rfl rfl ?_
  refine q_iload_n C 2 dX11_way_9 rfl rfl ?_
  obtain ⟨q1, h2, hF⟩ := bnd hF
  try dsimp only at hF
  refine q_callVi C [.int a1] (c_X10_hasCell l D ad ca kz C.2.2.2.2.2.2.1 _ pi_25 _ _ _ h2) tw_671 gm_X10_hasCell pi_25.1 (pe_9 pi_25.2) rfl ⟨rfl, rfl⟩ ⟨Nat.le_of_ble_eq_true rfl, Nat.le_of_ble_eq_true rfl⟩ rfl (Nat.le_of_ble_eq_true rfl) dX11_way_10 ?_
  refine q_if_ne (tgt := 18) C dX11_way_13 (by decide) (fun c3 => ?_) (fun c3 => ?_)
  · replace hF := ife c3 hF
    refine q_aload_n C 0 dX11_way_18 rfl rfl ?_
    refine q_aload_n C 0 dX11_way_19 rfl rfl ?_
    refine qg_9_2 C pi_25 tw_169 dX11_way_20 ?_
    refine q_lconst (v := 1) C dX11_way_23 (by decide) ?_
    refine q_iload_n C 2 dX11_way_24 rfl rfl ?_
    refine q_lshl C dX11_way_25 ?_
    obtain ⟨q4, h5, hF⟩ := bnd hF
    try dsimp only at hF
    refine q_callVi C [.int (q1.2.1 25 2), .long ((1 : Int64) <<< (a1.toInt64 &&& 63))] (c_X10_distance l D ad ca kz C.2.2.2.2.2.2.1 _ pi_25 _ _ _ _ h5) tw_933 gm_X10_distance pi_25.1 (pe_9 pi_25.2) rfl ⟨rfl, rfl⟩ ⟨Nat.le_of_ble_eq_true rfl, Nat.le_of_ble_eq_true rfl⟩ rfl (Nat.le_of_ble_eq_true rfl) dX11_way_26 ?_
    refine q_istore_n C [(3, .int q4.1), (2, .ref (ad (25))), (0, .ref (ad (0))), (1, .int a1)] dX11_way_29 rfl (by decide) rfl ?_
    refine q_iload_n C 0 dX11_way_30 rfl rfl ?_
    refine q_iconst (v := -1) C dX11_way_31 (by decide) ?_
    refine q_icmp_ne (tgt := 40) C dX11_way_32 (by decide) (fun c6 => ?_) (fun c6 => ?_)
    · replace hF := ife c6 hF
      refine q_iload_n C 0 dX11_way_40 rfl rfl ?_
      exact q_iret C hr hlk dX11_way_41 hF
    · replace hF := ift c6 hF
      refine q_bipush (v := -2) C dX11_way_35 (by decide) ?_
      refine q_goto (tgt := 41) C dX11_way_37 (by decide) ?_
      exact q_iret C hr hlk dX11_way_41 hF
  · replace hF := ift c3 hF
    refine q_iconst (v := -1) C dX11_way_16 (by decide) ?_
    exact q_iret C hr hlk dX11_way_17 hF
-- X11_whistle
def F_X11_whistle (n : Nat) (a1 : Int32) (σ : PS) : Option (Int32 × PS) := (F_X10_hasCell n 25 a1 σ).bind (fun q1 => (if q1.1 = 0 then some ((-1 : Int32), q1.2) else (F_X10_towards n 25 ((1 : Int64) <<< (a1.toInt64 &&& 63)) q1.2).bind (fun q4 => (if q4.1 = (q4.2.1 25 2) then some ((-1 : Int32), q4.2) else (F_X0_keep n 25 q4.2).bind (fun q7 => some (q4.1, psI q7 25 2 q4.1))))))
theorem gm_X11_whistle : gM "AskedCamp" yX11_whistle (Cond.code yX11_whistle cX11_whistle 4 (Option.some Jvm.ClassFile.FieldType.int)) 1 := ⟨by decide +kernel, tw_810, tw_811, tw_1, tw_812⟩
set_option maxHeartbeats 4000000 in
set_option maxRecDepth 100000 in
theorem c_X11_whistle (l : Launch) (D : va_G) (ad : Nat → Nat) (ca : Nat → ClassId) (kz : Nat → Nat) (hJ : pInj ad) (n : Nat) (a1 : Int32) (σ : PS) (out : Int32 × PS) (hF : F_X11_whistle n a1 σ = some out) : Met l yX11_whistle (Cond.code yX11_whistle cX11_whistle 4 (Option.some Jvm.ClassFile.FieldType.int) :: gw_tbl) { frames := 3, cells := 0, slots := 0, locals := 123 } (va_Pc [.ref (ad (0)), .int a1] (pU D ad ca kz σ)) (pQi D ad ca out) 0 0 (pAD ad) := by
  refine q_entry (own := "AskedCamp") hJ (by decide) rfl (Nat.le_of_ble_eq_true rfl) (fun p e s m below meth c C hr hlk => ?_)
  refine q_lv [(0, .ref (ad (0))), (1, .int a1)] rfl ?_
  rw [F_X11_whistle] at hF
  refine q_aload_n C 0 dX11_whistle_0 rfl rfl ?_
  refine qg_10_4 C pi_0 tw_384 dX11_whistle_1 ?_
  refine qg_5_1 C pi_18 tw_232 dX11_whistle_4 ?_
  refine q_astore_n C [(2, .ref (ad (25))), (0, .ref (ad (0))), (1, .int a1)] dX11_whistle_7 rfl (by decide) rfl ?_
  refine q_aload_n C 0 dX11_whistle_8 rfl rfl ?_
  refine q_iload_n C 2 dX11_whistle_9 rfl rfl ?_
  obtain ⟨q1, h2, hF⟩ := bnd hF
  try dsimp only at hF
  refine q_callVi C [.int a1] (c_X10_hasCell l D ad ca kz C.2.2.2.2.2.2.1 _ pi_25 _ _ _ h2) tw_671 gm_X10_hasCell pi_25.1 (pe_9 pi_25.2) rfl ⟨rfl, rfl⟩ ⟨Nat.le_of_ble_eq_true rfl, Nat.le_of_ble_eq_true rfl⟩ rfl (Nat.le_of_ble_eq_true rfl) dX11_whistle_10 ?_
  refine q_if_ne (tgt := 18) C dX11_whistle_13 (by decide) (fun c3 => ?_) (fun c3 => ?_)
  · replace hF := ife c3 hF
    refine q_aload_n C 0 dX11_whistle_18 rfl rfl ?_
    refine q_lconst (v := 1) C dX11_whistle_19 (by decide) ?_
    refine q_iload_n C 2 dX11_whistle_20 rfl rfl ?_
    refine q_lshl C dX11_whistle_21 ?_
    obtain ⟨q4, h5, hF⟩ := bnd hF
    try dsimp only at hF
    refine q_callVi C [.long ((1 : Int64) <<< (a1.toInt64 &&& 63))] (c_X10_towards l D ad ca kz C.2.2.2.2.2.2.1 _ pi_25 _ _ _ h5) tw_813 gm_X10_towards pi_25.1 (pe_9 pi_25.2) rfl ⟨rfl, rfl⟩ ⟨Nat.le_of_ble_eq_true rfl, Nat.le_of_ble_eq_true rfl⟩ rfl (Nat.le_of_ble_eq_true rfl) dX11_whistle_22 ?_
    refine q_istore_n C [(3, .int q4.1), (2, .ref (ad (25))), (0, .ref (ad (0))), (1, .int a1)] dX11_whistle_25 rfl (by decide) rfl ?_
    refine q_iload_n C 0 dX11_whistle_26 rfl rfl ?_
    refine q_aload_n C 1 dX11_whistle_27 rfl rfl ?_
    refine qg_9_2 C pi_25 tw_169 dX11_whistle_28 ?_
    refine q_icmp_ne (tgt := 36) C dX11_whistle_31 (by decide) (fun c6 => ?_) (fun c6 => ?_)
    · replace hF := ife c6 hF
      refine q_aload_n C 2 dX11_whistle_36 rfl rfl ?_
      refine qg_10_6 C pi_0 tw_386 dX11_whistle_37 ?_
      refine q_aload_n C 1 dX11_whistle_40 rfl rfl ?_
      obtain ⟨q7, h8, hF⟩ := bnd hF
      try dsimp only at hF
      refine q_callVv C [.ref (ad (25))] (c_X0_keep l D ad ca kz C.2.2.2.2.2.2.1 _ pi_25 _ _ h8) tw_709 gm_X0_keep pi_94.1 (pe_0 pi_94.2) rfl ⟨rfl, rfl⟩ ⟨Nat.le_of_ble_eq_true rfl, Nat.le_of_ble_eq_true rfl⟩ rfl (Nat.le_of_ble_eq_true rfl) dX11_whistle_41 ?_
      refine q_aload_n C 1 dX11_whistle_44 rfl rfl ?_
      refine q_iload_n C 0 dX11_whistle_45 rfl rfl ?_
      refine qs_9_2 C pi_25 tw_169 dX11_whistle_46 ?_
      refine q_iload_n C 0 dX11_whistle_49 rfl rfl ?_
      exact q_iret C hr hlk dX11_whistle_50 hF
    · replace hF := ift c6 hF
      refine q_iconst (v := -1) C dX11_whistle_34 (by decide) ?_
      exact q_iret C hr hlk dX11_whistle_35 hF
  · replace hF := ift c3 hF
    refine q_iconst (v := -1) C dX11_whistle_16 (by decide) ?_
    exact q_iret C hr hlk dX11_whistle_17 hF
-- X2_nextDraw
def F_X2_nextDraw (n : Nat) (σ : PS) : Option (Int32 × PS) := some (((((psJ σ 216 6 ((((σ.2 216 6) * (1103515245 : Int64)) + (12345 : Int64)) - (((σ.2 216 6) * (1103515245 : Int64)) + (12345 : Int64)) / (2147483648 : Int64) * (2147483648 : Int64))).2 216 6) / (65536 : Int64)).toInt32), psJ σ 216 6 ((((σ.2 216 6) * (1103515245 : Int64)) + (12345 : Int64)) - (((σ.2 216 6) * (1103515245 : Int64)) + (12345 : Int64)) / (2147483648 : Int64) * (2147483648 : Int64)))
theorem gm_X2_nextDraw : gM "AskedCamp$Foresight" yX2_nextDraw (Cond.code yX2_nextDraw cX2_nextDraw 1 (Option.some Jvm.ClassFile.FieldType.int)) 0 := ⟨by decide +kernel, tw_918, tw_p22, tw_9, tw_919⟩
set_option maxHeartbeats 4000000 in
set_option maxRecDepth 100000 in
theorem c_X2_nextDraw (l : Launch) (D : va_G) (ad : Nat → Nat) (ca : Nat → ClassId) (kz : Nat → Nat) (hJ : pInj ad) (n : Nat) (σ : PS) (out : Int32 × PS) (hF : F_X2_nextDraw n σ = some out) : Met l yX2_nextDraw (Cond.code yX2_nextDraw cX2_nextDraw 1 (Option.some Jvm.ClassFile.FieldType.int) :: gw_tbl) { frames := 0, cells := 0, slots := 0, locals := 0 } (va_Pc [.ref (ad (216))] (pU D ad ca kz σ)) (pQi D ad ca out) 0 0 (pAD ad) := by
  refine q_entry (own := "AskedCamp$Foresight") hJ (by decide) rfl (Nat.le_of_ble_eq_true rfl) (fun p e s m below meth c C hr hlk => ?_)
  refine q_lv [(0, .ref (ad (216)))] rfl ?_
  rw [F_X2_nextDraw] at hF
  refine q_aload_n C 0 dX2_nextDraw_0 rfl rfl ?_
  refine q_aload_n C 0 dX2_nextDraw_1 rfl rfl ?_
  refine qg_2_6 C pi_216 tw_303 dX2_nextDraw_2 ?_
  refine q_ldc2 C dX2_nextDraw_5 tw_920 ?_
  refine q_lmul C dX2_nextDraw_8 ?_
  refine q_ldc2 C dX2_nextDraw_9 tw_921 ?_
  refine q_ladd C dX2_nextDraw_12 ?_
  refine q_ldc2 C dX2_nextDraw_13 tw_922 ?_
  refine q_lrem C dX2_nextDraw_16 (by decide) ?_
  refine qs_2_6 C pi_216 tw_303 dX2_nextDraw_17 ?_
  refine q_aload_n C 0 dX2_nextDraw_20 rfl rfl ?_
  refine qg_2_6 C pi_216 tw_303 dX2_nextDraw_21 ?_
  refine q_ldc2 C dX2_nextDraw_24 tw_923 ?_
  refine q_ldiv C dX2_nextDraw_27 (by decide) ?_
  refine q_l2i C dX2_nextDraw_28 ?_
  exact q_iret C hr hlk dX2_nextDraw_29 hF
-- X2_drift
def F_X2_drift (n : Nat) (a1 : Int32) (σ : PS) : Option (PS) := (F_X2_nextDraw n σ).bind (fun q1 => (if a1 ≤ (q1.1 - q1.1 / (100 : Int32) * (100 : Int32)) then some q1.2 else (F_X2_nextDraw n q1.2).bind (fun q4 => (F_X10_passable n 217 (q1.2.1 217 2) (q4.1 - q4.1 / (4 : Int32) * (4 : Int32)) q4.2).bind (fun q6 => (if q6.1 = (-1 : Int32) then some q6.2 else some (psI q6.2 217 2 q6.1))))))
theorem gm_X2_drift : gM "AskedCamp$Foresight" yX2_drift (Cond.code yX2_drift cX2_drift 3 (Option.none : Option Jvm.ClassFile.FieldType)) 1 := ⟨by decide +kernel, tw_914, tw_p21, tw_9, tw_915⟩
set_option maxHeartbeats 4000000 in
set_option maxRecDepth 100000 in
theorem c_X2_drift (l : Launch) (D : va_G) (ad : Nat → Nat) (ca : Nat → ClassId) (kz : Nat → Nat) (hJ : pInj ad) (n : Nat) (a1 : Int32) (σ : PS) (out : PS) (hF : F_X2_drift n a1 σ = some out) : Met l yX2_drift (Cond.code yX2_drift cX2_drift 3 (Option.none : Option Jvm.ClassFile.FieldType) :: gw_tbl) { frames := 2, cells := 0, slots := 0, locals := 46 } (va_Pc [.ref (ad (216)), .int a1] (pU D ad ca kz σ)) (pQv D ad ca out) 0 0 (pAD ad) := by
  refine q_entry (own := "AskedCamp$Foresight") hJ (by decide) rfl (Nat.le_of_ble_eq_true rfl) (fun p e s m below meth c C hr hlk => ?_)
  refine q_lv [(0, .ref (ad (216))), (1, .int a1)] rfl ?_
  rw [F_X2_drift] at hF
  refine q_aload_n C 0 dX2_drift_0 rfl rfl ?_
  obtain ⟨q1, h2, hF⟩ := bnd hF
  try dsimp only at hF
  refine q_callVi C [] (c_X2_nextDraw l D ad ca kz C.2.2.2.2.2.2.1 _ _ _ h2) tw_916 gm_X2_nextDraw pi_216.1 (pe_2 pi_216.2) rfl ⟨rfl, rfl⟩ ⟨Nat.le_of_ble_eq_true rfl, Nat.le_of_ble_eq_true rfl⟩ rfl (Nat.le_of_ble_eq_true rfl) dX2_drift_1 ?_
  refine q_bipush (v := 100) C dX2_drift_4 (by decide) ?_
  refine q_irem C dX2_drift_6 (by decide) ?_
  refine q_iload_n C 1 dX2_drift_7 rfl rfl ?_
  refine q_icmp_ge (tgt := 45) C dX2_drift_8 (by decide) (fun c3 => ?_) (fun c3 => ?_)
  · replace hF := ift c3 hF
    exact q_vret C hr hlk dX2_drift_45 hF
  · replace hF := ife c3 hF
    refine q_aload_n C 0 dX2_drift_11 rfl rfl ?_
    refine qg_2_0 C pi_216 tw_293 dX2_drift_12 ?_
    refine q_aload_n C 0 dX2_drift_15 rfl rfl ?_
    refine qg_2_0 C pi_216 tw_293 dX2_drift_16 ?_
    refine qg_9_2 C pi_217 tw_168 dX2_drift_19 ?_
    refine q_aload_n C 0 dX2_drift_22 rfl rfl ?_
    obtain ⟨q4, h5, hF⟩ := bnd hF
    try dsimp only at hF
    refine q_callVi C [] (c_X2_nextDraw l D ad ca kz C.2.2.2.2.2.2.1 _ _ _ h5) tw_916 gm_X2_nextDraw pi_216.1 (pe_2 pi_216.2) rfl ⟨rfl, rfl⟩ ⟨Nat.le_of_ble_eq_true rfl, Nat.le_of_ble_eq_true rfl⟩ rfl (Nat.le_of_ble_eq_true rfl) dX2_drift_23 ?_
    refine q_iconst (v := 4) C dX2_drift_26 (by decide) ?_
    refine q_irem C dX2_drift_27 (by decide) ?_
    obtain ⟨q6, h7, hF⟩ := bnd hF
    try dsimp only at hF
    refine q_callVi C [.int (q1.2.1 217 2), .int (q4.1 - q4.1 / (4 : Int32) * (4 : Int32))] (c_X10_passable l D ad ca kz C.2.2.2.2.2.2.1 _ pi_217 _ _ _ _ h7) tw_924 gm_X10_passable pi_217.1 (pe_9 pi_217.2) rfl ⟨rfl, rfl⟩ ⟨Nat.le_of_ble_eq_true rfl, Nat.le_of_ble_eq_true rfl⟩ rfl (Nat.le_of_ble_eq_true rfl) dX2_drift_28 ?_
    refine q_istore_n C [(2, .int q6.1), (0, .ref (ad (216))), (1, .int a1)] dX2_drift_31 rfl (by decide) rfl ?_
    refine q_iload_n C 0 dX2_drift_32 rfl rfl ?_
    refine q_iconst (v := -1) C dX2_drift_33 (by decide) ?_
    refine q_icmp_eq (tgt := 45) C dX2_drift_34 (by decide) (fun c8 => ?_) (fun c8 => ?_)
    · replace hF := ift c8 hF
      exact q_vret C hr hlk dX2_drift_45 hF
    · replace hF := ife c8 hF
      refine q_aload_n C 1 dX2_drift_37 rfl rfl ?_
      refine qg_2_0 C pi_216 tw_293 dX2_drift_38 ?_
      refine q_iload_n C 0 dX2_drift_41 rfl rfl ?_
      refine qs_9_2 C pi_217 tw_168 dX2_drift_42 ?_
      exact q_vret C hr hlk dX2_drift_45 hF
-- X2_blow
def L_X2_blow_51 (n : Nat) (a1 : Nat) : Nat → Int32 → Int32 → Int32 → Int32 → Int32 → Int32 → PS → Option (Int32 × Int32 × Int32 × Int32 × Int32 × PS)
  | 0, _, _, _, _, _, _, _ => none
  | k + 1, x2, x3, x4, x5, x6, x7, σ => (if x3 ≤ x7 then some (x2, x3, x4, x5, x6, σ) else (F_X2_drift n x4 σ).bind (fun q7 => (F_X4_stride n 217 (q7.1 a1 5) q7).bind (fun q9 => L_X2_blow_51 n a1 k x2 x3 x4 x5 x6 (x7 + 1) q9)))
def L_X2_blow_31 (n : Nat) (a1 : Nat) : Nat → Int32 → Int32 → Int32 → Int32 → Int32 → PS → Option (PS)
  | 0, _, _, _, _, _, _ => none
  | k + 1, x2, x3, x4, x5, x6, σ => (if x2 ≤ x6 then some σ else (F_X10_copyFrom n 217 (a1 + 7) σ).bind (fun q4 => (L_X2_blow_51 n a1 n x2 x3 x4 x5 x6 (0 : Int32) q4).bind (fun o6 => (F_X10_askedInAll n 217 o6.2.2.2.2.2).bind (fun q8 => (F_J6_bitCount_0f7a4 n ((psI q8.2 216 4 ((o6.2.2.2.2.2.1 216 4) + (q8.1 - o6.2.2.2.1))).1 217 4) (psI q8.2 216 4 ((o6.2.2.2.2.2.1 216 4) + (q8.1 - o6.2.2.2.1)))).bind (fun q10 => L_X2_blow_31 n a1 k o6.1 o6.2.1 o6.2.2.1 o6.2.2.2.1 (o6.2.2.2.2.1 + 1) (psI q10.2 216 5 (((psI q8.2 216 4 ((o6.2.2.2.2.2.1 216 4) + (q8.1 - o6.2.2.2.1))).1 216 5) + q10.1)))))))
def F_X2_blow (n : Nat) (a1 : Nat) (a2 : Int32) (a3 : Int32) (a4 : Int32) (σ : PS) : Option (PS) := (F_X10_askedInAll n (a1 + 7) (psI (psI (psJ σ 216 6 ((σ.1 a1 6).toInt64)) 216 4 (0 : Int32)) 216 5 (0 : Int32))).bind (fun q1 => (L_X2_blow_31 n a1 n a2 a3 a4 q1.1 (0 : Int32) q1.2).bind (fun o12 => some o12))
theorem gm_X2_blow : gM "AskedCamp$Foresight" yX2_blow (Cond.code yX2_blow cX2_blow 8 (Option.none : Option Jvm.ClassFile.FieldType)) 4 := ⟨by decide +kernel, tw_908, tw_909, tw_9, tw_910⟩
set_option maxHeartbeats 4000000 in
set_option maxRecDepth 100000 in
theorem l_X2_blow_51 {p : Program} {l : Launch} {e : Env} {R : Room} {s : State} {m : MethodId} {args : Array Value} {below : List Frame} {meth : Method} {c : Code} {D : va_G} {ad : Nat → Nat} {ca : Nat → ClassId} {kz : Nat → Nat} {Q : State → Prop} (C : pC p s m args c cX2_blow "AskedCamp$Foresight" 8 D ad ca kz) (hR : 6 ≤ R.frames ∧ 152 ≤ R.locals) {n : Nat} {a1 : Nat} (ha1 : pis a1 5) (o : Int32 × Int32 × Int32 × Int32 × Int32 × PS) (hx0 : PW p l e R s m args below meth c 8 D ad ca Q (o.2.2.2.2.2) 84 [(0, .ref (ad (216))), (1, .ref (ad (a1))), (2, .int o.1), (3, .int o.2.1), (4, .int o.2.2.1), (5, .int o.2.2.2.1), (6, .int o.2.2.2.2.1)] []) : ∀ (k : Nat) (x2 : Int32) (x3 : Int32) (x4 : Int32) (x5 : Int32) (x6 : Int32) (x7 : Int32) (σ : PS), L_X2_blow_51 n a1 k x2 x3 x4 x5 x6 x7 σ = some o → PW p l e R s m args below meth c 8 D ad ca Q σ 51 [(0, .ref (ad (216))), (1, .ref (ad (a1))), (2, .int x2), (3, .int x3), (4, .int x4), (5, .int x5), (6, .int x6), (7, .int x7)] [] := by
  intro k
  induction k with
  | zero => intro x2 x3 x4 x5 x6 x7 σ hF; exact nomatch (show (none : Option (Int32 × Int32 × Int32 × Int32 × Int32 × PS)) = some o from hF)
  | succ k ih =>
    intro x2 x3 x4 x5 x6 x7 σ hF
    rw [L_X2_blow_51] at hF
    refine q_iload C 7 dX2_blow_51 rfl ?_
    refine q_iload_n C 3 dX2_blow_53 rfl rfl ?_
    refine q_icmp_ge (tgt := 84) C dX2_blow_54 (by decide) (fun c6 => ?_) (fun c6 => ?_)
    · replace hF := ift c6 hF
      cases hF
      refine q_sub [0, 1, 2, 3, 4, 5, 6] rfl ?_
      exact hx0
    · replace hF := ife c6 hF
      refine q_aload_n C 0 dX2_blow_57 rfl rfl ?_
      refine q_iload C 4 dX2_blow_58 rfl ?_
      obtain ⟨q7, h8, hF⟩ := bnd hF
      try dsimp only at hF
      refine q_callVv C [.int x4] (c_X2_drift l D ad ca kz C.2.2.2.2.2.2.1 _ _ _ _ h8) tw_912 gm_X2_drift pi_216.1 (pe_2 pi_216.2) rfl ⟨rfl, rfl⟩ ⟨Nat.le_trans (Nat.le_of_ble_eq_true rfl) hR.1, Nat.le_trans (Nat.le_of_ble_eq_true rfl) hR.2⟩ rfl (Nat.le_of_ble_eq_true rfl) dX2_blow_60 ?_
      refine q_aload_n C 0 dX2_blow_63 rfl rfl ?_
      refine qg_2_1 C pi_216 tw_295 dX2_blow_64 ?_
      refine q_aload_n C 0 dX2_blow_67 rfl rfl ?_
      refine qg_2_0 C pi_216 tw_293 dX2_blow_68 ?_
      refine q_aload_n C 1 dX2_blow_71 rfl rfl ?_
      refine qg_5_5 C ha1 tw_241 dX2_blow_72 ?_
      obtain ⟨q9, h10, hF⟩ := bnd hF
      try dsimp only at hF
      refine q_callVv C [.ref (ad (217)), .int (q7.1 a1 5)] (c_X4_stride l D ad ca kz C.2.2.2.2.2.2.1 _ pi_217 _ _ _ h10) tw_848 gm_X4_stride pi_7.1 (pe_3 pi_7.2) rfl ⟨rfl, rfl⟩ ⟨Nat.le_trans (Nat.le_of_ble_eq_true rfl) hR.1, Nat.le_trans (Nat.le_of_ble_eq_true rfl) hR.2⟩ rfl (Nat.le_of_ble_eq_true rfl) dX2_blow_75 ?_
      refine q_iinc C 7 [(7, .int (x7 + 1)), (0, .ref (ad (216))), (1, .ref (ad (a1))), (2, .int x2), (3, .int x3), (4, .int x4), (5, .int x5), (6, .int x6)] dX2_blow_78 rfl rfl (by decide) rfl ?_
      refine q_goto (tgt := 51) C dX2_blow_81 (by decide) ?_
      refine q_sub [1, 2, 3, 4, 5, 6, 7, 0] rfl ?_
      exact ih _ _ _ _ _ _ _ hF
set_option maxHeartbeats 4000000 in
set_option maxRecDepth 100000 in
theorem l_X2_blow_31 {p : Program} {l : Launch} {e : Env} {R : Room} {s : State} {m : MethodId} {args : Array Value} {below : List Frame} {meth : Method} {c : Code} {D : va_G} {ad : Nat → Nat} {ca : Nat → ClassId} {kz : Nat → Nat} {Q : State → Prop} (C : pC p s m args c cX2_blow "AskedCamp$Foresight" 8 D ad ca kz) (hR : 6 ≤ R.frames ∧ 152 ≤ R.locals) {n : Nat} {a1 : Nat} (ha1 : pis a1 5) (o : PS) (hx0 : PW p l e R s m args below meth c 8 D ad ca Q (o) 128 [] []) : ∀ (k : Nat) (x2 : Int32) (x3 : Int32) (x4 : Int32) (x5 : Int32) (x6 : Int32) (σ : PS), L_X2_blow_31 n a1 k x2 x3 x4 x5 x6 σ = some o → PW p l e R s m args below meth c 8 D ad ca Q σ 31 [(0, .ref (ad (216))), (1, .ref (ad (a1))), (2, .int x2), (3, .int x3), (4, .int x4), (5, .int x5), (6, .int x6)] [] := by
  intro k
  induction k with
  | zero => intro x2 x3 x4 x5 x6 σ hF; exact nomatch (show (none : Option (PS)) = some o from hF)
  | succ k ih =>
    intro x2 x3 x4 x5 x6 σ hF
    rw [L_X2_blow_31] at hF
    refine q_iload C 6 dX2_blow_31 rfl ?_
    refine q_iload_n C 2 dX2_blow_33 rfl rfl ?_
    refine q_icmp_ge (tgt := 128) C dX2_blow_34 (by decide) (fun c3 => ?_) (fun c3 => ?_)
    · replace hF := ift c3 hF
      cases hF
      refine q_sub [] rfl ?_
      exact hx0
    · replace hF := ife c3 hF
      refine q_aload_n C 0 dX2_blow_37 rfl rfl ?_
      refine qg_2_0 C pi_216 tw_293 dX2_blow_38 ?_
      refine q_aload_n C 1 dX2_blow_41 rfl rfl ?_
      refine qg_5_1 C ha1 tw_231 dX2_blow_42 ?_
      obtain ⟨q4, h5, hF⟩ := bnd hF
      try dsimp only at hF
      refine q_callVv C [.ref (ad (a1 + 7))] (c_X10_copyFrom l D ad ca kz C.2.2.2.2.2.2.1 _ pi_217 (pkS ha1).2.1 _ _ h5) tw_843 gm_X10_copyFrom pi_217.1 (pe_9 pi_217.2) rfl ⟨rfl, rfl⟩ ⟨Nat.le_trans (Nat.le_of_ble_eq_true rfl) hR.1, Nat.le_trans (Nat.le_of_ble_eq_true rfl) hR.2⟩ rfl (Nat.le_of_ble_eq_true rfl) dX2_blow_45 ?_
      refine q_iconst (v := 0) C dX2_blow_48 (by decide) ?_
      refine q_istore C [(7, .int 0), (0, .ref (ad (216))), (1, .ref (ad (a1))), (2, .int x2), (3, .int x3), (4, .int x4), (5, .int x5), (6, .int x6)] dX2_blow_49 (by decide) rfl ?_
      obtain ⟨o6, h7, hF⟩ := bnd hF
      try dsimp only at hF
      refine q_sub [1, 2, 3, 4, 5, 6, 7, 0] rfl ?_
      refine l_X2_blow_51 C ⟨hR.1, hR.2⟩ ha1 o6 ?_ n _ _ _ _ _ _ _ h7
      refine q_aload_n C 0 dX2_blow_84 rfl rfl ?_
      refine q_dup C dX2_blow_85 rfl ?_
      refine qg_2_4 C pi_216 tw_299 dX2_blow_86 ?_
      refine q_aload_n C 0 dX2_blow_89 rfl rfl ?_
      refine qg_2_0 C pi_216 tw_293 dX2_blow_90 ?_
      obtain ⟨q8, h9, hF⟩ := bnd hF
      try dsimp only at hF
      refine q_callVi C [] (c_X10_askedInAll l D ad ca kz C.2.2.2.2.2.2.1 _ pi_217 _ _ h9) tw_911 gm_X10_askedInAll pi_217.1 (pe_9 pi_217.2) rfl ⟨rfl, rfl⟩ ⟨Nat.le_trans (Nat.le_of_ble_eq_true rfl) hR.1, Nat.le_trans (Nat.le_of_ble_eq_true rfl) hR.2⟩ rfl (Nat.le_of_ble_eq_true rfl) dX2_blow_93 ?_
      refine q_iload C 5 dX2_blow_96 rfl ?_
      refine q_isub C dX2_blow_98 ?_
      refine q_iadd C dX2_blow_99 ?_
      refine qs_2_4 C pi_216 tw_299 dX2_blow_100 ?_
      refine q_aload_n C 0 dX2_blow_103 rfl rfl ?_
      refine q_dup C dX2_blow_104 rfl ?_
      refine qg_2_5 C pi_216 tw_301 dX2_blow_105 ?_
      refine q_aload_n C 0 dX2_blow_108 rfl rfl ?_
      refine qg_2_0 C pi_216 tw_293 dX2_blow_109 ?_
      refine qg_9_4 C pi_217 tw_177 dX2_blow_112 ?_
      obtain ⟨q10, h11, hF⟩ := bnd hF
      try dsimp only at hF
      refine q_callSi C [.int ((psI q8.2 216 4 ((o6.2.2.2.2.2.1 216 4) + (q8.1 - o6.2.2.2.1))).1 217 4)] (c_J6_bitCount_0f7a4 l D ad ca kz C.2.2.2.2.2.2.1 _ _ _ _ h11) tw_890 gm_J6_bitCount_0f7a4 ⟨rfl, rfl⟩ ⟨Nat.le_trans (Nat.le_of_ble_eq_true rfl) hR.1, Nat.le_trans (Nat.le_of_ble_eq_true rfl) hR.2⟩ rfl (Nat.le_of_ble_eq_true rfl) dX2_blow_115 ?_
      refine q_iadd C dX2_blow_118 ?_
      refine qs_2_5 C pi_216 tw_301 dX2_blow_119 ?_
      refine q_iinc C 6 [(6, .int (o6.2.2.2.2.1 + 1)), (0, .ref (ad (216))), (1, .ref (ad (a1))), (2, .int o6.1), (3, .int o6.2.1), (4, .int o6.2.2.1), (5, .int o6.2.2.2.1)] dX2_blow_122 rfl rfl (by decide) rfl ?_
      refine q_goto (tgt := 31) C dX2_blow_125 (by decide) ?_
      refine q_sub [1, 2, 3, 4, 5, 6, 0] rfl ?_
      exact ih _ _ _ _ _ _ hF
set_option maxHeartbeats 4000000 in
set_option maxRecDepth 100000 in
theorem c_X2_blow (l : Launch) (D : va_G) (ad : Nat → Nat) (ca : Nat → ClassId) (kz : Nat → Nat) (hJ : pInj ad) (n : Nat) {a1 : Nat} (ha1 : pis a1 5) (a2 : Int32) (a3 : Int32) (a4 : Int32) (σ : PS) (out : PS) (hF : F_X2_blow n a1 a2 a3 a4 σ = some out) : Met l yX2_blow (Cond.code yX2_blow cX2_blow 8 (Option.none : Option Jvm.ClassFile.FieldType) :: gw_tbl) { frames := 6, cells := 0, slots := 0, locals := 152 } (va_Pc [.ref (ad (216)), .ref (ad (a1)), .int a2, .int a3, .int a4] (pU D ad ca kz σ)) (pQv D ad ca out) 0 0 (pAD ad) := by
  refine q_entry (own := "AskedCamp$Foresight") hJ (by decide) rfl (Nat.le_of_ble_eq_true rfl) (fun p e s m below meth c C hr hlk => ?_)
  refine q_lv [(0, .ref (ad (216))), (1, .ref (ad (a1))), (2, .int a2), (3, .int a3), (4, .int a4)] rfl ?_
  rw [F_X2_blow] at hF
  refine q_aload_n C 0 dX2_blow_0 rfl rfl ?_
  refine q_aload_n C 1 dX2_blow_1 rfl rfl ?_
  refine qg_5_6 C ha1 tw_245 dX2_blow_2 ?_
  refine q_i2l C dX2_blow_5 ?_
  refine qs_2_6 C pi_216 tw_303 dX2_blow_6 ?_
  refine q_aload_n C 0 dX2_blow_9 rfl rfl ?_
  refine q_iconst (v := 0) C dX2_blow_10 (by decide) ?_
  refine qs_2_4 C pi_216 tw_299 dX2_blow_11 ?_
  refine q_aload_n C 0 dX2_blow_14 rfl rfl ?_
  refine q_iconst (v := 0) C dX2_blow_15 (by decide) ?_
  refine qs_2_5 C pi_216 tw_301 dX2_blow_16 ?_
  refine q_aload_n C 1 dX2_blow_19 rfl rfl ?_
  refine qg_5_1 C ha1 tw_231 dX2_blow_20 ?_
  obtain ⟨q1, h2, hF⟩ := bnd hF
  try dsimp only at hF
  refine q_callVi C [] (c_X10_askedInAll l D ad ca kz C.2.2.2.2.2.2.1 _ (pkS ha1).2.1 _ _ h2) tw_911 gm_X10_askedInAll (pkS ha1).2.1.1 (pe_9 (pkS ha1).2.1.2) rfl ⟨rfl, rfl⟩ ⟨Nat.le_of_ble_eq_true rfl, Nat.le_of_ble_eq_true rfl⟩ rfl (Nat.le_of_ble_eq_true rfl) dX2_blow_23 ?_
  refine q_istore C [(5, .int q1.1), (0, .ref (ad (216))), (1, .ref (ad (a1))), (2, .int a2), (3, .int a3), (4, .int a4)] dX2_blow_26 (by decide) rfl ?_
  refine q_iconst (v := 0) C dX2_blow_28 (by decide) ?_
  refine q_istore C [(6, .int 0), (5, .int q1.1), (0, .ref (ad (216))), (1, .ref (ad (a1))), (2, .int a2), (3, .int a3), (4, .int a4)] dX2_blow_29 (by decide) rfl ?_
  obtain ⟨o12, h13, hF⟩ := bnd hF
  try dsimp only at hF
  refine q_sub [2, 3, 4, 5, 6, 1, 0] rfl ?_
  refine l_X2_blow_31 C ⟨Nat.le_of_ble_eq_true rfl, Nat.le_of_ble_eq_true rfl⟩ ha1 o12 ?_ n _ _ _ _ _ _ h13
  exact q_vret C hr hlk dX2_blow_128 hF
-- X11_winds
def F_X11_winds (n : Nat) (a1 : Int32) (a2 : Int32) (a3 : Int32) (a4 : Int32) (σ : PS) : Option (Int32 × PS) := (F_X10_isPitched n 25 σ).bind (fun q1 => (if q1.1 = 0 then some ((-1 : Int32), q1.2) else (if a1 < (1 : Int32) then some ((-1 : Int32), q1.2) else (if (10 : Int32) < a1 then some ((-1 : Int32), q1.2) else (if a2 < (1 : Int32) then some ((-1 : Int32), q1.2) else (if a2 ≤ (60 : Int32) then (if a3 < 0 then some ((-1 : Int32), q1.2) else (if (100 : Int32) < a3 then some ((-1 : Int32), q1.2) else (if a4 < 0 then some ((-1 : Int32), q1.2) else (if a4 ≤ (1 : Int32) then (F_X2_blow n 18 a1 a2 a3 q1.2).bind (fun q12 => (if a4 = 0 then some ((q12.1 216 4), q12) else some ((q12.1 216 5), q12))) else some ((-1 : Int32), q1.2))))) else some ((-1 : Int32), q1.2)))))))
theorem gm_X11_winds : gM "AskedCamp" yX11_winds (Cond.code yX11_winds cX11_winds 5 (Option.some Jvm.ClassFile.FieldType.int)) 4 := ⟨by decide +kernel, tw_904, tw_905, tw_1, tw_906⟩
set_option maxHeartbeats 4000000 in
set_option maxRecDepth 100000 in
theorem c_X11_winds (l : Launch) (D : va_G) (ad : Nat → Nat) (ca : Nat → ClassId) (kz : Nat → Nat) (hJ : pInj ad) (n : Nat) (a1 : Int32) (a2 : Int32) (a3 : Int32) (a4 : Int32) (σ : PS) (out : Int32 × PS) (hF : F_X11_winds n a1 a2 a3 a4 σ = some out) : Met l yX11_winds (Cond.code yX11_winds cX11_winds 5 (Option.some Jvm.ClassFile.FieldType.int) :: gw_tbl) { frames := 7, cells := 0, slots := 0, locals := 179 } (va_Pc [.ref (ad (0)), .int a1, .int a2, .int a3, .int a4] (pU D ad ca kz σ)) (pQi D ad ca out) 0 0 (pAD ad) := by
  refine q_entry (own := "AskedCamp") hJ (by decide) rfl (Nat.le_of_ble_eq_true rfl) (fun p e s m below meth c C hr hlk => ?_)
  refine q_lv [(0, .ref (ad (0))), (1, .int a1), (2, .int a2), (3, .int a3), (4, .int a4)] rfl ?_
  rw [F_X11_winds] at hF
  refine q_aload_n C 0 dX11_winds_0 rfl rfl ?_
  refine qg_10_4 C pi_0 tw_384 dX11_winds_1 ?_
  refine qg_5_1 C pi_18 tw_232 dX11_winds_4 ?_
  obtain ⟨q1, h2, hF⟩ := bnd hF
  try dsimp only at hF
  refine q_callVi C [] (c_X10_isPitched l D ad ca kz C.2.2.2.2.2.2.1 _ pi_25 _ _ h2) tw_687 gm_X10_isPitched pi_25.1 (pe_9 pi_25.2) rfl ⟨rfl, rfl⟩ ⟨Nat.le_of_ble_eq_true rfl, Nat.le_of_ble_eq_true rfl⟩ rfl (Nat.le_of_ble_eq_true rfl) dX11_winds_7 ?_
  refine q_if_eq (tgt := 35) C dX11_winds_10 (by decide) (fun c3 => ?_) (fun c3 => ?_)
  · replace hF := ift c3 hF
    refine q_iconst (v := -1) C dX11_winds_35 (by decide) ?_
    exact q_iret C hr hlk dX11_winds_36 hF
  · replace hF := ife c3 hF
    refine q_iload_n C 1 dX11_winds_13 rfl rfl ?_
    refine q_iconst (v := 1) C dX11_winds_14 (by decide) ?_
    refine q_icmp_lt (tgt := 35) C dX11_winds_15 (by decide) (fun c4 => ?_) (fun c4 => ?_)
    · replace hF := ift c4 hF
      refine q_iconst (v := -1) C dX11_winds_35 (by decide) ?_
      exact q_iret C hr hlk dX11_winds_36 hF
    · replace hF := ife c4 hF
      refine q_iload_n C 1 dX11_winds_18 rfl rfl ?_
      refine q_bipush (v := 10) C dX11_winds_19 (by decide) ?_
      refine q_icmp_gt (tgt := 35) C dX11_winds_21 (by decide) (fun c5 => ?_) (fun c5 => ?_)
      · replace hF := ift c5 hF
        refine q_iconst (v := -1) C dX11_winds_35 (by decide) ?_
        exact q_iret C hr hlk dX11_winds_36 hF
      · replace hF := ife c5 hF
        refine q_iload_n C 2 dX11_winds_24 rfl rfl ?_
        refine q_iconst (v := 1) C dX11_winds_25 (by decide) ?_
        refine q_icmp_lt (tgt := 35) C dX11_winds_26 (by decide) (fun c6 => ?_) (fun c6 => ?_)
        · replace hF := ift c6 hF
          refine q_iconst (v := -1) C dX11_winds_35 (by decide) ?_
          exact q_iret C hr hlk dX11_winds_36 hF
        · replace hF := ife c6 hF
          refine q_iload_n C 2 dX11_winds_29 rfl rfl ?_
          refine q_bipush (v := 60) C dX11_winds_30 (by decide) ?_
          refine q_icmp_le (tgt := 37) C dX11_winds_32 (by decide) (fun c7 => ?_) (fun c7 => ?_)
          · replace hF := ift c7 hF
            refine q_iload_n C 3 dX11_winds_37 rfl rfl ?_
            refine q_if_lt (tgt := 58) C dX11_winds_38 (by decide) (fun c8 => ?_) (fun c8 => ?_)
            · replace hF := ift c8 hF
              refine q_iconst (v := -1) C dX11_winds_58 (by decide) ?_
              exact q_iret C hr hlk dX11_winds_59 hF
            · replace hF := ife c8 hF
              refine q_iload_n C 3 dX11_winds_41 rfl rfl ?_
              refine q_bipush (v := 100) C dX11_winds_42 (by decide) ?_
              refine q_icmp_gt (tgt := 58) C dX11_winds_44 (by decide) (fun c9 => ?_) (fun c9 => ?_)
              · replace hF := ift c9 hF
                refine q_iconst (v := -1) C dX11_winds_58 (by decide) ?_
                exact q_iret C hr hlk dX11_winds_59 hF
              · replace hF := ife c9 hF
                refine q_iload C 4 dX11_winds_47 rfl ?_
                refine q_if_lt (tgt := 58) C dX11_winds_49 (by decide) (fun c10 => ?_) (fun c10 => ?_)
                · replace hF := ift c10 hF
                  refine q_iconst (v := -1) C dX11_winds_58 (by decide) ?_
                  exact q_iret C hr hlk dX11_winds_59 hF
                · replace hF := ife c10 hF
                  refine q_iload C 4 dX11_winds_52 rfl ?_
                  refine q_iconst (v := 1) C dX11_winds_54 (by decide) ?_
                  refine q_icmp_le (tgt := 60) C dX11_winds_55 (by decide) (fun c11 => ?_) (fun c11 => ?_)
                  · replace hF := ift c11 hF
                    refine q_aload_n C 0 dX11_winds_60 rfl rfl ?_
                    refine qg_10_7 C pi_0 tw_387 dX11_winds_61 ?_
                    refine q_aload_n C 0 dX11_winds_64 rfl rfl ?_
                    refine qg_10_4 C pi_0 tw_384 dX11_winds_65 ?_
                    refine q_iload_n C 1 dX11_winds_68 rfl rfl ?_
                    refine q_iload_n C 2 dX11_winds_69 rfl rfl ?_
                    refine q_iload_n C 3 dX11_winds_70 rfl rfl ?_
                    obtain ⟨q12, h13, hF⟩ := bnd hF
                    try dsimp only at hF
                    refine q_callVv C [.ref (ad (18)), .int a1, .int a2, .int a3] (c_X2_blow l D ad ca kz C.2.2.2.2.2.2.1 _ pi_18 _ _ _ _ _ h13) tw_907 gm_X2_blow pi_216.1 (pe_2 pi_216.2) rfl ⟨rfl, rfl⟩ ⟨Nat.le_of_ble_eq_true rfl, Nat.le_of_ble_eq_true rfl⟩ rfl (Nat.le_of_ble_eq_true rfl) dX11_winds_71 ?_
                    refine q_iload C 4 dX11_winds_74 rfl ?_
                    refine q_if_ne (tgt := 89) C dX11_winds_76 (by decide) (fun c14 => ?_) (fun c14 => ?_)
                    · replace hF := ife c14 hF
                      refine q_aload_n C 0 dX11_winds_89 rfl rfl ?_
                      refine qg_10_7 C pi_0 tw_387 dX11_winds_90 ?_
                      refine qg_2_5 C pi_216 tw_302 dX11_winds_93 ?_
                      exact q_iret C hr hlk dX11_winds_96 hF
                    · replace hF := ift c14 hF
                      refine q_aload_n C 0 dX11_winds_79 rfl rfl ?_
                      refine qg_10_7 C pi_0 tw_387 dX11_winds_80 ?_
                      refine qg_2_4 C pi_216 tw_300 dX11_winds_83 ?_
                      refine q_goto (tgt := 96) C dX11_winds_86 (by decide) ?_
                      exact q_iret C hr hlk dX11_winds_96 hF
                  · replace hF := ife c11 hF
                    refine q_iconst (v := -1) C dX11_winds_58 (by decide) ?_
                    exact q_iret C hr hlk dX11_winds_59 hF
          · replace hF := ife c7 hF
            refine q_iconst (v := -1) C dX11_winds_35 (by decide) ?_
            exact q_iret C hr hlk dX11_winds_36 hF
