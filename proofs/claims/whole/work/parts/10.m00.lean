-- J13_bitCount_95d88
def F_J13_bitCount_95d88 (n : Nat) (a0 : Int64) (σ : PS) : Option (Int32 × PS) := some (((((((((((a0 - (((a0.toUInt64 >>> ((1 : Int32).toInt64.toUInt64 &&& Int64.toUInt64 63)).toInt64) &&& (6148914691236517205 : Int64))) &&& (3689348814741910323 : Int64)) + ((((a0 - (((a0.toUInt64 >>> ((1 : Int32).toInt64.toUInt64 &&& Int64.toUInt64 63)).toInt64) &&& (6148914691236517205 : Int64))).toUInt64 >>> ((2 : Int32).toInt64.toUInt64 &&& Int64.toUInt64 63)).toInt64) &&& (3689348814741910323 : Int64))) + (((((a0 - (((a0.toUInt64 >>> ((1 : Int32).toInt64.toUInt64 &&& Int64.toUInt64 63)).toInt64) &&& (6148914691236517205 : Int64))) &&& (3689348814741910323 : Int64)) + ((((a0 - (((a0.toUInt64 >>> ((1 : Int32).toInt64.toUInt64 &&& Int64.toUInt64 63)).toInt64) &&& (6148914691236517205 : Int64))).toUInt64 >>> ((2 : Int32).toInt64.toUInt64 &&& Int64.toUInt64 63)).toInt64) &&& (3689348814741910323 : Int64))).toUInt64 >>> ((4 : Int32).toInt64.toUInt64 &&& Int64.toUInt64 63)).toInt64)) &&& (1085102592571150095 : Int64)) + (((((((a0 - (((a0.toUInt64 >>> ((1 : Int32).toInt64.toUInt64 &&& Int64.toUInt64 63)).toInt64) &&& (6148914691236517205 : Int64))) &&& (3689348814741910323 : Int64)) + ((((a0 - (((a0.toUInt64 >>> ((1 : Int32).toInt64.toUInt64 &&& Int64.toUInt64 63)).toInt64) &&& (6148914691236517205 : Int64))).toUInt64 >>> ((2 : Int32).toInt64.toUInt64 &&& Int64.toUInt64 63)).toInt64) &&& (3689348814741910323 : Int64))) + (((((a0 - (((a0.toUInt64 >>> ((1 : Int32).toInt64.toUInt64 &&& Int64.toUInt64 63)).toInt64) &&& (6148914691236517205 : Int64))) &&& (3689348814741910323 : Int64)) + ((((a0 - (((a0.toUInt64 >>> ((1 : Int32).toInt64.toUInt64 &&& Int64.toUInt64 63)).toInt64) &&& (6148914691236517205 : Int64))).toUInt64 >>> ((2 : Int32).toInt64.toUInt64 &&& Int64.toUInt64 63)).toInt64) &&& (3689348814741910323 : Int64))).toUInt64 >>> ((4 : Int32).toInt64.toUInt64 &&& Int64.toUInt64 63)).toInt64)) &&& (1085102592571150095 : Int64)).toUInt64 >>> ((8 : Int32).toInt64.toUInt64 &&& Int64.toUInt64 63)).toInt64)) + ((((((((a0 - (((a0.toUInt64 >>> ((1 : Int32).toInt64.toUInt64 &&& Int64.toUInt64 63)).toInt64) &&& (6148914691236517205 : Int64))) &&& (3689348814741910323 : Int64)) + ((((a0 - (((a0.toUInt64 >>> ((1 : Int32).toInt64.toUInt64 &&& Int64.toUInt64 63)).toInt64) &&& (6148914691236517205 : Int64))).toUInt64 >>> ((2 : Int32).toInt64.toUInt64 &&& Int64.toUInt64 63)).toInt64) &&& (3689348814741910323 : Int64))) + (((((a0 - (((a0.toUInt64 >>> ((1 : Int32).toInt64.toUInt64 &&& Int64.toUInt64 63)).toInt64) &&& (6148914691236517205 : Int64))) &&& (3689348814741910323 : Int64)) + ((((a0 - (((a0.toUInt64 >>> ((1 : Int32).toInt64.toUInt64 &&& Int64.toUInt64 63)).toInt64) &&& (6148914691236517205 : Int64))).toUInt64 >>> ((2 : Int32).toInt64.toUInt64 &&& Int64.toUInt64 63)).toInt64) &&& (3689348814741910323 : Int64))).toUInt64 >>> ((4 : Int32).toInt64.toUInt64 &&& Int64.toUInt64 63)).toInt64)) &&& (1085102592571150095 : Int64)) + (((((((a0 - (((a0.toUInt64 >>> ((1 : Int32).toInt64.toUInt64 &&& Int64.toUInt64 63)).toInt64) &&& (6148914691236517205 : Int64))) &&& (3689348814741910323 : Int64)) + ((((a0 - (((a0.toUInt64 >>> ((1 : Int32).toInt64.toUInt64 &&& Int64.toUInt64 63)).toInt64) &&& (6148914691236517205 : Int64))).toUInt64 >>> ((2 : Int32).toInt64.toUInt64 &&& Int64.toUInt64 63)).toInt64) &&& (3689348814741910323 : Int64))) + (((((a0 - (((a0.toUInt64 >>> ((1 : Int32).toInt64.toUInt64 &&& Int64.toUInt64 63)).toInt64) &&& (6148914691236517205 : Int64))) &&& (3689348814741910323 : Int64)) + ((((a0 - (((a0.toUInt64 >>> ((1 : Int32).toInt64.toUInt64 &&& Int64.toUInt64 63)).toInt64) &&& (6148914691236517205 : Int64))).toUInt64 >>> ((2 : Int32).toInt64.toUInt64 &&& Int64.toUInt64 63)).toInt64) &&& (3689348814741910323 : Int64))).toUInt64 >>> ((4 : Int32).toInt64.toUInt64 &&& Int64.toUInt64 63)).toInt64)) &&& (1085102592571150095 : Int64)).toUInt64 >>> ((8 : Int32).toInt64.toUInt64 &&& Int64.toUInt64 63)).toInt64)).toUInt64 >>> ((16 : Int32).toInt64.toUInt64 &&& Int64.toUInt64 63)).toInt64)) + (((((((((a0 - (((a0.toUInt64 >>> ((1 : Int32).toInt64.toUInt64 &&& Int64.toUInt64 63)).toInt64) &&& (6148914691236517205 : Int64))) &&& (3689348814741910323 : Int64)) + ((((a0 - (((a0.toUInt64 >>> ((1 : Int32).toInt64.toUInt64 &&& Int64.toUInt64 63)).toInt64) &&& (6148914691236517205 : Int64))).toUInt64 >>> ((2 : Int32).toInt64.toUInt64 &&& Int64.toUInt64 63)).toInt64) &&& (3689348814741910323 : Int64))) + (((((a0 - (((a0.toUInt64 >>> ((1 : Int32).toInt64.toUInt64 &&& Int64.toUInt64 63)).toInt64) &&& (6148914691236517205 : Int64))) &&& (3689348814741910323 : Int64)) + ((((a0 - (((a0.toUInt64 >>> ((1 : Int32).toInt64.toUInt64 &&& Int64.toUInt64 63)).toInt64) &&& (6148914691236517205 : Int64))).toUInt64 >>> ((2 : Int32).toInt64.toUInt64 &&& Int64.toUInt64 63)).toInt64) &&& (3689348814741910323 : Int64))).toUInt64 >>> ((4 : Int32).toInt64.toUInt64 &&& Int64.toUInt64 63)).toInt64)) &&& (1085102592571150095 : Int64)) + (((((((a0 - (((a0.toUInt64 >>> ((1 : Int32).toInt64.toUInt64 &&& Int64.toUInt64 63)).toInt64) &&& (6148914691236517205 : Int64))) &&& (3689348814741910323 : Int64)) + ((((a0 - (((a0.toUInt64 >>> ((1 : Int32).toInt64.toUInt64 &&& Int64.toUInt64 63)).toInt64) &&& (6148914691236517205 : Int64))).toUInt64 >>> ((2 : Int32).toInt64.toUInt64 &&& Int64.toUInt64 63)).toInt64) &&& (3689348814741910323 : Int64))) + (((((a0 - (((a0.toUInt64 >>> ((1 : Int32).toInt64.toUInt64 &&& Int64.toUInt64 63)).toInt64) &&& (6148914691236517205 : Int64))) &&& (3689348814741910323 : Int64)) + ((((a0 - (((a0.toUInt64 >>> ((1 : Int32).toInt64.toUInt64 &&& Int64.toUInt64 63)).toInt64) &&& (6148914691236517205 : Int64))).toUInt64 >>> ((2 : Int32).toInt64.toUInt64 &&& Int64.toUInt64 63)).toInt64) &&& (3689348814741910323 : Int64))).toUInt64 >>> ((4 : Int32).toInt64.toUInt64 &&& Int64.toUInt64 63)).toInt64)) &&& (1085102592571150095 : Int64)).toUInt64 >>> ((8 : Int32).toInt64.toUInt64 &&& Int64.toUInt64 63)).toInt64)) + ((((((((a0 - (((a0.toUInt64 >>> ((1 : Int32).toInt64.toUInt64 &&& Int64.toUInt64 63)).toInt64) &&& (6148914691236517205 : Int64))) &&& (3689348814741910323 : Int64)) + ((((a0 - (((a0.toUInt64 >>> ((1 : Int32).toInt64.toUInt64 &&& Int64.toUInt64 63)).toInt64) &&& (6148914691236517205 : Int64))).toUInt64 >>> ((2 : Int32).toInt64.toUInt64 &&& Int64.toUInt64 63)).toInt64) &&& (3689348814741910323 : Int64))) + (((((a0 - (((a0.toUInt64 >>> ((1 : Int32).toInt64.toUInt64 &&& Int64.toUInt64 63)).toInt64) &&& (6148914691236517205 : Int64))) &&& (3689348814741910323 : Int64)) + ((((a0 - (((a0.toUInt64 >>> ((1 : Int32).toInt64.toUInt64 &&& Int64.toUInt64 63)).toInt64) &&& (6148914691236517205 : Int64))).toUInt64 >>> ((2 : Int32).toInt64.toUInt64 &&& Int64.toUInt64 63)).toInt64) &&& (3689348814741910323 : Int64))).toUInt64 >>> ((4 : Int32).toInt64.toUInt64 &&& Int64.toUInt64 63)).toInt64)) &&& (1085102592571150095 : Int64)) + (((((((a0 - (((a0.toUInt64 >>> ((1 : Int32).toInt64.toUInt64 &&& Int64.toUInt64 63)).toInt64) &&& (6148914691236517205 : Int64))) &&& (3689348814741910323 : Int64)) + ((((a0 - (((a0.toUInt64 >>> ((1 : Int32).toInt64.toUInt64 &&& Int64.toUInt64 63)).toInt64) &&& (6148914691236517205 : Int64))).toUInt64 >>> ((2 : Int32).toInt64.toUInt64 &&& Int64.toUInt64 63)).toInt64) &&& (3689348814741910323 : Int64))) + (((((a0 - (((a0.toUInt64 >>> ((1 : Int32).toInt64.toUInt64 &&& Int64.toUInt64 63)).toInt64) &&& (6148914691236517205 : Int64))) &&& (3689348814741910323 : Int64)) + ((((a0 - (((a0.toUInt64 >>> ((1 : Int32).toInt64.toUInt64 &&& Int64.toUInt64 63)).toInt64) &&& (6148914691236517205 : Int64))).toUInt64 >>> ((2 : Int32).toInt64.toUInt64 &&& Int64.toUInt64 63)).toInt64) &&& (3689348814741910323 : Int64))).toUInt64 >>> ((4 : Int32).toInt64.toUInt64 &&& Int64.toUInt64 63)).toInt64)) &&& (1085102592571150095 : Int64)).toUInt64 >>> ((8 : Int32).toInt64.toUInt64 &&& Int64.toUInt64 63)).toInt64)).toUInt64 >>> ((16 : Int32).toInt64.toUInt64 &&& Int64.toUInt64 63)).toInt64)).toUInt64 >>> ((32 : Int32).toInt64.toUInt64 &&& Int64.toUInt64 63)).toInt64)).toInt32) &&& (127 : Int32)), σ)
theorem gm_J13_bitCount_95d88 : gS yJ13_bitCount_95d88 (Cond.code yJ13_bitCount_95d88 cJ13_bitCount_95d88 2 (Option.some Jvm.ClassFile.FieldType.int)) 1 := ⟨by decide +kernel, tw_700, tw_21, tw_701⟩
set_option maxHeartbeats 4000000 in
set_option maxRecDepth 100000 in
theorem c_J13_bitCount_95d88 (l : Launch) (D : va_G) (ad : Nat → Nat) (ca : Nat → ClassId) (kz : Nat → Nat) (hJ : pInj ad) (n : Nat) (a0 : Int64) (σ : PS) (out : Int32 × PS) (hF : F_J13_bitCount_95d88 n a0 σ = some out) : Met l yJ13_bitCount_95d88 (Cond.code yJ13_bitCount_95d88 cJ13_bitCount_95d88 2 (Option.some Jvm.ClassFile.FieldType.int) :: gw_tbl) { frames := 0, cells := 0, slots := 0, locals := 0 } (va_Pc [.long a0] (pU D ad ca kz σ)) (pQi D ad ca out) 0 0 (pAD ad) := by
  refine q_entry (own := "java/lang/Long") hJ (by decide) rfl (Nat.le_of_ble_eq_true rfl) (fun p e s m below meth c C hr hlk => ?_)
  refine q_lv [(0, .long a0)] rfl ?_
  rw [F_J13_bitCount_95d88] at hF
  refine q_lload_n C 0 dJ13_bitCount_95d88_0 rfl rfl ?_
  refine q_lload_n C 0 dJ13_bitCount_95d88_1 rfl rfl ?_
  refine q_iconst (v := 1) C dJ13_bitCount_95d88_2 (by decide) ?_
  refine q_lushr C dJ13_bitCount_95d88_3 ?_
  refine q_ldc2 C dJ13_bitCount_95d88_4 tw_702 ?_
  refine q_land C dJ13_bitCount_95d88_7 ?_
  refine q_lsub C dJ13_bitCount_95d88_8 ?_
  refine q_lstore_n C [(0, .long (a0 - (((a0.toUInt64 >>> ((1 : Int32).toInt64.toUInt64 &&& Int64.toUInt64 63)).toInt64) &&& (6148914691236517205 : Int64))))] dJ13_bitCount_95d88_9 rfl (by decide) rfl ?_
  refine q_lload_n C 0 dJ13_bitCount_95d88_10 rfl rfl ?_
  refine q_ldc2 C dJ13_bitCount_95d88_11 tw_703 ?_
  refine q_land C dJ13_bitCount_95d88_14 ?_
  refine q_lload_n C 0 dJ13_bitCount_95d88_15 rfl rfl ?_
  refine q_iconst (v := 2) C dJ13_bitCount_95d88_16 (by decide) ?_
  refine q_lushr C dJ13_bitCount_95d88_17 ?_
  refine q_ldc2 C dJ13_bitCount_95d88_18 tw_703 ?_
  refine q_land C dJ13_bitCount_95d88_21 ?_
  refine q_ladd C dJ13_bitCount_95d88_22 ?_
  refine q_lstore_n C [(0, .long (((a0 - (((a0.toUInt64 >>> ((1 : Int32).toInt64.toUInt64 &&& Int64.toUInt64 63)).toInt64) &&& (6148914691236517205 : Int64))) &&& (3689348814741910323 : Int64)) + ((((a0 - (((a0.toUInt64 >>> ((1 : Int32).toInt64.toUInt64 &&& Int64.toUInt64 63)).toInt64) &&& (6148914691236517205 : Int64))).toUInt64 >>> ((2 : Int32).toInt64.toUInt64 &&& Int64.toUInt64 63)).toInt64) &&& (3689348814741910323 : Int64))))] dJ13_bitCount_95d88_23 rfl (by decide) rfl ?_
  refine q_lload_n C 0 dJ13_bitCount_95d88_24 rfl rfl ?_
  refine q_lload_n C 0 dJ13_bitCount_95d88_25 rfl rfl ?_
  refine q_iconst (v := 4) C dJ13_bitCount_95d88_26 (by decide) ?_
  refine q_lushr C dJ13_bitCount_95d88_27 ?_
  refine q_ladd C dJ13_bitCount_95d88_28 ?_
  refine q_ldc2 C dJ13_bitCount_95d88_29 tw_704 ?_
  refine q_land C dJ13_bitCount_95d88_32 ?_
  refine q_lstore_n C [(0, .long (((((a0 - (((a0.toUInt64 >>> ((1 : Int32).toInt64.toUInt64 &&& Int64.toUInt64 63)).toInt64) &&& (6148914691236517205 : Int64))) &&& (3689348814741910323 : Int64)) + ((((a0 - (((a0.toUInt64 >>> ((1 : Int32).toInt64.toUInt64 &&& Int64.toUInt64 63)).toInt64) &&& (6148914691236517205 : Int64))).toUInt64 >>> ((2 : Int32).toInt64.toUInt64 &&& Int64.toUInt64 63)).toInt64) &&& (3689348814741910323 : Int64))) + (((((a0 - (((a0.toUInt64 >>> ((1 : Int32).toInt64.toUInt64 &&& Int64.toUInt64 63)).toInt64) &&& (6148914691236517205 : Int64))) &&& (3689348814741910323 : Int64)) + ((((a0 - (((a0.toUInt64 >>> ((1 : Int32).toInt64.toUInt64 &&& Int64.toUInt64 63)).toInt64) &&& (6148914691236517205 : Int64))).toUInt64 >>> ((2 : Int32).toInt64.toUInt64 &&& Int64.toUInt64 63)).toInt64) &&& (3689348814741910323 : Int64))).toUInt64 >>> ((4 : Int32).toInt64.toUInt64 &&& Int64.toUInt64 63)).toInt64)) &&& (1085102592571150095 : Int64)))] dJ13_bitCount_95d88_33 rfl (by decide) rfl ?_
  refine q_lload_n C 0 dJ13_bitCount_95d88_34 rfl rfl ?_
  refine q_lload_n C 0 dJ13_bitCount_95d88_35 rfl rfl ?_
  refine q_bipush (v := 8) C dJ13_bitCount_95d88_36 (by decide) ?_
  refine q_lushr C dJ13_bitCount_95d88_38 ?_
  refine q_ladd C dJ13_bitCount_95d88_39 ?_
  refine q_lstore_n C [(0, .long ((((((a0 - (((a0.toUInt64 >>> ((1 : Int32).toInt64.toUInt64 &&& Int64.toUInt64 63)).toInt64) &&& (6148914691236517205 : Int64))) &&& (3689348814741910323 : Int64)) + ((((a0 - (((a0.toUInt64 >>> ((1 : Int32).toInt64.toUInt64 &&& Int64.toUInt64 63)).toInt64) &&& (6148914691236517205 : Int64))).toUInt64 >>> ((2 : Int32).toInt64.toUInt64 &&& Int64.toUInt64 63)).toInt64) &&& (3689348814741910323 : Int64))) + (((((a0 - (((a0.toUInt64 >>> ((1 : Int32).toInt64.toUInt64 &&& Int64.toUInt64 63)).toInt64) &&& (6148914691236517205 : Int64))) &&& (3689348814741910323 : Int64)) + ((((a0 - (((a0.toUInt64 >>> ((1 : Int32).toInt64.toUInt64 &&& Int64.toUInt64 63)).toInt64) &&& (6148914691236517205 : Int64))).toUInt64 >>> ((2 : Int32).toInt64.toUInt64 &&& Int64.toUInt64 63)).toInt64) &&& (3689348814741910323 : Int64))).toUInt64 >>> ((4 : Int32).toInt64.toUInt64 &&& Int64.toUInt64 63)).toInt64)) &&& (1085102592571150095 : Int64)) + (((((((a0 - (((a0.toUInt64 >>> ((1 : Int32).toInt64.toUInt64 &&& Int64.toUInt64 63)).toInt64) &&& (6148914691236517205 : Int64))) &&& (3689348814741910323 : Int64)) + ((((a0 - (((a0.toUInt64 >>> ((1 : Int32).toInt64.toUInt64 &&& Int64.toUInt64 63)).toInt64) &&& (6148914691236517205 : Int64))).toUInt64 >>> ((2 : Int32).toInt64.toUInt64 &&& Int64.toUInt64 63)).toInt64) &&& (3689348814741910323 : Int64))) + (((((a0 - (((a0.toUInt64 >>> ((1 : Int32).toInt64.toUInt64 &&& Int64.toUInt64 63)).toInt64) &&& (6148914691236517205 : Int64))) &&& (3689348814741910323 : Int64)) + ((((a0 - (((a0.toUInt64 >>> ((1 : Int32).toInt64.toUInt64 &&& Int64.toUInt64 63)).toInt64) &&& (6148914691236517205 : Int64))).toUInt64 >>> ((2 : Int32).toInt64.toUInt64 &&& Int64.toUInt64 63)).toInt64) &&& (3689348814741910323 : Int64))).toUInt64 >>> ((4 : Int32).toInt64.toUInt64 &&& Int64.toUInt64 63)).toInt64)) &&& (1085102592571150095 : Int64)).toUInt64 >>> ((8 : Int32).toInt64.toUInt64 &&& Int64.toUInt64 63)).toInt64)))] dJ13_bitCount_95d88_40 rfl (by decide) rfl ?_
  refine q_lload_n C 0 dJ13_bitCount_95d88_41 rfl rfl ?_
  refine q_lload_n C 0 dJ13_bitCount_95d88_42 rfl rfl ?_
  refine q_bipush (v := 16) C dJ13_bitCount_95d88_43 (by decide) ?_
  refine q_lushr C dJ13_bitCount_95d88_45 ?_
  refine q_ladd C dJ13_bitCount_95d88_46 ?_
  refine q_lstore_n C [(0, .long (((((((a0 - (((a0.toUInt64 >>> ((1 : Int32).toInt64.toUInt64 &&& Int64.toUInt64 63)).toInt64) &&& (6148914691236517205 : Int64))) &&& (3689348814741910323 : Int64)) + ((((a0 - (((a0.toUInt64 >>> ((1 : Int32).toInt64.toUInt64 &&& Int64.toUInt64 63)).toInt64) &&& (6148914691236517205 : Int64))).toUInt64 >>> ((2 : Int32).toInt64.toUInt64 &&& Int64.toUInt64 63)).toInt64) &&& (3689348814741910323 : Int64))) + (((((a0 - (((a0.toUInt64 >>> ((1 : Int32).toInt64.toUInt64 &&& Int64.toUInt64 63)).toInt64) &&& (6148914691236517205 : Int64))) &&& (3689348814741910323 : Int64)) + ((((a0 - (((a0.toUInt64 >>> ((1 : Int32).toInt64.toUInt64 &&& Int64.toUInt64 63)).toInt64) &&& (6148914691236517205 : Int64))).toUInt64 >>> ((2 : Int32).toInt64.toUInt64 &&& Int64.toUInt64 63)).toInt64) &&& (3689348814741910323 : Int64))).toUInt64 >>> ((4 : Int32).toInt64.toUInt64 &&& Int64.toUInt64 63)).toInt64)) &&& (1085102592571150095 : Int64)) + (((((((a0 - (((a0.toUInt64 >>> ((1 : Int32).toInt64.toUInt64 &&& Int64.toUInt64 63)).toInt64) &&& (6148914691236517205 : Int64))) &&& (3689348814741910323 : Int64)) + ((((a0 - (((a0.toUInt64 >>> ((1 : Int32).toInt64.toUInt64 &&& Int64.toUInt64 63)).toInt64) &&& (6148914691236517205 : Int64))).toUInt64 >>> ((2 : Int32).toInt64.toUInt64 &&& Int64.toUInt64 63)).toInt64) &&& (3689348814741910323 : Int64))) + (((((a0 - (((a0.toUInt64 >>> ((1 : Int32).toInt64.toUInt64 &&& Int64.toUInt64 63)).toInt64) &&& (6148914691236517205 : Int64))) &&& (3689348814741910323 : Int64)) + ((((a0 - (((a0.toUInt64 >>> ((1 : Int32).toInt64.toUInt64 &&& Int64.toUInt64 63)).toInt64) &&& (6148914691236517205 : Int64))).toUInt64 >>> ((2 : Int32).toInt64.toUInt64 &&& Int64.toUInt64 63)).toInt64) &&& (3689348814741910323 : Int64))).toUInt64 >>> ((4 : Int32).toInt64.toUInt64 &&& Int64.toUInt64 63)).toInt64)) &&& (1085102592571150095 : Int64)).toUInt64 >>> ((8 : Int32).toInt64.toUInt64 &&& Int64.toUInt64 63)).toInt64)) + ((((((((a0 - (((a0.toUInt64 >>> ((1 : Int32).toInt64.toUInt64 &&& Int64.toUInt64 63)).toInt64) &&& (6148914691236517205 : Int64))) &&& (3689348814741910323 : Int64)) + ((((a0 - (((a0.toUInt64 >>> ((1 : Int32).toInt64.toUInt64 &&& Int64.toUInt64 63)).toInt64) &&& (6148914691236517205 : Int64))).toUInt64 >>> ((2 : Int32).toInt64.toUInt64 &&& Int64.toUInt64 63)).toInt64) &&& (3689348814741910323 : Int64))) + (((((a0 - (((a0.toUInt64 >>> ((1 : Int32).toInt64.toUInt64 &&& Int64.toUInt64 63)).toInt64) &&& (6148914691236517205 : Int64))) &&& (3689348814741910323 : Int64)) + ((((a0 - (((a0.toUInt64 >>> ((1 : Int32).toInt64.toUInt64 &&& Int64.toUInt64 63)).toInt64) &&& (6148914691236517205 : Int64))).toUInt64 >>> ((2 : Int32).toInt64.toUInt64 &&& Int64.toUInt64 63)).toInt64) &&& (3689348814741910323 : Int64))).toUInt64 >>> ((4 : Int32).toInt64.toUInt64 &&& Int64.toUInt64 63)).toInt64)) &&& (1085102592571150095 : Int64)) + (((((((a0 - (((a0.toUInt64 >>> ((1 : Int32).toInt64.toUInt64 &&& Int64.toUInt64 63)).toInt64) &&& (6148914691236517205 : Int64))) &&& (3689348814741910323 : Int64)) + ((((a0 - (((a0.toUInt64 >>> ((1 : Int32).toInt64.toUInt64 &&& Int64.toUInt64 63)).toInt64) &&& (6148914691236517205 : Int64))).toUInt64 >>> ((2 : Int32).toInt64.toUInt64 &&& Int64.toUInt64 63)).toInt64) &&& (3689348814741910323 : Int64))) + (((((a0 - (((a0.toUInt64 >>> ((1 : Int32).toInt64.toUInt64 &&& Int64.toUInt64 63)).toInt64) &&& (6148914691236517205 : Int64))) &&& (3689348814741910323 : Int64)) + ((((a0 - (((a0.toUInt64 >>> ((1 : Int32).toInt64.toUInt64 &&& Int64.toUInt64 63)).toInt64) &&& (6148914691236517205 : Int64))).toUInt64 >>> ((2 : Int32).toInt64.toUInt64 &&& Int64.toUInt64 63)).toInt64) &&& (3689348814741910323 : Int64))).toUInt64 >>> ((4 : Int32).toInt64.toUInt64 &&& Int64.toUInt64 63)).toInt64)) &&& (1085102592571150095 : Int64)).toUInt64 >>> ((8 : Int32).toInt64.toUInt64 &&& Int64.toUInt64 63)).toInt64)).toUInt64 >>> ((16 : Int32).toInt64.toUInt64 &&& Int64.toUInt64 63)).toInt64)))] dJ13_bitCount_95d88_47 rfl (by decide) rfl ?_
  refine q_lload_n C 0 dJ13_bitCount_95d88_48 rfl rfl ?_
  refine q_lload_n C 0 dJ13_bitCount_95d88_49 rfl rfl ?_
  refine q_bipush (v := 32) C dJ13_bitCount_95d88_50 (by decide) ?_
  refine q_lushr C dJ13_bitCount_95d88_52 ?_
  refine q_ladd C dJ13_bitCount_95d88_53 ?_
  refine q_lstore_n C [(0, .long ((((((((a0 - (((a0.toUInt64 >>> ((1 : Int32).toInt64.toUInt64 &&& Int64.toUInt64 63)).toInt64) &&& (6148914691236517205 : Int64))) &&& (3689348814741910323 : Int64)) + ((((a0 - (((a0.toUInt64 >>> ((1 : Int32).toInt64.toUInt64 &&& Int64.toUInt64 63)).toInt64) &&& (6148914691236517205 : Int64))).toUInt64 >>> ((2 : Int32).toInt64.toUInt64 &&& Int64.toUInt64 63)).toInt64) &&& (3689348814741910323 : Int64))) + (((((a0 - (((a0.toUInt64 >>> ((1 : Int32).toInt64.toUInt64 &&& Int64.toUInt64 63)).toInt64) &&& (6148914691236517205 : Int64))) &&& (3689348814741910323 : Int64)) + ((((a0 - (((a0.toUInt64 >>> ((1 : Int32).toInt64.toUInt64 &&& Int64.toUInt64 63)).toInt64) &&& (6148914691236517205 : Int64))).toUInt64 >>> ((2 : Int32).toInt64.toUInt64 &&& Int64.toUInt64 63)).toInt64) &&& (3689348814741910323 : Int64))).toUInt64 >>> ((4 : Int32).toInt64.toUInt64 &&& Int64.toUInt64 63)).toInt64)) &&& (1085102592571150095 : Int64)) + (((((((a0 - (((a0.toUInt64 >>> ((1 : Int32).toInt64.toUInt64 &&& Int64.toUInt64 63)).toInt64) &&& (6148914691236517205 : Int64))) &&& (3689348814741910323 : Int64)) + ((((a0 - (((a0.toUInt64 >>> ((1 : Int32).toInt64.toUInt64 &&& Int64.toUInt64 63)).toInt64) &&& (6148914691236517205 : Int64))).toUInt64 >>> ((2 : Int32).toInt64.toUInt64 &&& Int64.toUInt64 63)).toInt64) &&& (3689348814741910323 : Int64))) + (((((a0 - (((a0.toUInt64 >>> ((1 : Int32).toInt64.toUInt64 &&& Int64.toUInt64 63)).toInt64) &&& (6148914691236517205 : Int64))) &&& (3689348814741910323 : Int64)) + ((((a0 - (((a0.toUInt64 >>> ((1 : Int32).toInt64.toUInt64 &&& Int64.toUInt64 63)).toInt64) &&& (6148914691236517205 : Int64))).toUInt64 >>> ((2 : Int32).toInt64.toUInt64 &&& Int64.toUInt64 63)).toInt64) &&& (3689348814741910323 : Int64))).toUInt64 >>> ((4 : Int32).toInt64.toUInt64 &&& Int64.toUInt64 63)).toInt64)) &&& (1085102592571150095 : Int64)).toUInt64 >>> ((8 : Int32).toInt64.toUInt64 &&& Int64.toUInt64 63)).toInt64)) + ((((((((a0 - (((a0.toUInt64 >>> ((1 : Int32).toInt64.toUInt64 &&& Int64.toUInt64 63)).toInt64) &&& (6148914691236517205 : Int64))) &&& (3689348814741910323 : Int64)) + ((((a0 - (((a0.toUInt64 >>> ((1 : Int32).toInt64.toUInt64 &&& Int64.toUInt64 63)).toInt64) &&& (6148914691236517205 : Int64))).toUInt64 >>> ((2 : Int32).toInt64.toUInt64 &&& Int64.toUInt64 63)).toInt64) &&& (3689348814741910323 : Int64))) + (((((a0 - (((a0.toUInt64 >>> ((1 : Int32).toInt64.toUInt64 &&& Int64.toUInt64 63)).toInt64) &&& (6148914691236517205 : Int64))) &&& (3689348814741910323 : Int64)) + ((((a0 - (((a0.toUInt64 >>> ((1 : Int32).toInt64.toUInt64 &&& Int64.toUInt64 63)).toInt64) &&& (6148914691236517205 : Int64))).toUInt64 >>> ((2 : Int32).toInt64.toUInt64 &&& Int64.toUInt64 63)).toInt64) &&& (3689348814741910323 : Int64))).toUInt64 >>> ((4 : Int32).toInt64.toUInt64 &&& Int64.toUInt64 63)).toInt64)) &&& (1085102592571150095 : Int64)) + (((((((a0 - (((a0.toUInt64 >>> ((1 : Int32).toInt64.toUInt64 &&& Int64.toUInt64 63)).toInt64) &&& (6148914691236517205 : Int64))) &&& (3689348814741910323 : Int64)) + ((((a0 - (((a0.toUInt64 >>> ((1 : Int32).toInt64.toUInt64 &&& Int64.toUInt64 63)).toInt64) &&& (6148914691236517205 : Int64))).toUInt64 >>> ((2 : Int32).toInt64.toUInt64 &&& Int64.toUInt64 63)).toInt64) &&& (3689348814741910323 : Int64))) + (((((a0 - (((a0.toUInt64 >>> ((1 : Int32).toInt64.toUInt64 &&& Int64.toUInt64 63)).toInt64) &&& (6148914691236517205 : Int64))) &&& (3689348814741910323 : Int64)) + ((((a0 - (((a0.toUInt64 >>> ((1 : Int32).toInt64.toUInt64 &&& Int64.toUInt64 63)).toInt64) &&& (6148914691236517205 : Int64))).toUInt64 >>> ((2 : Int32).toInt64.toUInt64 &&& Int64.toUInt64 63)).toInt64) &&& (3689348814741910323 : Int64))).toUInt64 >>> ((4 : Int32).toInt64.toUInt64 &&& Int64.toUInt64 63)).toInt64)) &&& (1085102592571150095 : Int64)).toUInt64 >>> ((8 : Int32).toInt64.toUInt64 &&& Int64.toUInt64 63)).toInt64)).toUInt64 >>> ((16 : Int32).toInt64.toUInt64 &&& Int64.toUInt64 63)).toInt64)) + (((((((((a0 - (((a0.toUInt64 >>> ((1 : Int32).toInt64.toUInt64 &&& Int64.toUInt64 63)).toInt64) &&& (6148914691236517205 : Int64))) &&& (3689348814741910323 : Int64)) + ((((a0 - (((a0.toUInt64 >>> ((1 : Int32).toInt64.toUInt64 &&& Int64.toUInt64 63)).toInt64) &&& (6148914691236517205 : Int64))).toUInt64 >>> ((2 : Int32).toInt64.toUInt64 &&& Int64.toUInt64 63)).toInt64) &&& (3689348814741910323 : Int64))) + (((((a0 - (((a0.toUInt64 >>> ((1 : Int32).toInt64.toUInt64 &&& Int64.toUInt64 63)).toInt64) &&& (6148914691236517205 : Int64))) &&& (3689348814741910323 : Int64)) + ((((a0 - (((a0.toUInt64 >>> ((1 : Int32).toInt64.toUInt64 &&& Int64.toUInt64 63)).toInt64) &&& (6148914691236517205 : Int64))).toUInt64 >>> ((2 : Int32).toInt64.toUInt64 &&& Int64.toUInt64 63)).toInt64) &&& (3689348814741910323 : Int64))).toUInt64 >>> ((4 : Int32).toInt64.toUInt64 &&& Int64.toUInt64 63)).toInt64)) &&& (1085102592571150095 : Int64)) + (((((((a0 - (((a0.toUInt64 >>> ((1 : Int32).toInt64.toUInt64 &&& Int64.toUInt64 63)).toInt64) &&& (6148914691236517205 : Int64))) &&& (3689348814741910323 : Int64)) + ((((a0 - (((a0.toUInt64 >>> ((1 : Int32).toInt64.toUInt64 &&& Int64.toUInt64 63)).toInt64) &&& (6148914691236517205 : Int64))).toUInt64 >>> ((2 : Int32).toInt64.toUInt64 &&& Int64.toUInt64 63)).toInt64) &&& (3689348814741910323 : Int64))) + (((((a0 - (((a0.toUInt64 >>> ((1 : Int32).toInt64.toUInt64 &&& Int64.toUInt64 63)).toInt64) &&& (6148914691236517205 : Int64))) &&& (3689348814741910323 : Int64)) + ((((a0 - (((a0.toUInt64 >>> ((1 : Int32).toInt64.toUInt64 &&& Int64.toUInt64 63)).toInt64) &&& (6148914691236517205 : Int64))).toUInt64 >>> ((2 : Int32).toInt64.toUInt64 &&& Int64.toUInt64 63)).toInt64) &&& (3689348814741910323 : Int64))).toUInt64 >>> ((4 : Int32).toInt64.toUInt64 &&& Int64.toUInt64 63)).toInt64)) &&& (1085102592571150095 : Int64)).toUInt64 >>> ((8 : Int32).toInt64.toUInt64 &&& Int64.toUInt64 63)).toInt64)) + ((((((((a0 - (((a0.toUInt64 >>> ((1 : Int32).toInt64.toUInt64 &&& Int64.toUInt64 63)).toInt64) &&& (6148914691236517205 : Int64))) &&& (3689348814741910323 : Int64)) + ((((a0 - (((a0.toUInt64 >>> ((1 : Int32).toInt64.toUInt64 &&& Int64.toUInt64 63)).toInt64) &&& (6148914691236517205 : Int64))).toUInt64 >>> ((2 : Int32).toInt64.toUInt64 &&& Int64.toUInt64 63)).toInt64) &&& (3689348814741910323 : Int64))) + (((((a0 - (((a0.toUInt64 >>> ((1 : Int32).toInt64.toUInt64 &&& Int64.toUInt64 63)).toInt64) &&& (6148914691236517205 : Int64))) &&& (3689348814741910323 : Int64)) + ((((a0 - (((a0.toUInt64 >>> ((1 : Int32).toInt64.toUInt64 &&& Int64.toUInt64 63)).toInt64) &&& (6148914691236517205 : Int64))).toUInt64 >>> ((2 : Int32).toInt64.toUInt64 &&& Int64.toUInt64 63)).toInt64) &&& (3689348814741910323 : Int64))).toUInt64 >>> ((4 : Int32).toInt64.toUInt64 &&& Int64.toUInt64 63)).toInt64)) &&& (1085102592571150095 : Int64)) + (((((((a0 - (((a0.toUInt64 >>> ((1 : Int32).toInt64.toUInt64 &&& Int64.toUInt64 63)).toInt64) &&& (6148914691236517205 : Int64))) &&& (3689348814741910323 : Int64)) + ((((a0 - (((a0.toUInt64 >>> ((1 : Int32).toInt64.toUInt64 &&& Int64.toUInt64 63)).toInt64) &&& (6148914691236517205 : Int64))).toUInt64 >>> ((2 : Int32).toInt64.toUInt64 &&& Int64.toUInt64 63)).toInt64) &&& (3689348814741910323 : Int64))) + (((((a0 - (((a0.toUInt64 >>> ((1 : Int32).toInt64.toUInt64 &&& Int64.toUInt64 63)).toInt64) &&& (6148914691236517205 : Int64))) &&& (3689348814741910323 : Int64)) + ((((a0 - (((a0.toUInt64 >>> ((1 : Int32).toInt64.toUInt64 &&& Int64.toUInt64 63)).toInt64) &&& (6148914691236517205 : Int64))).toUInt64 >>> ((2 : Int32).toInt64.toUInt64 &&& Int64.toUInt64 63)).toInt64) &&& (3689348814741910323 : Int64))).toUInt64 >>> ((4 : Int32).toInt64.toUInt64 &&& Int64.toUInt64 63)).toInt64)) &&& (1085102592571150095 : Int64)).toUInt64 >>> ((8 : Int32).toInt64.toUInt64 &&& Int64.toUInt64 63)).toInt64)).toUInt64 >>> ((16 : Int32).toInt64.toUInt64 &&& Int64.toUInt64 63)).toInt64)).toUInt64 >>> ((32 : Int32).toInt64.toUInt64 &&& Int64.toUInt64 63)).toInt64)))] dJ13_bitCount_95d88_54 rfl (by decide) rfl ?_
  refine q_lload_n C 0 dJ13_bitCount_95d88_55 rfl rfl ?_
  refine q_l2i C dJ13_bitCount_95d88_56 ?_
  refine q_bipush (v := 127) C dJ13_bitCount_95d88_57 (by decide) ?_
  refine q_iand C dJ13_bitCount_95d88_59 ?_
  exact q_iret C hr hlk dJ13_bitCount_95d88_60 hF
-- J6_bitCount_0f7a4
def F_J6_bitCount_0f7a4 (n : Nat) (a0 : Int32) (σ : PS) : Option (Int32 × PS) := some (((((((((a0 - (((a0.toUInt32 >>> ((1 : Int32).toUInt32 &&& Int32.toUInt32 31)).toInt32) &&& (1431655765 : Int32))) &&& (858993459 : Int32)) + ((((a0 - (((a0.toUInt32 >>> ((1 : Int32).toUInt32 &&& Int32.toUInt32 31)).toInt32) &&& (1431655765 : Int32))).toUInt32 >>> ((2 : Int32).toUInt32 &&& Int32.toUInt32 31)).toInt32) &&& (858993459 : Int32))) + (((((a0 - (((a0.toUInt32 >>> ((1 : Int32).toUInt32 &&& Int32.toUInt32 31)).toInt32) &&& (1431655765 : Int32))) &&& (858993459 : Int32)) + ((((a0 - (((a0.toUInt32 >>> ((1 : Int32).toUInt32 &&& Int32.toUInt32 31)).toInt32) &&& (1431655765 : Int32))).toUInt32 >>> ((2 : Int32).toUInt32 &&& Int32.toUInt32 31)).toInt32) &&& (858993459 : Int32))).toUInt32 >>> ((4 : Int32).toUInt32 &&& Int32.toUInt32 31)).toInt32)) &&& (252645135 : Int32)) + (((((((a0 - (((a0.toUInt32 >>> ((1 : Int32).toUInt32 &&& Int32.toUInt32 31)).toInt32) &&& (1431655765 : Int32))) &&& (858993459 : Int32)) + ((((a0 - (((a0.toUInt32 >>> ((1 : Int32).toUInt32 &&& Int32.toUInt32 31)).toInt32) &&& (1431655765 : Int32))).toUInt32 >>> ((2 : Int32).toUInt32 &&& Int32.toUInt32 31)).toInt32) &&& (858993459 : Int32))) + (((((a0 - (((a0.toUInt32 >>> ((1 : Int32).toUInt32 &&& Int32.toUInt32 31)).toInt32) &&& (1431655765 : Int32))) &&& (858993459 : Int32)) + ((((a0 - (((a0.toUInt32 >>> ((1 : Int32).toUInt32 &&& Int32.toUInt32 31)).toInt32) &&& (1431655765 : Int32))).toUInt32 >>> ((2 : Int32).toUInt32 &&& Int32.toUInt32 31)).toInt32) &&& (858993459 : Int32))).toUInt32 >>> ((4 : Int32).toUInt32 &&& Int32.toUInt32 31)).toInt32)) &&& (252645135 : Int32)).toUInt32 >>> ((8 : Int32).toUInt32 &&& Int32.toUInt32 31)).toInt32)) + ((((((((a0 - (((a0.toUInt32 >>> ((1 : Int32).toUInt32 &&& Int32.toUInt32 31)).toInt32) &&& (1431655765 : Int32))) &&& (858993459 : Int32)) + ((((a0 - (((a0.toUInt32 >>> ((1 : Int32).toUInt32 &&& Int32.toUInt32 31)).toInt32) &&& (1431655765 : Int32))).toUInt32 >>> ((2 : Int32).toUInt32 &&& Int32.toUInt32 31)).toInt32) &&& (858993459 : Int32))) + (((((a0 - (((a0.toUInt32 >>> ((1 : Int32).toUInt32 &&& Int32.toUInt32 31)).toInt32) &&& (1431655765 : Int32))) &&& (858993459 : Int32)) + ((((a0 - (((a0.toUInt32 >>> ((1 : Int32).toUInt32 &&& Int32.toUInt32 31)).toInt32) &&& (1431655765 : Int32))).toUInt32 >>> ((2 : Int32).toUInt32 &&& Int32.toUInt32 31)).toInt32) &&& (858993459 : Int32))).toUInt32 >>> ((4 : Int32).toUInt32 &&& Int32.toUInt32 31)).toInt32)) &&& (252645135 : Int32)) + (((((((a0 - (((a0.toUInt32 >>> ((1 : Int32).toUInt32 &&& Int32.toUInt32 31)).toInt32) &&& (1431655765 : Int32))) &&& (858993459 : Int32)) + ((((a0 - (((a0.toUInt32 >>> ((1 : Int32).toUInt32 &&& Int32.toUInt32 31)).toInt32) &&& (1431655765 : Int32))).toUInt32 >>> ((2 : Int32).toUInt32 &&& Int32.toUInt32 31)).toInt32) &&& (858993459 : Int32))) + (((((a0 - (((a0.toUInt32 >>> ((1 : Int32).toUInt32 &&& Int32.toUInt32 31)).toInt32) &&& (1431655765 : Int32))) &&& (858993459 : Int32)) + ((((a0 - (((a0.toUInt32 >>> ((1 : Int32).toUInt32 &&& Int32.toUInt32 31)).toInt32) &&& (1431655765 : Int32))).toUInt32 >>> ((2 : Int32).toUInt32 &&& Int32.toUInt32 31)).toInt32) &&& (858993459 : Int32))).toUInt32 >>> ((4 : Int32).toUInt32 &&& Int32.toUInt32 31)).toInt32)) &&& (252645135 : Int32)).toUInt32 >>> ((8 : Int32).toUInt32 &&& Int32.toUInt32 31)).toInt32)).toUInt32 >>> ((16 : Int32).toUInt32 &&& Int32.toUInt32 31)).toInt32)) &&& (63 : Int32)), σ)
theorem gm_J6_bitCount_0f7a4 : gS yJ6_bitCount_0f7a4 (Cond.code yJ6_bitCount_0f7a4 cJ6_bitCount_0f7a4 1 (Option.some Jvm.ClassFile.FieldType.int)) 1 := ⟨by decide +kernel, tw_773, tw_20, tw_774⟩
set_option maxHeartbeats 4000000 in
set_option maxRecDepth 100000 in
theorem c_J6_bitCount_0f7a4 (l : Launch) (D : va_G) (ad : Nat → Nat) (ca : Nat → ClassId) (kz : Nat → Nat) (hJ : pInj ad) (n : Nat) (a0 : Int32) (σ : PS) (out : Int32 × PS) (hF : F_J6_bitCount_0f7a4 n a0 σ = some out) : Met l yJ6_bitCount_0f7a4 (Cond.code yJ6_bitCount_0f7a4 cJ6_bitCount_0f7a4 1 (Option.some Jvm.ClassFile.FieldType.int) :: gw_tbl) { frames := 0, cells := 0, slots := 0, locals := 0 } (va_Pc [.int a0] (pU D ad ca kz σ)) (pQi D ad ca out) 0 0 (pAD ad) := by
  refine q_entry (own := "java/lang/Integer") hJ (by decide) rfl (Nat.le_of_ble_eq_true rfl) (fun p e s m below meth c C hr hlk => ?_)
  refine q_lv [(0, .int a0)] rfl ?_
  rw [F_J6_bitCount_0f7a4] at hF
  refine q_iload_n C 0 dJ6_bitCount_0f7a4_0 rfl rfl ?_
  refine q_iload_n C 0 dJ6_bitCount_0f7a4_1 rfl rfl ?_
  refine q_iconst (v := 1) C dJ6_bitCount_0f7a4_2 (by decide) ?_
  refine q_iushr C dJ6_bitCount_0f7a4_3 ?_
  refine q_ldcw C dJ6_bitCount_0f7a4_4 tw_775 ?_
  refine q_iand C dJ6_bitCount_0f7a4_7 ?_
  refine q_isub C dJ6_bitCount_0f7a4_8 ?_
  refine q_istore_n C [(0, .int (a0 - (((a0.toUInt32 >>> ((1 : Int32).toUInt32 &&& Int32.toUInt32 31)).toInt32) &&& (1431655765 : Int32))))] dJ6_bitCount_0f7a4_9 rfl (by decide) rfl ?_
  refine q_iload_n C 0 dJ6_bitCount_0f7a4_10 rfl rfl ?_
  refine q_ldcw C dJ6_bitCount_0f7a4_11 tw_776 ?_
  refine q_iand C dJ6_bitCount_0f7a4_14 ?_
  refine q_iload_n C 0 dJ6_bitCount_0f7a4_15 rfl rfl ?_
  refine q_iconst (v := 2) C dJ6_bitCount_0f7a4_16 (by decide) ?_
  refine q_iushr C dJ6_bitCount_0f7a4_17 ?_
  refine q_ldcw C dJ6_bitCount_0f7a4_18 tw_776 ?_
  refine q_iand C dJ6_bitCount_0f7a4_21 ?_
  refine q_iadd C dJ6_bitCount_0f7a4_22 ?_
  refine q_istore_n C [(0, .int (((a0 - (((a0.toUInt32 >>> ((1 : Int32).toUInt32 &&& Int32.toUInt32 31)).toInt32) &&& (1431655765 : Int32))) &&& (858993459 : Int32)) + ((((a0 - (((a0.toUInt32 >>> ((1 : Int32).toUInt32 &&& Int32.toUInt32 31)).toInt32) &&& (1431655765 : Int32))).toUInt32 >>> ((2 : Int32).toUInt32 &&& Int32.toUInt32 31)).toInt32) &&& (858993459 : Int32))))] dJ6_bitCount_0f7a4_23 rfl (by decide) rfl ?_
  refine q_iload_n C 0 dJ6_bitCount_0f7a4_24 rfl rfl ?_
  refine q_iload_n C 0 dJ6_bitCount_0f7a4_25 rfl rfl ?_
  refine q_iconst (v := 4) C dJ6_bitCount_0f7a4_26 (by decide) ?_
  refine q_iushr C dJ6_bitCount_0f7a4_27 ?_
  refine q_iadd C dJ6_bitCount_0f7a4_28 ?_
  refine q_ldcw C dJ6_bitCount_0f7a4_29 tw_777 ?_
  refine q_iand C dJ6_bitCount_0f7a4_32 ?_
  refine q_istore_n C [(0, .int (((((a0 - (((a0.toUInt32 >>> ((1 : Int32).toUInt32 &&& Int32.toUInt32 31)).toInt32) &&& (1431655765 : Int32))) &&& (858993459 : Int32)) + ((((a0 - (((a0.toUInt32 >>> ((1 : Int32).toUInt32 &&& Int32.toUInt32 31)).toInt32) &&& (1431655765 : Int32))).toUInt32 >>> ((2 : Int32).toUInt32 &&& Int32.toUInt32 31)).toInt32) &&& (858993459 : Int32))) + (((((a0 - (((a0.toUInt32 >>> ((1 : Int32).toUInt32 &&& Int32.toUInt32 31)).toInt32) &&& (1431655765 : Int32))) &&& (858993459 : Int32)) + ((((a0 - (((a0.toUInt32 >>> ((1 : Int32).toUInt32 &&& Int32.toUInt32 31)).toInt32) &&& (1431655765 : Int32))).toUInt32 >>> ((2 : Int32).toUInt32 &&& Int32.toUInt32 31)).toInt32) &&& (858993459 : Int32))).toUInt32 >>> ((4 : Int32).toUInt32 &&& Int32.toUInt32 31)).toInt32)) &&& (252645135 : Int32)))] dJ6_bitCount_0f7a4_33 rfl (by decide) rfl ?_
  refine q_iload_n C 0 dJ6_bitCount_0f7a4_34 rfl rfl ?_
  refine q_iload_n C 0 dJ6_bitCount_0f7a4_35 rfl rfl ?_
  refine q_bipush (v := 8) C dJ6_bitCount_0f7a4_36 (by decide) ?_
  refine q_iushr C dJ6_bitCount_0f7a4_38 ?_
  refine q_iadd C dJ6_bitCount_0f7a4_39 ?_
  refine q_istore_n C [(0, .int ((((((a0 - (((a0.toUInt32 >>> ((1 : Int32).toUInt32 &&& Int32.toUInt32 31)).toInt32) &&& (1431655765 : Int32))) &&& (858993459 : Int32)) + ((((a0 - (((a0.toUInt32 >>> ((1 : Int32).toUInt32 &&& Int32.toUInt32 31)).toInt32) &&& (1431655765 : Int32))).toUInt32 >>> ((2 : Int32).toUInt32 &&& Int32.toUInt32 31)).toInt32) &&& (858993459 : Int32))) + (((((a0 - (((a0.toUInt32 >>> ((1 : Int32).toUInt32 &&& Int32.toUInt32 31)).toInt32) &&& (1431655765 : Int32))) &&& (858993459 : Int32)) + ((((a0 - (((a0.toUInt32 >>> ((1 : Int32).toUInt32 &&& Int32.toUInt32 31)).toInt32) &&& (1431655765 : Int32))).toUInt32 >>> ((2 : Int32).toUInt32 &&& Int32.toUInt32 31)).toInt32) &&& (858993459 : Int32))).toUInt32 >>> ((4 : Int32).toUInt32 &&& Int32.toUInt32 31)).toInt32)) &&& (252645135 : Int32)) + (((((((a0 - (((a0.toUInt32 >>> ((1 : Int32).toUInt32 &&& Int32.toUInt32 31)).toInt32) &&& (1431655765 : Int32))) &&& (858993459 : Int32)) + ((((a0 - (((a0.toUInt32 >>> ((1 : Int32).toUInt32 &&& Int32.toUInt32 31)).toInt32) &&& (1431655765 : Int32))).toUInt32 >>> ((2 : Int32).toUInt32 &&& Int32.toUInt32 31)).toInt32) &&& (858993459 : Int32))) + (((((a0 - (((a0.toUInt32 >>> ((1 : Int32).toUInt32 &&& Int32.toUInt32 31)).toInt32) &&& (1431655765 : Int32))) &&& (858993459 : Int32)) + ((((a0 - (((a0.toUInt32 >>> ((1 : Int32).toUInt32 &&& Int32.toUInt32 31)).toInt32) &&& (1431655765 : Int32))).toUInt32 >>> ((2 : Int32).toUInt32 &&& Int32.toUInt32 31)).toInt32) &&& (858993459 : Int32))).toUInt32 >>> ((4 : Int32).toUInt32 &&& Int32.toUInt32 31)).toInt32)) &&& (252645135 : Int32)).toUInt32 >>> ((8 : Int32).toUInt32 &&& Int32.toUInt32 31)).toInt32)))] dJ6_bitCount_0f7a4_40 rfl (by decide) rfl ?_
  refine q_iload_n C 0 dJ6_bitCount_0f7a4_41 rfl rfl ?_
  refine q_iload_n C 0 dJ6_bitCount_0f7a4_42 rfl rfl ?_
  refine q_bipush (v := 16) C dJ6_bitCount_0f7a4_43 (by decide) ?_
  refine q_iushr C dJ6_bitCount_0f7a4_45 ?_
  refine q_iadd C dJ6_bitCount_0f7a4_46 ?_
  refine q_istore_n C [(0, .int (((((((a0 - (((a0.toUInt32 >>> ((1 : Int32).toUInt32 &&& Int32.toUInt32 31)).toInt32) &&& (1431655765 : Int32))) &&& (858993459 : Int32)) + ((((a0 - (((a0.toUInt32 >>> ((1 : Int32).toUInt32 &&& Int32.toUInt32 31)).toInt32) &&& (1431655765 : Int32))).toUInt32 >>> ((2 : Int32).toUInt32 &&& Int32.toUInt32 31)).toInt32) &&& (858993459 : Int32))) + (((((a0 - (((a0.toUInt32 >>> ((1 : Int32).toUInt32 &&& Int32.toUInt32 31)).toInt32) &&& (1431655765 : Int32))) &&& (858993459 : Int32)) + ((((a0 - (((a0.toUInt32 >>> ((1 : Int32).toUInt32 &&& Int32.toUInt32 31)).toInt32) &&& (1431655765 : Int32))).toUInt32 >>> ((2 : Int32).toUInt32 &&& Int32.toUInt32 31)).toInt32) &&& (858993459 : Int32))).toUInt32 >>> ((4 : Int32).toUInt32 &&& Int32.toUInt32 31)).toInt32)) &&& (252645135 : Int32)) + (((((((a0 - (((a0.toUInt32 >>> ((1 : Int32).toUInt32 &&& Int32.toUInt32 31)).toInt32) &&& (1431655765 : Int32))) &&& (858993459 : Int32)) + ((((a0 - (((a0.toUInt32 >>> ((1 : Int32).toUInt32 &&& Int32.toUInt32 31)).toInt32) &&& (1431655765 : Int32))).toUInt32 >>> ((2 : Int32).toUInt32 &&& Int32.toUInt32 31)).toInt32) &&& (858993459 : Int32))) + (((((a0 - (((a0.toUInt32 >>> ((1 : Int32).toUInt32 &&& Int32.toUInt32 31)).toInt32) &&& (1431655765 : Int32))) &&& (858993459 : Int32)) + ((((a0 - (((a0.toUInt32 >>> ((1 : Int32).toUInt32 &&& Int32.toUInt32 31)).toInt32) &&& (1431655765 : Int32))).toUInt32 >>> ((2 : Int32).toUInt32 &&& Int32.toUInt32 31)).toInt32) &&& (858993459 : Int32))).toUInt32 >>> ((4 : Int32).toUInt32 &&& Int32.toUInt32 31)).toInt32)) &&& (252645135 : Int32)).toUInt32 >>> ((8 : Int32).toUInt32 &&& Int32.toUInt32 31)).toInt32)) + ((((((((a0 - (((a0.toUInt32 >>> ((1 : Int32).toUInt32 &&& Int32.toUInt32 31)).toInt32) &&& (1431655765 : Int32))) &&& (858993459 : Int32)) + ((((a0 - (((a0.toUInt32 >>> ((1 : Int32).toUInt32 &&& Int32.toUInt32 31)).toInt32) &&& (1431655765 : Int32))).toUInt32 >>> ((2 : Int32).toUInt32 &&& Int32.toUInt32 31)).toInt32) &&& (858993459 : Int32))) + (((((a0 - (((a0.toUInt32 >>> ((1 : Int32).toUInt32 &&& Int32.toUInt32 31)).toInt32) &&& (1431655765 : Int32))) &&& (858993459 : Int32)) + ((((a0 - (((a0.toUInt32 >>> ((1 : Int32).toUInt32 &&& Int32.toUInt32 31)).toInt32) &&& (1431655765 : Int32))).toUInt32 >>> ((2 : Int32).toUInt32 &&& Int32.toUInt32 31)).toInt32) &&& (858993459 : Int32))).toUInt32 >>> ((4 : Int32).toUInt32 &&& Int32.toUInt32 31)).toInt32)) &&& (252645135 : Int32)) + (((((((a0 - (((a0.toUInt32 >>> ((1 : Int32).toUInt32 &&& Int32.toUInt32 31)).toInt32) &&& (1431655765 : Int32))) &&& (858993459 : Int32)) + ((((a0 - (((a0.toUInt32 >>> ((1 : Int32).toUInt32 &&& Int32.toUInt32 31)).toInt32) &&& (1431655765 : Int32))).toUInt32 >>> ((2 : Int32).toUInt32 &&& Int32.toUInt32 31)).toInt32) &&& (858993459 : Int32))) + (((((a0 - (((a0.toUInt32 >>> ((1 : Int32).toUInt32 &&& Int32.toUInt32 31)).toInt32) &&& (1431655765 : Int32))) &&& (858993459 : Int32)) + ((((a0 - (((a0.toUInt32 >>> ((1 : Int32).toUInt32 &&& Int32.toUInt32 31)).toInt32) &&& (1431655765 : Int32))).toUInt32 >>> ((2 : Int32).toUInt32 &&& Int32.toUInt32 31)).toInt32) &&& (858993459 : Int32))).toUInt32 >>> ((4 : Int32).toUInt32 &&& Int32.toUInt32 31)).toInt32)) &&& (252645135 : Int32)).toUInt32 >>> ((8 : Int32).toUInt32 &&& Int32.toUInt32 31)).toInt32)).toUInt32 >>> ((16 : Int32).toUInt32 &&& Int32.toUInt32 31)).toInt32)))] dJ6_bitCount_0f7a4_47 rfl (by decide) rfl ?_
  refine q_iload_n C 0 dJ6_bitCount_0f7a4_48 rfl rfl ?_
  refine q_bipush (v := 63) C dJ6_bitCount_0f7a4_49 (by decide) ?_
  refine q_iand C dJ6_bitCount_0f7a4_51 ?_
  exact q_iret C hr hlk dJ6_bitCount_0f7a4_52 hF
-- X0_forget
def F_X0_forget (n : Nat) (σ : PS) : Option (PS) := some (psI σ 94 0 (0 : Int32))
theorem gm_X0_forget : gM "AskedCamp$Acts" yX0_forget (Cond.code yX0_forget cX0_forget 1 (Option.none : Option Jvm.ClassFile.FieldType)) 0 := ⟨by decide +kernel, tw_543, tw_544, tw_8, tw_545⟩
set_option maxHeartbeats 4000000 in
set_option maxRecDepth 100000 in
theorem c_X0_forget (l : Launch) (D : va_G) (ad : Nat → Nat) (ca : Nat → ClassId) (kz : Nat → Nat) (hJ : pInj ad) (n : Nat) (σ : PS) (out : PS) (hF : F_X0_forget n σ = some out) : Met l yX0_forget (Cond.code yX0_forget cX0_forget 1 (Option.none : Option Jvm.ClassFile.FieldType) :: gw_tbl) { frames := 0, cells := 0, slots := 0, locals := 0 } (va_Pc [.ref (ad (94))] (pU D ad ca kz σ)) (pQv D ad ca out) 0 0 (pAD ad) := by
  refine q_entry (own := "AskedCamp$Acts") hJ (by decide) rfl (Nat.le_of_ble_eq_true rfl) (fun p e s m below meth c C hr hlk => ?_)
  refine q_lv [(0, .ref (ad (94)))] rfl ?_
  rw [F_X0_forget] at hF
  refine q_aload_n C 0 dX0_forget_0 rfl rfl ?_
  refine q_iconst (v := 0) C dX0_forget_1 (by decide) ?_
  refine qs_0_0 C pi_94 tw_274 dX0_forget_2 ?_
  exact q_vret C hr hlk dX0_forget_5 hF
-- X10_copyFrom
def L_X10_copyFrom_58 (n : Nat) (i : Nat) (a1 : Nat) : Nat → Int32 → PS → Option (PS)
  | 0, _, _ => none
  | k + 1, x2, σ => (if (6 : Int32) ≤ x2 then some σ else (if 0 ≤ x2 ∧ x2.toNatClampNeg < 6 then L_X10_copyFrom_58 n i a1 k (x2 + 1) (psI (psI (psI (psI σ (i + 1) x2.toNatClampNeg (σ.1 (a1 + 1) x2.toNatClampNeg)) (i + 2) x2.toNatClampNeg ((psI σ (i + 1) x2.toNatClampNeg (σ.1 (a1 + 1) x2.toNatClampNeg)).1 (a1 + 2) x2.toNatClampNeg)) (i + 3) x2.toNatClampNeg ((psI (psI σ (i + 1) x2.toNatClampNeg (σ.1 (a1 + 1) x2.toNatClampNeg)) (i + 2) x2.toNatClampNeg ((psI σ (i + 1) x2.toNatClampNeg (σ.1 (a1 + 1) x2.toNatClampNeg)).1 (a1 + 2) x2.toNatClampNeg)).1 (a1 + 3) x2.toNatClampNeg)) (i + 4) x2.toNatClampNeg ((psI (psI (psI σ (i + 1) x2.toNatClampNeg (σ.1 (a1 + 1) x2.toNatClampNeg)) (i + 2) x2.toNatClampNeg ((psI σ (i + 1) x2.toNatClampNeg (σ.1 (a1 + 1) x2.toNatClampNeg)).1 (a1 + 2) x2.toNatClampNeg)) (i + 3) x2.toNatClampNeg ((psI (psI σ (i + 1) x2.toNatClampNeg (σ.1 (a1 + 1) x2.toNatClampNeg)) (i + 2) x2.toNatClampNeg ((psI σ (i + 1) x2.toNatClampNeg (σ.1 (a1 + 1) x2.toNatClampNeg)).1 (a1 + 2) x2.toNatClampNeg)).1 (a1 + 3) x2.toNatClampNeg)).1 (a1 + 4) x2.toNatClampNeg)) else none))
def F_X10_copyFrom (n : Nat) (i : Nat) (a1 : Nat) (σ : PS) : Option (PS) := (L_X10_copyFrom_58 n i a1 n (0 : Int32) (psJ (psI (psI (psI (psI (psI (psI σ i 0 (σ.1 a1 0)) i 1 ((psI σ i 0 (σ.1 a1 0)).1 a1 1)) i 2 ((psI (psI σ i 0 (σ.1 a1 0)) i 1 ((psI σ i 0 (σ.1 a1 0)).1 a1 1)).1 a1 2)) i 3 ((psI (psI (psI σ i 0 (σ.1 a1 0)) i 1 ((psI σ i 0 (σ.1 a1 0)).1 a1 1)) i 2 ((psI (psI σ i 0 (σ.1 a1 0)) i 1 ((psI σ i 0 (σ.1 a1 0)).1 a1 1)).1 a1 2)).1 a1 3)) i 4 ((psI (psI (psI (psI σ i 0 (σ.1 a1 0)) i 1 ((psI σ i 0 (σ.1 a1 0)).1 a1 1)) i 2 ((psI (psI σ i 0 (σ.1 a1 0)) i 1 ((psI σ i 0 (σ.1 a1 0)).1 a1 1)).1 a1 2)) i 3 ((psI (psI (psI σ i 0 (σ.1 a1 0)) i 1 ((psI σ i 0 (σ.1 a1 0)).1 a1 1)) i 2 ((psI (psI σ i 0 (σ.1 a1 0)) i 1 ((psI σ i 0 (σ.1 a1 0)).1 a1 1)).1 a1 2)).1 a1 3)).1 a1 4)) i 5 ((psI (psI (psI (psI (psI σ i 0 (σ.1 a1 0)) i 1 ((psI σ i 0 (σ.1 a1 0)).1 a1 1)) i 2 ((psI (psI σ i 0 (σ.1 a1 0)) i 1 ((psI σ i 0 (σ.1 a1 0)).1 a1 1)).1 a1 2)) i 3 ((psI (psI (psI σ i 0 (σ.1 a1 0)) i 1 ((psI σ i 0 (σ.1 a1 0)).1 a1 1)) i 2 ((psI (psI σ i 0 (σ.1 a1 0)) i 1 ((psI σ i 0 (σ.1 a1 0)).1 a1 1)).1 a1 2)).1 a1 3)) i 4 ((psI (psI (psI (psI σ i 0 (σ.1 a1 0)) i 1 ((psI σ i 0 (σ.1 a1 0)).1 a1 1)) i 2 ((psI (psI σ i 0 (σ.1 a1 0)) i 1 ((psI σ i 0 (σ.1 a1 0)).1 a1 1)).1 a1 2)) i 3 ((psI (psI (psI σ i 0 (σ.1 a1 0)) i 1 ((psI σ i 0 (σ.1 a1 0)).1 a1 1)) i 2 ((psI (psI σ i 0 (σ.1 a1 0)) i 1 ((psI σ i 0 (σ.1 a1 0)).1 a1 1)).1 a1 2)).1 a1 3)).1 a1 4)).1 a1 5)) i 6 ((psI (psI (psI (psI (psI (psI σ i 0 (σ.1 a1 0)) i 1 ((psI σ i 0 (σ.1 a1 0)).1 a1 1)) i 2 ((psI (psI σ i 0 (σ.1 a1 0)) i 1 ((psI σ i 0 (σ.1 a1 0)).1 a1 1)).1 a1 2)) i 3 ((psI (psI (psI σ i 0 (σ.1 a1 0)) i 1 ((psI σ i 0 (σ.1 a1 0)).1 a1 1)) i 2 ((psI (psI σ i 0 (σ.1 a1 0)) i 1 ((psI σ i 0 (σ.1 a1 0)).1 a1 1)).1 a1 2)).1 a1 3)) i 4 ((psI (psI (psI (psI σ i 0 (σ.1 a1 0)) i 1 ((psI σ i 0 (σ.1 a1 0)).1 a1 1)) i 2 ((psI (psI σ i 0 (σ.1 a1 0)) i 1 ((psI σ i 0 (σ.1 a1 0)).1 a1 1)).1 a1 2)) i 3 ((psI (psI (psI σ i 0 (σ.1 a1 0)) i 1 ((psI σ i 0 (σ.1 a1 0)).1 a1 1)) i 2 ((psI (psI σ i 0 (σ.1 a1 0)) i 1 ((psI σ i 0 (σ.1 a1 0)).1 a1 1)).1 a1 2)).1 a1 3)).1 a1 4)) i 5 ((psI (psI (psI (psI (psI σ i 0 (σ.1 a1 0)) i 1 ((psI σ i 0 (σ.1 a1 0)).1 a1 1)) i 2 ((psI (psI σ i 0 (σ.1 a1 0)) i 1 ((psI σ i 0 (σ.1 a1 0)).1 a1 1)).1 a1 2)) i 3 ((psI (psI (psI σ i 0 (σ.1 a1 0)) i 1 ((psI σ i 0 (σ.1 a1 0)).1 a1 1)) i 2 ((psI (psI σ i 0 (σ.1 a1 0)) i 1 ((psI σ i 0 (σ.1 a1 0)).1 a1 1)).1 a1 2)).1 a1 3)) i 4 ((psI (psI (psI (psI σ i 0 (σ.1 a1 0)) i 1 ((psI σ i 0 (σ.1 a1 0)).1 a1 1)) i 2 ((psI (psI σ i 0 (σ.1 a1 0)) i 1 ((psI σ i 0 (σ.1 a1 0)).1 a1 1)).1 a1 2)) i 3 ((psI (psI (psI σ i 0 (σ.1 a1 0)) i 1 ((psI σ i 0 (σ.1 a1 0)).1 a1 1)) i 2 ((psI (psI σ i 0 (σ.1 a1 0)) i 1 ((psI σ i 0 (σ.1 a1 0)).1 a1 1)).1 a1 2)).1 a1 3)).1 a1 4)).1 a1 5)).2 a1 6))).bind (fun o3 => some (psC o3 (a1 + 5) (i + 5) (0 : Int32).toNatClampNeg (0 : Int32).toNatClampNeg (36 : Int32).toNatClampNeg))
theorem gm_X10_copyFrom : gM "AskedCamp$World" yX10_copyFrom (Cond.code yX10_copyFrom cX10_copyFrom 3 (Option.none : Option Jvm.ClassFile.FieldType)) 1 := ⟨by decide +kernel, tw_536, tw_537, tw_7, tw_538⟩
set_option maxHeartbeats 4000000 in
set_option maxRecDepth 100000 in
theorem l_X10_copyFrom_58 {p : Program} {l : Launch} {e : Env} {R : Room} {s : State} {m : MethodId} {args : Array Value} {below : List Frame} {meth : Method} {c : Code} {D : va_G} {ad : Nat → Nat} {ca : Nat → ClassId} {kz : Nat → Nat} {Q : State → Prop} (C : pC p s m args c cX10_copyFrom "AskedCamp$World" 3 D ad ca kz) (hR : 1 ≤ R.frames ∧ 80 ≤ R.locals) {n : Nat} {i : Nat} {a1 : Nat} (hi : pis i 9) (ha1 : pis a1 9) (o : PS) (hx0 : PW p l e R s m args below meth c 3 D ad ca 0 0 Q (o) 118 [(0, .ref (ad (i))), (1, .ref (ad (a1)))] []) : ∀ (k : Nat) (x2 : Int32) (σ : PS), L_X10_copyFrom_58 n i a1 k x2 σ = some o → PW p l e R s m args below meth c 3 D ad ca 0 0 Q σ 58 [(0, .ref (ad (i))), (1, .ref (ad (a1))), (2, .int x2)] [] := by
  intro k
  induction k with
  | zero => intro x2 σ hF; exact nomatch (show (none : Option (PS)) = some o from hF)
  | succ k ih =>
    intro x2 σ hF
    rw [L_X10_copyFrom_58] at hF
    refine q_iload_n C 2 dX10_copyFrom_58 rfl rfl ?_
    refine q_bipush (v := 6) C dX10_copyFrom_59 (by decide) ?_
    refine q_icmp_ge (tgt := 118) C dX10_copyFrom_61 (by decide) (fun c1 => ?_) (fun c1 => ?_)
    · replace hF := ift c1 hF
      cases hF
      refine q_sub [0, 1] rfl ?_
      exact hx0
    · replace hF := ife c1 hF
      refine q_aload_n C 0 dX10_copyFrom_64 rfl rfl ?_
      refine qg_9_7 C hi tw_187 dX10_copyFrom_65 ?_
      refine q_iload_n C 2 dX10_copyFrom_68 rfl rfl ?_
      refine q_aload_n C 1 dX10_copyFrom_69 rfl rfl ?_
      refine qg_9_7 C ha1 tw_187 dX10_copyFrom_70 ?_
      refine q_iload_n C 2 dX10_copyFrom_73 rfl rfl ?_
      obtain ⟨g2, hF⟩ := grd hF
      refine q_iald C (pkW ha1).1 (vp_of g2) dX10_copyFrom_74 ?_
      refine q_iast C (pkW hi).1 (vp_of g2) dX10_copyFrom_75 ?_
      refine q_aload_n C 0 dX10_copyFrom_76 rfl rfl ?_
      refine qg_9_8 C hi tw_191 dX10_copyFrom_77 ?_
      refine q_iload_n C 2 dX10_copyFrom_80 rfl rfl ?_
      refine q_aload_n C 1 dX10_copyFrom_81 rfl rfl ?_
      refine qg_9_8 C ha1 tw_191 dX10_copyFrom_82 ?_
      refine q_iload_n C 2 dX10_copyFrom_85 rfl rfl ?_
      refine q_iald C (pkW ha1).2.1 (vp_of g2) dX10_copyFrom_86 ?_
      refine q_iast C (pkW hi).2.1 (vp_of g2) dX10_copyFrom_87 ?_
      refine q_aload_n C 0 dX10_copyFrom_88 rfl rfl ?_
      refine qg_9_9 C hi tw_193 dX10_copyFrom_89 ?_
      refine q_iload_n C 2 dX10_copyFrom_92 rfl rfl ?_
      refine q_aload_n C 1 dX10_copyFrom_93 rfl rfl ?_
      refine qg_9_9 C ha1 tw_193 dX10_copyFrom_94 ?_
      refine q_iload_n C 2 dX10_copyFrom_97 rfl rfl ?_
      refine q_iald C (pkW ha1).2.2.1 (vp_of g2) dX10_copyFrom_98 ?_
      refine q_iast C (pkW hi).2.2.1 (vp_of g2) dX10_copyFrom_99 ?_
      refine q_aload_n C 0 dX10_copyFrom_100 rfl rfl ?_
      refine qg_9_10 C hi tw_196 dX10_copyFrom_101 ?_
      refine q_iload_n C 2 dX10_copyFrom_104 rfl rfl ?_
      refine q_aload_n C 1 dX10_copyFrom_105 rfl rfl ?_
      refine qg_9_10 C ha1 tw_196 dX10_copyFrom_106 ?_
      refine q_iload_n C 2 dX10_copyFrom_109 rfl rfl ?_
      refine q_iald C (pkW ha1).2.2.2.1 (vp_of g2) dX10_copyFrom_110 ?_
      refine q_iast C (pkW hi).2.2.2.1 (vp_of g2) dX10_copyFrom_111 ?_
      refine q_iinc C 2 [(2, .int (x2 + 1)), (0, .ref (ad (i))), (1, .ref (ad (a1)))] dX10_copyFrom_112 rfl rfl (by decide) rfl ?_
      refine q_goto (tgt := 58) C dX10_copyFrom_115 (by decide) ?_
      refine q_sub [1, 2, 0] rfl ?_
      exact ih _ _ hF
set_option maxHeartbeats 4000000 in
set_option maxRecDepth 100000 in
theorem c_X10_copyFrom (l : Launch) (D : va_G) (ad : Nat → Nat) (ca : Nat → ClassId) (kz : Nat → Nat) (hJ : pInj ad) (n : Nat) {i : Nat} {a1 : Nat} (hi : pis i 9) (ha1 : pis a1 9) (σ : PS) (out : PS) (hF : F_X10_copyFrom n i a1 σ = some out) : Met l yX10_copyFrom (Cond.code yX10_copyFrom cX10_copyFrom 3 (Option.none : Option Jvm.ClassFile.FieldType) :: gw_tbl) { frames := 1, cells := 0, slots := 0, locals := 80 } (va_Pc [.ref (ad (i)), .ref (ad (a1))] (pU D ad ca kz σ)) (pQv D ad ca out) 0 0 (pAD ad) := by
  refine q_entry (own := "AskedCamp$World") hJ (by decide) rfl (Nat.le_of_ble_eq_true rfl) (fun p e s m below meth c C hr hlk => ?_)
  refine q_lv [(0, .ref (ad (i))), (1, .ref (ad (a1)))] rfl ?_
  rw [F_X10_copyFrom] at hF
  refine q_aload_n C 0 dX10_copyFrom_0 rfl rfl ?_
  refine q_aload_n C 1 dX10_copyFrom_1 rfl rfl ?_
  refine qg_9_0 C ha1 tw_156 dX10_copyFrom_2 ?_
  refine qs_9_0 C hi tw_156 dX10_copyFrom_5 ?_
  refine q_aload_n C 0 dX10_copyFrom_8 rfl rfl ?_
  refine q_aload_n C 1 dX10_copyFrom_9 rfl rfl ?_
  refine qg_9_1 C ha1 tw_159 dX10_copyFrom_10 ?_
  refine qs_9_1 C hi tw_159 dX10_copyFrom_13 ?_
  refine q_aload_n C 0 dX10_copyFrom_16 rfl rfl ?_
  refine q_aload_n C 1 dX10_copyFrom_17 rfl rfl ?_
  refine qg_9_2 C ha1 tw_163 dX10_copyFrom_18 ?_
  refine qs_9_2 C hi tw_163 dX10_copyFrom_21 ?_
  refine q_aload_n C 0 dX10_copyFrom_24 rfl rfl ?_
  refine q_aload_n C 1 dX10_copyFrom_25 rfl rfl ?_
  refine qg_9_3 C ha1 tw_170 dX10_copyFrom_26 ?_
  refine qs_9_3 C hi tw_170 dX10_copyFrom_29 ?_
  refine q_aload_n C 0 dX10_copyFrom_32 rfl rfl ?_
  refine q_aload_n C 1 dX10_copyFrom_33 rfl rfl ?_
  refine qg_9_4 C ha1 tw_174 dX10_copyFrom_34 ?_
  refine qs_9_4 C hi tw_174 dX10_copyFrom_37 ?_
  refine q_aload_n C 0 dX10_copyFrom_40 rfl rfl ?_
  refine q_aload_n C 1 dX10_copyFrom_41 rfl rfl ?_
  refine qg_9_5 C ha1 tw_178 dX10_copyFrom_42 ?_
  refine qs_9_5 C hi tw_178 dX10_copyFrom_45 ?_
  refine q_aload_n C 0 dX10_copyFrom_48 rfl rfl ?_
  refine q_aload_n C 1 dX10_copyFrom_49 rfl rfl ?_
  refine qg_9_6 C ha1 tw_182 dX10_copyFrom_50 ?_
  refine qs_9_6 C hi tw_182 dX10_copyFrom_53 ?_
  refine q_iconst (v := 0) C dX10_copyFrom_56 (by decide) ?_
  refine q_istore_n C [(2, .int 0), (0, .ref (ad (i))), (1, .ref (ad (a1)))] dX10_copyFrom_57 rfl (by decide) rfl ?_
  obtain ⟨o3, h4, hF⟩ := bnd hF
  try dsimp only at hF
  refine q_sub [1, 2, 0] rfl ?_
  refine l_X10_copyFrom_58 C ⟨Nat.le_of_ble_eq_true rfl, Nat.le_of_ble_eq_true rfl⟩ hi ha1 o3 ?_ n _ _ h4
  refine q_aload_n C 1 dX10_copyFrom_118 rfl rfl ?_
  refine qg_9_11 C ha1 tw_199 dX10_copyFrom_119 ?_
  refine q_iconst (v := 0) C dX10_copyFrom_122 (by decide) ?_
  refine q_aload_n C 0 dX10_copyFrom_123 rfl rfl ?_
  refine qg_9_11 C hi tw_199 dX10_copyFrom_124 ?_
  refine q_iconst (v := 0) C dX10_copyFrom_127 (by decide) ?_
  refine q_bipush (v := 36) C dX10_copyFrom_128 (by decide) ?_
  refine q_copy C (pkW ha1).2.2.2.2 (pkW hi).2.2.2.2 tw_539 (by decide) (by decide) (by decide) (by decide) (by decide) ⟨Nat.le_of_ble_eq_true rfl, Nat.le_of_ble_eq_true rfl⟩ dX10_copyFrom_130 ?_
  exact q_vret C hr hlk dX10_copyFrom_133 hF
-- X0_keep
def F_X0_keep (n : Nat) (a1 : Nat) (σ : PS) : Option (PS) := (if 0 ≤ (σ.1 94 2) ∧ (σ.1 94 2).toNatClampNeg < 20 then (F_X10_copyFrom n (96 + 6 * (σ.1 94 2).toNatClampNeg) a1 σ).bind (fun q2 => some (psI (psI q2 94 2 (((q2.1 94 2) + (1 : Int32)) - ((q2.1 94 2) + (1 : Int32)) / (20 : Int32) * (20 : Int32))) 94 0 (if (20 : Int32) < (((psI q2 94 2 (((q2.1 94 2) + (1 : Int32)) - ((q2.1 94 2) + (1 : Int32)) / (20 : Int32) * (20 : Int32))).1 94 0) + (1 : Int32)) then (20 : Int32) else (((psI q2 94 2 (((q2.1 94 2) + (1 : Int32)) - ((q2.1 94 2) + (1 : Int32)) / (20 : Int32) * (20 : Int32))).1 94 0) + (1 : Int32))))) else none)
theorem gm_X0_keep : gM "AskedCamp$Acts" yX0_keep (Cond.code yX0_keep cX0_keep 2 (Option.none : Option Jvm.ClassFile.FieldType)) 1 := ⟨by decide +kernel, tw_710, tw_711, tw_8, tw_712⟩
set_option maxHeartbeats 4000000 in
set_option maxRecDepth 100000 in
theorem c_X0_keep (l : Launch) (D : va_G) (ad : Nat → Nat) (ca : Nat → ClassId) (kz : Nat → Nat) (hJ : pInj ad) (n : Nat) {a1 : Nat} (ha1 : pis a1 9) (σ : PS) (out : PS) (hF : F_X0_keep n a1 σ = some out) : Met l yX0_keep (Cond.code yX0_keep cX0_keep 2 (Option.none : Option Jvm.ClassFile.FieldType) :: gw_tbl) { frames := 2, cells := 0, slots := 0, locals := 102 } (va_Pc [.ref (ad (94)), .ref (ad (a1))] (pU D ad ca kz σ)) (pQv D ad ca out) 0 0 (pAD ad) := by
  refine q_entry (own := "AskedCamp$Acts") hJ (by decide) rfl (Nat.le_of_ble_eq_true rfl) (fun p e s m below meth c C hr hlk => ?_)
  refine q_lv [(0, .ref (ad (94))), (1, .ref (ad (a1)))] rfl ?_
  rw [F_X0_keep] at hF
  refine q_aload_n C 0 dX0_keep_0 rfl rfl ?_
  refine qg_0_1 C pi_94 tw_276 dX0_keep_1 ?_
  refine q_aload_n C 0 dX0_keep_4 rfl rfl ?_
  refine qg_0_2 C pi_94 tw_277 dX0_keep_5 ?_
  obtain ⟨g1, hF⟩ := grd hF
  refine q_aald24 C pa_95 (vp_of g1) dX0_keep_8 ?_
  refine q_aload_n C 1 dX0_keep_9 rfl rfl ?_
  obtain ⟨q2, h3, hF⟩ := bnd hF
  try dsimp only at hF
  refine q_callVv C [.ref (ad (a1))] (c_X10_copyFrom l D ad ca kz C.2.2.2.2.2.2.1 _ (pk24 (vp_lt (vp_of g1))) ha1 _ _ h3) tw_713 gm_X10_copyFrom (pk24 (vp_lt (vp_of g1))).1 (pe_9 (pk24 (vp_lt (vp_of g1))).2) rfl ⟨rfl, rfl⟩ ⟨Nat.le_of_ble_eq_true rfl, Nat.le_of_ble_eq_true rfl⟩ rfl (Nat.le_of_ble_eq_true rfl) dX0_keep_10 q00 ?_
  refine q_aload_n C 0 dX0_keep_13 rfl rfl ?_
  refine q_aload_n C 0 dX0_keep_14 rfl rfl ?_
  refine qg_0_2 C pi_94 tw_277 dX0_keep_15 ?_
  refine q_iconst (v := 1) C dX0_keep_18 (by decide) ?_
  refine q_iadd C dX0_keep_19 ?_
  refine q_bipush (v := 20) C dX0_keep_20 (by decide) ?_
  refine q_irem C dX0_keep_22 (by decide) ?_
  refine qs_0_2 C pi_94 tw_277 dX0_keep_23 ?_
  refine q_aload_n C 0 dX0_keep_26 rfl rfl ?_
  refine q_aload_n C 0 dX0_keep_27 rfl rfl ?_
  refine qg_0_0 C pi_94 tw_274 dX0_keep_28 ?_
  refine q_iconst (v := 1) C dX0_keep_31 (by decide) ?_
  refine q_iadd C dX0_keep_32 ?_
  refine q_bipush (v := 20) C dX0_keep_33 (by decide) ?_
  refine q_mmin C tw_714 ⟨Nat.le_of_ble_eq_true rfl, Nat.le_of_ble_eq_true rfl⟩ dX0_keep_35 ?_
  refine qs_0_0 C pi_94 tw_274 dX0_keep_38 ?_
  exact q_vret C hr hlk dX0_keep_41 hF
-- X0_takeBack
def F_X0_takeBack (n : Nat) (a1 : Nat) (σ : PS) : Option (PS) := (if (σ.1 94 0) ≤ 0 then some σ else (if 0 ≤ ((psI σ 94 2 ((((σ.1 94 2) + (20 : Int32)) - (1 : Int32)) - (((σ.1 94 2) + (20 : Int32)) - (1 : Int32)) / (20 : Int32) * (20 : Int32))).1 94 2) ∧ ((psI σ 94 2 ((((σ.1 94 2) + (20 : Int32)) - (1 : Int32)) - (((σ.1 94 2) + (20 : Int32)) - (1 : Int32)) / (20 : Int32) * (20 : Int32))).1 94 2).toNatClampNeg < 20 then (F_X10_copyFrom n a1 (96 + 6 * ((psI σ 94 2 ((((σ.1 94 2) + (20 : Int32)) - (1 : Int32)) - (((σ.1 94 2) + (20 : Int32)) - (1 : Int32)) / (20 : Int32) * (20 : Int32))).1 94 2).toNatClampNeg) (psI σ 94 2 ((((σ.1 94 2) + (20 : Int32)) - (1 : Int32)) - (((σ.1 94 2) + (20 : Int32)) - (1 : Int32)) / (20 : Int32) * (20 : Int32)))).bind (fun q3 => some (psI q3 94 0 ((q3.1 94 0) - (1 : Int32)))) else none))
theorem gm_X0_takeBack : gM "AskedCamp$Acts" yX0_takeBack (Cond.code yX0_takeBack cX0_takeBack 2 (Option.none : Option Jvm.ClassFile.FieldType)) 1 := ⟨by decide +kernel, tw_832, tw_833, tw_8, tw_834⟩
set_option maxHeartbeats 4000000 in
set_option maxRecDepth 100000 in
theorem c_X0_takeBack (l : Launch) (D : va_G) (ad : Nat → Nat) (ca : Nat → ClassId) (kz : Nat → Nat) (hJ : pInj ad) (n : Nat) {a1 : Nat} (ha1 : pis a1 9) (σ : PS) (out : PS) (hF : F_X0_takeBack n a1 σ = some out) : Met l yX0_takeBack (Cond.code yX0_takeBack cX0_takeBack 2 (Option.none : Option Jvm.ClassFile.FieldType) :: gw_tbl) { frames := 2, cells := 0, slots := 0, locals := 102 } (va_Pc [.ref (ad (94)), .ref (ad (a1))] (pU D ad ca kz σ)) (pQv D ad ca out) 0 0 (pAD ad) := by
  refine q_entry (own := "AskedCamp$Acts") hJ (by decide) rfl (Nat.le_of_ble_eq_true rfl) (fun p e s m below meth c C hr hlk => ?_)
  refine q_lv [(0, .ref (ad (94))), (1, .ref (ad (a1)))] rfl ?_
  rw [F_X0_takeBack] at hF
  refine q_aload_n C 0 dX0_takeBack_0 rfl rfl ?_
  refine qg_0_0 C pi_94 tw_274 dX0_takeBack_1 ?_
  refine q_if_le (tgt := 46) C dX0_takeBack_4 (by decide) (fun c1 => ?_) (fun c1 => ?_)
  · replace hF := ift c1 hF
    exact q_vret C hr hlk dX0_takeBack_46 hF
  · replace hF := ife c1 hF
    refine q_aload_n C 0 dX0_takeBack_7 rfl rfl ?_
    refine q_aload_n C 0 dX0_takeBack_8 rfl rfl ?_
    refine qg_0_2 C pi_94 tw_277 dX0_takeBack_9 ?_
    refine q_bipush (v := 20) C dX0_takeBack_12 (by decide) ?_
    refine q_iadd C dX0_takeBack_14 ?_
    refine q_iconst (v := 1) C dX0_takeBack_15 (by decide) ?_
    refine q_isub C dX0_takeBack_16 ?_
    refine q_bipush (v := 20) C dX0_takeBack_17 (by decide) ?_
    refine q_irem C dX0_takeBack_19 (by decide) ?_
    refine qs_0_2 C pi_94 tw_277 dX0_takeBack_20 ?_
    refine q_aload_n C 1 dX0_takeBack_23 rfl rfl ?_
    refine q_aload_n C 0 dX0_takeBack_24 rfl rfl ?_
    refine qg_0_1 C pi_94 tw_276 dX0_takeBack_25 ?_
    refine q_aload_n C 0 dX0_takeBack_28 rfl rfl ?_
    refine qg_0_2 C pi_94 tw_277 dX0_takeBack_29 ?_
    obtain ⟨g2, hF⟩ := grd hF
    refine q_aald24 C pa_95 (vp_of g2) dX0_takeBack_32 ?_
    obtain ⟨q3, h4, hF⟩ := bnd hF
    try dsimp only at hF
    refine q_callVv C [.ref (ad (96 + 6 * ((psI σ 94 2 ((((σ.1 94 2) + (20 : Int32)) - (1 : Int32)) - (((σ.1 94 2) + (20 : Int32)) - (1 : Int32)) / (20 : Int32) * (20 : Int32))).1 94 2).toNatClampNeg))] (c_X10_copyFrom l D ad ca kz C.2.2.2.2.2.2.1 _ ha1 (pk24 (vp_lt (vp_of g2))) _ _ h4) tw_713 gm_X10_copyFrom ha1.1 (pe_9 ha1.2) rfl ⟨rfl, rfl⟩ ⟨Nat.le_of_ble_eq_true rfl, Nat.le_of_ble_eq_true rfl⟩ rfl (Nat.le_of_ble_eq_true rfl) dX0_takeBack_33 q00 ?_
    refine q_aload_n C 0 dX0_takeBack_36 rfl rfl ?_
    refine q_dup C dX0_takeBack_37 rfl ?_
    refine qg_0_0 C pi_94 tw_274 dX0_takeBack_38 ?_
    refine q_iconst (v := 1) C dX0_takeBack_41 (by decide) ?_
    refine q_isub C dX0_takeBack_42 ?_
    refine qs_0_0 C pi_94 tw_274 dX0_takeBack_43 ?_
    exact q_vret C hr hlk dX0_takeBack_46 hF
-- X10_addTent
def F_X10_addTent (n : Nat) (i : Nat) (a1 : Int32) (a2 : Int32) (σ : PS) : Option (PS) := (if (6 : Int32) ≤ (σ.1 i 5) then some σ else (if 0 ≤ (σ.1 i 5) ∧ (σ.1 i 5).toNatClampNeg < 6 then (if 0 ≤ ((psI σ (i + 1) ((σ.1 i 5).toNatClampNeg) a1).1 i 5) ∧ ((psI σ (i + 1) ((σ.1 i 5).toNatClampNeg) a1).1 i 5).toNatClampNeg < 6 then (if 0 ≤ ((psI (psI σ (i + 1) ((σ.1 i 5).toNatClampNeg) a1) (i + 2) (((psI σ (i + 1) ((σ.1 i 5).toNatClampNeg) a1).1 i 5).toNatClampNeg) a2).1 i 5) ∧ ((psI (psI σ (i + 1) ((σ.1 i 5).toNatClampNeg) a1) (i + 2) (((psI σ (i + 1) ((σ.1 i 5).toNatClampNeg) a1).1 i 5).toNatClampNeg) a2).1 i 5).toNatClampNeg < 6 then (if 0 ≤ ((psI (psI (psI σ (i + 1) ((σ.1 i 5).toNatClampNeg) a1) (i + 2) (((psI σ (i + 1) ((σ.1 i 5).toNatClampNeg) a1).1 i 5).toNatClampNeg) a2) (i + 3) (((psI (psI σ (i + 1) ((σ.1 i 5).toNatClampNeg) a1) (i + 2) (((psI σ (i + 1) ((σ.1 i 5).toNatClampNeg) a1).1 i 5).toNatClampNeg) a2).1 i 5).toNatClampNeg) (0 : Int32)).1 i 5) ∧ ((psI (psI (psI σ (i + 1) ((σ.1 i 5).toNatClampNeg) a1) (i + 2) (((psI σ (i + 1) ((σ.1 i 5).toNatClampNeg) a1).1 i 5).toNatClampNeg) a2) (i + 3) (((psI (psI σ (i + 1) ((σ.1 i 5).toNatClampNeg) a1) (i + 2) (((psI σ (i + 1) ((σ.1 i 5).toNatClampNeg) a1).1 i 5).toNatClampNeg) a2).1 i 5).toNatClampNeg) (0 : Int32)).1 i 5).toNatClampNeg < 6 then some (psI (psI (psI (psI (psI σ (i + 1) ((σ.1 i 5).toNatClampNeg) a1) (i + 2) (((psI σ (i + 1) ((σ.1 i 5).toNatClampNeg) a1).1 i 5).toNatClampNeg) a2) (i + 3) (((psI (psI σ (i + 1) ((σ.1 i 5).toNatClampNeg) a1) (i + 2) (((psI σ (i + 1) ((σ.1 i 5).toNatClampNeg) a1).1 i 5).toNatClampNeg) a2).1 i 5).toNatClampNeg) (0 : Int32)) (i + 4) (((psI (psI (psI σ (i + 1) ((σ.1 i 5).toNatClampNeg) a1) (i + 2) (((psI σ (i + 1) ((σ.1 i 5).toNatClampNeg) a1).1 i 5).toNatClampNeg) a2) (i + 3) (((psI (psI σ (i + 1) ((σ.1 i 5).toNatClampNeg) a1) (i + 2) (((psI σ (i + 1) ((σ.1 i 5).toNatClampNeg) a1).1 i 5).toNatClampNeg) a2).1 i 5).toNatClampNeg) (0 : Int32)).1 i 5).toNatClampNeg) ((1 : Int32) <<< (((psI (psI (psI σ (i + 1) ((σ.1 i 5).toNatClampNeg) a1) (i + 2) (((psI σ (i + 1) ((σ.1 i 5).toNatClampNeg) a1).1 i 5).toNatClampNeg) a2) (i + 3) (((psI (psI σ (i + 1) ((σ.1 i 5).toNatClampNeg) a1) (i + 2) (((psI σ (i + 1) ((σ.1 i 5).toNatClampNeg) a1).1 i 5).toNatClampNeg) a2).1 i 5).toNatClampNeg) (0 : Int32)).1 i 5) &&& 31))) i 5 (((psI (psI (psI (psI σ (i + 1) ((σ.1 i 5).toNatClampNeg) a1) (i + 2) (((psI σ (i + 1) ((σ.1 i 5).toNatClampNeg) a1).1 i 5).toNatClampNeg) a2) (i + 3) (((psI (psI σ (i + 1) ((σ.1 i 5).toNatClampNeg) a1) (i + 2) (((psI σ (i + 1) ((σ.1 i 5).toNatClampNeg) a1).1 i 5).toNatClampNeg) a2).1 i 5).toNatClampNeg) (0 : Int32)) (i + 4) (((psI (psI (psI σ (i + 1) ((σ.1 i 5).toNatClampNeg) a1) (i + 2) (((psI σ (i + 1) ((σ.1 i 5).toNatClampNeg) a1).1 i 5).toNatClampNeg) a2) (i + 3) (((psI (psI σ (i + 1) ((σ.1 i 5).toNatClampNeg) a1) (i + 2) (((psI σ (i + 1) ((σ.1 i 5).toNatClampNeg) a1).1 i 5).toNatClampNeg) a2).1 i 5).toNatClampNeg) (0 : Int32)).1 i 5).toNatClampNeg) ((1 : Int32) <<< (((psI (psI (psI σ (i + 1) ((σ.1 i 5).toNatClampNeg) a1) (i + 2) (((psI σ (i + 1) ((σ.1 i 5).toNatClampNeg) a1).1 i 5).toNatClampNeg) a2) (i + 3) (((psI (psI σ (i + 1) ((σ.1 i 5).toNatClampNeg) a1) (i + 2) (((psI σ (i + 1) ((σ.1 i 5).toNatClampNeg) a1).1 i 5).toNatClampNeg) a2).1 i 5).toNatClampNeg) (0 : Int32)).1 i 5) &&& 31))).1 i 5) + (1 : Int32))) else none) else none) else none) else none))
theorem gm_X10_addTent : gM "AskedCamp$World" yX10_addTent (Cond.code yX10_addTent cX10_addTent 3 (Option.none : Option Jvm.ClassFile.FieldType)) 2 := ⟨by decide +kernel, tw_528, tw_529, tw_7, tw_530⟩
set_option maxHeartbeats 4000000 in
set_option maxRecDepth 100000 in
theorem c_X10_addTent (l : Launch) (D : va_G) (ad : Nat → Nat) (ca : Nat → ClassId) (kz : Nat → Nat) (hJ : pInj ad) (n : Nat) {i : Nat} (hi : pis i 9) (a1 : Int32) (a2 : Int32) (σ : PS) (out : PS) (hF : F_X10_addTent n i a1 a2 σ = some out) : Met l yX10_addTent (Cond.code yX10_addTent cX10_addTent 3 (Option.none : Option Jvm.ClassFile.FieldType) :: gw_tbl) { frames := 0, cells := 0, slots := 0, locals := 0 } (va_Pc [.ref (ad (i)), .int a1, .int a2] (pU D ad ca kz σ)) (pQv D ad ca out) 0 0 (pAD ad) := by
  refine q_entry (own := "AskedCamp$World") hJ (by decide) rfl (Nat.le_of_ble_eq_true rfl) (fun p e s m below meth c C hr hlk => ?_)
  refine q_lv [(0, .ref (ad (i))), (1, .int a1), (2, .int a2)] rfl ?_
  rw [F_X10_addTent] at hF
  refine q_aload_n C 0 dX10_addTent_0 rfl rfl ?_
  refine qg_9_5 C hi tw_178 dX10_addTent_1 ?_
  refine q_bipush (v := 6) C dX10_addTent_4 (by decide) ?_
  refine q_icmp_ge (tgt := 64) C dX10_addTent_6 (by decide) (fun c1 => ?_) (fun c1 => ?_)
  · replace hF := ift c1 hF
    exact q_vret C hr hlk dX10_addTent_64 hF
  · replace hF := ife c1 hF
    refine q_aload_n C 0 dX10_addTent_9 rfl rfl ?_
    refine qg_9_7 C hi tw_187 dX10_addTent_10 ?_
    refine q_aload_n C 0 dX10_addTent_13 rfl rfl ?_
    refine qg_9_5 C hi tw_178 dX10_addTent_14 ?_
    refine q_iload_n C 1 dX10_addTent_17 rfl rfl ?_
    obtain ⟨g2, hF⟩ := grd hF
    refine q_iast C (pkW hi).1 (vp_of g2) dX10_addTent_18 ?_
    refine q_aload_n C 0 dX10_addTent_19 rfl rfl ?_
    refine qg_9_8 C hi tw_191 dX10_addTent_20 ?_
    refine q_aload_n C 0 dX10_addTent_23 rfl rfl ?_
    refine qg_9_5 C hi tw_178 dX10_addTent_24 ?_
    refine q_iload_n C 2 dX10_addTent_27 rfl rfl ?_
    obtain ⟨g3, hF⟩ := grd hF
    refine q_iast C (pkW hi).2.1 (vp_of g3) dX10_addTent_28 ?_
    refine q_aload_n C 0 dX10_addTent_29 rfl rfl ?_
    refine qg_9_9 C hi tw_193 dX10_addTent_30 ?_
    refine q_aload_n C 0 dX10_addTent_33 rfl rfl ?_
    refine qg_9_5 C hi tw_178 dX10_addTent_34 ?_
    refine q_iconst (v := 0) C dX10_addTent_37 (by decide) ?_
    obtain ⟨g4, hF⟩ := grd hF
    refine q_iast C (pkW hi).2.2.1 (vp_of g4) dX10_addTent_38 ?_
    refine q_aload_n C 0 dX10_addTent_39 rfl rfl ?_
    refine qg_9_10 C hi tw_196 dX10_addTent_40 ?_
    refine q_aload_n C 0 dX10_addTent_43 rfl rfl ?_
    refine qg_9_5 C hi tw_178 dX10_addTent_44 ?_
    refine q_iconst (v := 1) C dX10_addTent_47 (by decide) ?_
    refine q_aload_n C 0 dX10_addTent_48 rfl rfl ?_
    refine qg_9_5 C hi tw_178 dX10_addTent_49 ?_
    refine q_ishl C dX10_addTent_52 ?_
    obtain ⟨g5, hF⟩ := grd hF
    refine q_iast C (pkW hi).2.2.2.1 (vp_of g5) dX10_addTent_53 ?_
    refine q_aload_n C 0 dX10_addTent_54 rfl rfl ?_
    refine q_dup C dX10_addTent_55 rfl ?_
    refine qg_9_5 C hi tw_178 dX10_addTent_56 ?_
    refine q_iconst (v := 1) C dX10_addTent_59 (by decide) ?_
    refine q_iadd C dX10_addTent_60 ?_
    refine qs_9_5 C hi tw_178 dX10_addTent_61 ?_
    exact q_vret C hr hlk dX10_addTent_64 hF
-- X10_askWhoIsHere
def L_X10_askWhoIsHere_2 (n : Nat) (i : Nat) : Nat → Int32 → PS → Option (PS)
  | 0, _, _ => none
  | k + 1, x1, σ => (if (σ.1 i 5) ≤ x1 then some σ else (if 0 ≤ x1 ∧ x1.toNatClampNeg < 6 then (if (σ.1 (i + 1) x1.toNatClampNeg) = (σ.1 i 2) then L_X10_askWhoIsHere_2 n i k (x1 + 1) (psI (psI (psI (psI σ (i + 3) x1.toNatClampNeg ((σ.1 (i + 3) x1.toNatClampNeg) + (1 : Int32))) (i + 2) x1.toNatClampNeg (if (((psI σ (i + 3) x1.toNatClampNeg ((σ.1 (i + 3) x1.toNatClampNeg) + (1 : Int32))).1 (i + 2) x1.toNatClampNeg) - (1 : Int32)) < (0 : Int32) then (0 : Int32) else (((psI σ (i + 3) x1.toNatClampNeg ((σ.1 (i + 3) x1.toNatClampNeg) + (1 : Int32))).1 (i + 2) x1.toNatClampNeg) - (1 : Int32)))) i 4 (((psI (psI σ (i + 3) x1.toNatClampNeg ((σ.1 (i + 3) x1.toNatClampNeg) + (1 : Int32))) (i + 2) x1.toNatClampNeg (if (((psI σ (i + 3) x1.toNatClampNeg ((σ.1 (i + 3) x1.toNatClampNeg) + (1 : Int32))).1 (i + 2) x1.toNatClampNeg) - (1 : Int32)) < (0 : Int32) then (0 : Int32) else (((psI σ (i + 3) x1.toNatClampNeg ((σ.1 (i + 3) x1.toNatClampNeg) + (1 : Int32))).1 (i + 2) x1.toNatClampNeg) - (1 : Int32)))).1 i 4) ||| ((psI (psI σ (i + 3) x1.toNatClampNeg ((σ.1 (i + 3) x1.toNatClampNeg) + (1 : Int32))) (i + 2) x1.toNatClampNeg (if (((psI σ (i + 3) x1.toNatClampNeg ((σ.1 (i + 3) x1.toNatClampNeg) + (1 : Int32))).1 (i + 2) x1.toNatClampNeg) - (1 : Int32)) < (0 : Int32) then (0 : Int32) else (((psI σ (i + 3) x1.toNatClampNeg ((σ.1 (i + 3) x1.toNatClampNeg) + (1 : Int32))).1 (i + 2) x1.toNatClampNeg) - (1 : Int32)))).1 (i + 4) x1.toNatClampNeg))) (i + 4) x1.toNatClampNeg (((psI (psI (psI σ (i + 3) x1.toNatClampNeg ((σ.1 (i + 3) x1.toNatClampNeg) + (1 : Int32))) (i + 2) x1.toNatClampNeg (if (((psI σ (i + 3) x1.toNatClampNeg ((σ.1 (i + 3) x1.toNatClampNeg) + (1 : Int32))).1 (i + 2) x1.toNatClampNeg) - (1 : Int32)) < (0 : Int32) then (0 : Int32) else (((psI σ (i + 3) x1.toNatClampNeg ((σ.1 (i + 3) x1.toNatClampNeg) + (1 : Int32))).1 (i + 2) x1.toNatClampNeg) - (1 : Int32)))) i 4 (((psI (psI σ (i + 3) x1.toNatClampNeg ((σ.1 (i + 3) x1.toNatClampNeg) + (1 : Int32))) (i + 2) x1.toNatClampNeg (if (((psI σ (i + 3) x1.toNatClampNeg ((σ.1 (i + 3) x1.toNatClampNeg) + (1 : Int32))).1 (i + 2) x1.toNatClampNeg) - (1 : Int32)) < (0 : Int32) then (0 : Int32) else (((psI σ (i + 3) x1.toNatClampNeg ((σ.1 (i + 3) x1.toNatClampNeg) + (1 : Int32))).1 (i + 2) x1.toNatClampNeg) - (1 : Int32)))).1 i 4) ||| ((psI (psI σ (i + 3) x1.toNatClampNeg ((σ.1 (i + 3) x1.toNatClampNeg) + (1 : Int32))) (i + 2) x1.toNatClampNeg (if (((psI σ (i + 3) x1.toNatClampNeg ((σ.1 (i + 3) x1.toNatClampNeg) + (1 : Int32))).1 (i + 2) x1.toNatClampNeg) - (1 : Int32)) < (0 : Int32) then (0 : Int32) else (((psI σ (i + 3) x1.toNatClampNeg ((σ.1 (i + 3) x1.toNatClampNeg) + (1 : Int32))).1 (i + 2) x1.toNatClampNeg) - (1 : Int32)))).1 (i + 4) x1.toNatClampNeg))).1 (i + 4) x1.toNatClampNeg) ||| ((psI (psI (psI σ (i + 3) x1.toNatClampNeg ((σ.1 (i + 3) x1.toNatClampNeg) + (1 : Int32))) (i + 2) x1.toNatClampNeg (if (((psI σ (i + 3) x1.toNatClampNeg ((σ.1 (i + 3) x1.toNatClampNeg) + (1 : Int32))).1 (i + 2) x1.toNatClampNeg) - (1 : Int32)) < (0 : Int32) then (0 : Int32) else (((psI σ (i + 3) x1.toNatClampNeg ((σ.1 (i + 3) x1.toNatClampNeg) + (1 : Int32))).1 (i + 2) x1.toNatClampNeg) - (1 : Int32)))) i 4 (((psI (psI σ (i + 3) x1.toNatClampNeg ((σ.1 (i + 3) x1.toNatClampNeg) + (1 : Int32))) (i + 2) x1.toNatClampNeg (if (((psI σ (i + 3) x1.toNatClampNeg ((σ.1 (i + 3) x1.toNatClampNeg) + (1 : Int32))).1 (i + 2) x1.toNatClampNeg) - (1 : Int32)) < (0 : Int32) then (0 : Int32) else (((psI σ (i + 3) x1.toNatClampNeg ((σ.1 (i + 3) x1.toNatClampNeg) + (1 : Int32))).1 (i + 2) x1.toNatClampNeg) - (1 : Int32)))).1 i 4) ||| ((psI (psI σ (i + 3) x1.toNatClampNeg ((σ.1 (i + 3) x1.toNatClampNeg) + (1 : Int32))) (i + 2) x1.toNatClampNeg (if (((psI σ (i + 3) x1.toNatClampNeg ((σ.1 (i + 3) x1.toNatClampNeg) + (1 : Int32))).1 (i + 2) x1.toNatClampNeg) - (1 : Int32)) < (0 : Int32) then (0 : Int32) else (((psI σ (i + 3) x1.toNatClampNeg ((σ.1 (i + 3) x1.toNatClampNeg) + (1 : Int32))).1 (i + 2) x1.toNatClampNeg) - (1 : Int32)))).1 (i + 4) x1.toNatClampNeg))).1 i 4))) else L_X10_askWhoIsHere_2 n i k (x1 + 1) σ) else none))
def F_X10_askWhoIsHere (n : Nat) (i : Nat) (σ : PS) : Option (PS) := (L_X10_askWhoIsHere_2 n i n (0 : Int32) σ).bind (fun o4 => some o4)
theorem gm_X10_askWhoIsHere : gM "AskedCamp$World" yX10_askWhoIsHere (Cond.code yX10_askWhoIsHere cX10_askWhoIsHere 2 (Option.none : Option Jvm.ClassFile.FieldType)) 0 := ⟨by decide +kernel, tw_805, tw_806, tw_7, tw_807⟩
set_option maxHeartbeats 4000000 in
set_option maxRecDepth 100000 in
theorem l_X10_askWhoIsHere_2 {p : Program} {l : Launch} {e : Env} {R : Room} {s : State} {m : MethodId} {args : Array Value} {below : List Frame} {meth : Method} {c : Code} {D : va_G} {ad : Nat → Nat} {ca : Nat → ClassId} {kz : Nat → Nat} {Q : State → Prop} (C : pC p s m args c cX10_askWhoIsHere "AskedCamp$World" 2 D ad ca kz) (hR : 1 ≤ R.frames ∧ 24 ≤ R.locals) {n : Nat} {i : Nat} (hi : pis i 9) (o : PS) (hx0 : PW p l e R s m args below meth c 2 D ad ca 0 0 Q (o) 85 [] []) : ∀ (k : Nat) (x1 : Int32) (σ : PS), L_X10_askWhoIsHere_2 n i k x1 σ = some o → PW p l e R s m args below meth c 2 D ad ca 0 0 Q σ 2 [(0, .ref (ad (i))), (1, .int x1)] [] := by
  intro k
  induction k with
  | zero => intro x1 σ hF; exact nomatch (show (none : Option (PS)) = some o from hF)
  | succ k ih =>
    intro x1 σ hF
    rw [L_X10_askWhoIsHere_2] at hF
    refine q_iload_n C 1 dX10_askWhoIsHere_2 rfl rfl ?_
    refine q_aload_n C 0 dX10_askWhoIsHere_3 rfl rfl ?_
    refine qg_9_5 C hi tw_178 dX10_askWhoIsHere_4 ?_
    refine q_icmp_ge (tgt := 85) C dX10_askWhoIsHere_7 (by decide) (fun c1 => ?_) (fun c1 => ?_)
    · replace hF := ift c1 hF
      cases hF
      refine q_sub [] rfl ?_
      exact hx0
    · replace hF := ife c1 hF
      refine q_aload_n C 0 dX10_askWhoIsHere_10 rfl rfl ?_
      refine qg_9_7 C hi tw_187 dX10_askWhoIsHere_11 ?_
      refine q_iload_n C 1 dX10_askWhoIsHere_14 rfl rfl ?_
      obtain ⟨g2, hF⟩ := grd hF
      refine q_iald C (pkW hi).1 (vp_of g2) dX10_askWhoIsHere_15 ?_
      refine q_aload_n C 0 dX10_askWhoIsHere_16 rfl rfl ?_
      refine qg_9_2 C hi tw_163 dX10_askWhoIsHere_17 ?_
      refine q_icmp_ne (tgt := 79) C dX10_askWhoIsHere_20 (by decide) (fun c3 => ?_) (fun c3 => ?_)
      · replace hF := ife c3 hF
        refine q_iinc C 1 [(1, .int (x1 + 1)), (0, .ref (ad (i)))] dX10_askWhoIsHere_79 rfl rfl (by decide) rfl ?_
        refine q_goto (tgt := 2) C dX10_askWhoIsHere_82 (by decide) ?_
        refine q_sub [1, 0] rfl ?_
        exact ih _ _ hF
      · replace hF := ift c3 hF
        refine q_aload_n C 0 dX10_askWhoIsHere_23 rfl rfl ?_
        refine qg_9_9 C hi tw_193 dX10_askWhoIsHere_24 ?_
        refine q_iload_n C 1 dX10_askWhoIsHere_27 rfl rfl ?_
        refine q_dup2 C dX10_askWhoIsHere_28 rfl rfl ?_
        refine q_iald C (pkW hi).2.2.1 (vp_of g2) dX10_askWhoIsHere_29 ?_
        refine q_iconst (v := 1) C dX10_askWhoIsHere_30 (by decide) ?_
        refine q_iadd C dX10_askWhoIsHere_31 ?_
        refine q_iast C (pkW hi).2.2.1 (vp_of g2) dX10_askWhoIsHere_32 ?_
        refine q_aload_n C 0 dX10_askWhoIsHere_33 rfl rfl ?_
        refine qg_9_8 C hi tw_191 dX10_askWhoIsHere_34 ?_
        refine q_iload_n C 1 dX10_askWhoIsHere_37 rfl rfl ?_
        refine q_aload_n C 0 dX10_askWhoIsHere_38 rfl rfl ?_
        refine qg_9_8 C hi tw_191 dX10_askWhoIsHere_39 ?_
        refine q_iload_n C 1 dX10_askWhoIsHere_42 rfl rfl ?_
        refine q_iald C (pkW hi).2.1 (vp_of g2) dX10_askWhoIsHere_43 ?_
        refine q_iconst (v := 1) C dX10_askWhoIsHere_44 (by decide) ?_
        refine q_isub C dX10_askWhoIsHere_45 ?_
        refine q_iconst (v := 0) C dX10_askWhoIsHere_46 (by decide) ?_
        refine q_mmax C tw_808 ⟨Nat.le_trans (Nat.le_of_ble_eq_true rfl) hR.1, Nat.le_trans (Nat.le_of_ble_eq_true rfl) hR.2⟩ dX10_askWhoIsHere_47 ?_
        refine q_iast C (pkW hi).2.1 (vp_of g2) dX10_askWhoIsHere_50 ?_
        refine q_aload_n C 0 dX10_askWhoIsHere_51 rfl rfl ?_
        refine q_dup C dX10_askWhoIsHere_52 rfl ?_
        refine qg_9_4 C hi tw_174 dX10_askWhoIsHere_53 ?_
        refine q_aload_n C 0 dX10_askWhoIsHere_56 rfl rfl ?_
        refine qg_9_10 C hi tw_196 dX10_askWhoIsHere_57 ?_
        refine q_iload_n C 1 dX10_askWhoIsHere_60 rfl rfl ?_
        refine q_iald C (pkW hi).2.2.2.1 (vp_of g2) dX10_askWhoIsHere_61 ?_
        refine q_ior C dX10_askWhoIsHere_62 ?_
        refine qs_9_4 C hi tw_174 dX10_askWhoIsHere_63 ?_
        refine q_aload_n C 0 dX10_askWhoIsHere_66 rfl rfl ?_
        refine qg_9_10 C hi tw_196 dX10_askWhoIsHere_67 ?_
        refine q_iload_n C 1 dX10_askWhoIsHere_70 rfl rfl ?_
        refine q_dup2 C dX10_askWhoIsHere_71 rfl rfl ?_
        refine q_iald C (pkW hi).2.2.2.1 (vp_of g2) dX10_askWhoIsHere_72 ?_
        refine q_aload_n C 0 dX10_askWhoIsHere_73 rfl rfl ?_
        refine qg_9_4 C hi tw_174 dX10_askWhoIsHere_74 ?_
        refine q_ior C dX10_askWhoIsHere_77 ?_
        refine q_iast C (pkW hi).2.2.2.1 (vp_of g2) dX10_askWhoIsHere_78 ?_
        refine q_iinc C 1 [(1, .int (x1 + 1)), (0, .ref (ad (i)))] dX10_askWhoIsHere_79 rfl rfl (by decide) rfl ?_
        refine q_goto (tgt := 2) C dX10_askWhoIsHere_82 (by decide) ?_
        refine q_sub [1, 0] rfl ?_
        exact ih _ _ hF
set_option maxHeartbeats 4000000 in
set_option maxRecDepth 100000 in
theorem c_X10_askWhoIsHere (l : Launch) (D : va_G) (ad : Nat → Nat) (ca : Nat → ClassId) (kz : Nat → Nat) (hJ : pInj ad) (n : Nat) {i : Nat} (hi : pis i 9) (σ : PS) (out : PS) (hF : F_X10_askWhoIsHere n i σ = some out) : Met l yX10_askWhoIsHere (Cond.code yX10_askWhoIsHere cX10_askWhoIsHere 2 (Option.none : Option Jvm.ClassFile.FieldType) :: gw_tbl) { frames := 1, cells := 0, slots := 0, locals := 24 } (va_Pc [.ref (ad (i))] (pU D ad ca kz σ)) (pQv D ad ca out) 0 0 (pAD ad) := by
  refine q_entry (own := "AskedCamp$World") hJ (by decide) rfl (Nat.le_of_ble_eq_true rfl) (fun p e s m below meth c C hr hlk => ?_)
  refine q_lv [(0, .ref (ad (i)))] rfl ?_
  rw [F_X10_askWhoIsHere] at hF
  refine q_iconst (v := 0) C dX10_askWhoIsHere_0 (by decide) ?_
  refine q_istore_n C [(1, .int 0), (0, .ref (ad (i)))] dX10_askWhoIsHere_1 rfl (by decide) rfl ?_
  obtain ⟨o4, h5, hF⟩ := bnd hF
  try dsimp only at hF
  refine q_sub [1, 0] rfl ?_
  refine l_X10_askWhoIsHere_2 C ⟨Nat.le_of_ble_eq_true rfl, Nat.le_of_ble_eq_true rfl⟩ hi o4 ?_ n _ _ h5
  exact q_vret C hr hlk dX10_askWhoIsHere_85 hF
-- X10_askedInAll
def L_X10_askedInAll_4 (n : Nat) (i : Nat) : Nat → Int32 → Int32 → PS → Option (Int32 × PS)
  | 0, _, _, _ => none
  | k + 1, x1, x2, σ => (if (σ.1 i 5) ≤ x2 then some (x1, σ) else (if 0 ≤ x2 ∧ x2.toNatClampNeg < 6 then L_X10_askedInAll_4 n i k (x1 + (σ.1 (i + 3) x2.toNatClampNeg)) (x2 + 1) σ else none))
def F_X10_askedInAll (n : Nat) (i : Nat) (σ : PS) : Option (Int32 × PS) := (L_X10_askedInAll_4 n i n (0 : Int32) (0 : Int32) σ).bind (fun o3 => some (o3.1, o3.2))
theorem gm_X10_askedInAll : gM "AskedCamp$World" yX10_askedInAll (Cond.code yX10_askedInAll cX10_askedInAll 3 (Option.some Jvm.ClassFile.FieldType.int)) 0 := ⟨by decide +kernel, tw_696, tw_697, tw_7, tw_698⟩
set_option maxHeartbeats 4000000 in
set_option maxRecDepth 100000 in
theorem l_X10_askedInAll_4 {p : Program} {l : Launch} {e : Env} {R : Room} {s : State} {m : MethodId} {args : Array Value} {below : List Frame} {meth : Method} {c : Code} {D : va_G} {ad : Nat → Nat} {ca : Nat → ClassId} {kz : Nat → Nat} {Q : State → Prop} (C : pC p s m args c cX10_askedInAll "AskedCamp$World" 3 D ad ca kz) (hR : 0 ≤ R.frames ∧ 0 ≤ R.locals) {n : Nat} {i : Nat} (hi : pis i 9) (o : Int32 × PS) (hx0 : PW p l e R s m args below meth c 3 D ad ca 0 0 Q (o.2) 27 [(1, .int o.1)] []) : ∀ (k : Nat) (x1 : Int32) (x2 : Int32) (σ : PS), L_X10_askedInAll_4 n i k x1 x2 σ = some o → PW p l e R s m args below meth c 3 D ad ca 0 0 Q σ 4 [(0, .ref (ad (i))), (1, .int x1), (2, .int x2)] [] := by
  intro k
  induction k with
  | zero => intro x1 x2 σ hF; exact nomatch (show (none : Option (Int32 × PS)) = some o from hF)
  | succ k ih =>
    intro x1 x2 σ hF
    rw [L_X10_askedInAll_4] at hF
    refine q_iload_n C 2 dX10_askedInAll_4 rfl rfl ?_
    refine q_aload_n C 0 dX10_askedInAll_5 rfl rfl ?_
    refine qg_9_5 C hi tw_178 dX10_askedInAll_6 ?_
    refine q_icmp_ge (tgt := 27) C dX10_askedInAll_9 (by decide) (fun c1 => ?_) (fun c1 => ?_)
    · replace hF := ift c1 hF
      cases hF
      refine q_sub [1] rfl ?_
      exact hx0
    · replace hF := ife c1 hF
      refine q_iload_n C 1 dX10_askedInAll_12 rfl rfl ?_
      refine q_aload_n C 0 dX10_askedInAll_13 rfl rfl ?_
      refine qg_9_9 C hi tw_193 dX10_askedInAll_14 ?_
      refine q_iload_n C 2 dX10_askedInAll_17 rfl rfl ?_
      obtain ⟨g2, hF⟩ := grd hF
      refine q_iald C (pkW hi).2.2.1 (vp_of g2) dX10_askedInAll_18 ?_
      refine q_iadd C dX10_askedInAll_19 ?_
      refine q_istore_n C [(1, .int (x1 + (σ.1 (i + 3) x2.toNatClampNeg))), (0, .ref (ad (i))), (2, .int x2)] dX10_askedInAll_20 rfl (by decide) rfl ?_
      refine q_iinc C 2 [(2, .int (x2 + 1)), (1, .int (x1 + (σ.1 (i + 3) x2.toNatClampNeg))), (0, .ref (ad (i)))] dX10_askedInAll_21 rfl rfl (by decide) rfl ?_
      refine q_goto (tgt := 4) C dX10_askedInAll_24 (by decide) ?_
      refine q_sub [2, 1, 0] rfl ?_
      exact ih _ _ _ hF
set_option maxHeartbeats 4000000 in
set_option maxRecDepth 100000 in
theorem c_X10_askedInAll (l : Launch) (D : va_G) (ad : Nat → Nat) (ca : Nat → ClassId) (kz : Nat → Nat) (hJ : pInj ad) (n : Nat) {i : Nat} (hi : pis i 9) (σ : PS) (out : Int32 × PS) (hF : F_X10_askedInAll n i σ = some out) : Met l yX10_askedInAll (Cond.code yX10_askedInAll cX10_askedInAll 3 (Option.some Jvm.ClassFile.FieldType.int) :: gw_tbl) { frames := 0, cells := 0, slots := 0, locals := 0 } (va_Pc [.ref (ad (i))] (pU D ad ca kz σ)) (pQi D ad ca out) 0 0 (pAD ad) := by
  refine q_entry (own := "AskedCamp$World") hJ (by decide) rfl (Nat.le_of_ble_eq_true rfl) (fun p e s m below meth c C hr hlk => ?_)
  refine q_lv [(0, .ref (ad (i)))] rfl ?_
  rw [F_X10_askedInAll] at hF
  refine q_iconst (v := 0) C dX10_askedInAll_0 (by decide) ?_
  refine q_istore_n C [(1, .int 0), (0, .ref (ad (i)))] dX10_askedInAll_1 rfl (by decide) rfl ?_
  refine q_iconst (v := 0) C dX10_askedInAll_2 (by decide) ?_
  refine q_istore_n C [(2, .int 0), (1, .int 0), (0, .ref (ad (i)))] dX10_askedInAll_3 rfl (by decide) rfl ?_
  obtain ⟨o3, h4, hF⟩ := bnd hF
  try dsimp only at hF
  refine q_sub [2, 1, 0] rfl ?_
  refine l_X10_askedInAll_4 C ⟨Nat.le_of_ble_eq_true rfl, Nat.le_of_ble_eq_true rfl⟩ hi o3 ?_ n _ _ _ h4
  refine q_iload_n C 0 dX10_askedInAll_27 rfl rfl ?_
  exact q_iret C hr hlk dX10_askedInAll_28 hF
-- X10_beside
def F_X10_beside (n : Nat) (i : Nat) (a1 : Int32) (a2 : Int32) (σ : PS) : Option (Int32 × PS) := (if (σ.1 i 0) ≤ 0 then (if a2 = (0 : Int32) then (if (0 : Int32) ≤ 0 then some ((-1 : Int32), σ) else some ((a1 - (1 : Int32)), σ)) else (if a2 = (1 : Int32) then (if ((σ.1 i 0) - (1 : Int32)) ≤ (0 : Int32) then some ((-1 : Int32), σ) else some ((a1 + (1 : Int32)), σ)) else (if a2 = (2 : Int32) then (if a1 < (σ.1 i 0) then some ((-1 : Int32), σ) else some ((a1 - (σ.1 i 0)), σ)) else (if a2 = (3 : Int32) then (if (σ.1 i 1) ≤ (a1 + (σ.1 i 0)) then some ((-1 : Int32), σ) else some ((a1 + (σ.1 i 0)), σ)) else some (a1, σ))))) else (if (σ.1 i 0) = 0 then none else (if a2 = (0 : Int32) then (if (a1 - a1 / (σ.1 i 0) * (σ.1 i 0)) ≤ 0 then some ((-1 : Int32), σ) else some ((a1 - (1 : Int32)), σ)) else (if a2 = (1 : Int32) then (if ((σ.1 i 0) - (1 : Int32)) ≤ (a1 - a1 / (σ.1 i 0) * (σ.1 i 0)) then some ((-1 : Int32), σ) else some ((a1 + (1 : Int32)), σ)) else (if a2 = (2 : Int32) then (if a1 < (σ.1 i 0) then some ((-1 : Int32), σ) else some ((a1 - (σ.1 i 0)), σ)) else (if a2 = (3 : Int32) then (if (σ.1 i 1) ≤ (a1 + (σ.1 i 0)) then some ((-1 : Int32), σ) else some ((a1 + (σ.1 i 0)), σ)) else some (a1, σ)))))))
theorem gm_X10_beside : gM "AskedCamp$World" yX10_beside (Cond.code yX10_beside cX10_beside 4 (Option.some Jvm.ClassFile.FieldType.int)) 2 := ⟨by decide +kernel, tw_738, tw_739, tw_7, tw_740⟩
set_option maxHeartbeats 4000000 in
set_option maxRecDepth 100000 in
theorem c_X10_beside (l : Launch) (D : va_G) (ad : Nat → Nat) (ca : Nat → ClassId) (kz : Nat → Nat) (hJ : pInj ad) (n : Nat) {i : Nat} (hi : pis i 9) (a1 : Int32) (a2 : Int32) (σ : PS) (out : Int32 × PS) (hF : F_X10_beside n i a1 a2 σ = some out) : Met l yX10_beside (Cond.code yX10_beside cX10_beside 4 (Option.some Jvm.ClassFile.FieldType.int) :: gw_tbl) { frames := 0, cells := 0, slots := 0, locals := 0 } (va_Pc [.ref (ad (i)), .int a1, .int a2] (pU D ad ca kz σ)) (pQi D ad ca out) 0 0 (pAD ad) := by
  refine q_entry (own := "AskedCamp$World") hJ (by decide) rfl (Nat.le_of_ble_eq_true rfl) (fun p e s m below meth c C hr hlk => ?_)
  refine q_lv [(0, .ref (ad (i))), (1, .int a1), (2, .int a2)] rfl ?_
  rw [F_X10_beside] at hF
  refine q_aload_n C 0 dX10_beside_0 rfl rfl ?_
  refine qg_9_0 C hi tw_156 dX10_beside_1 ?_
  refine q_if_le (tgt := 16) C dX10_beside_4 (by decide) (fun c1 => ?_) (fun c1 => ?_)
  · replace hF := ift c1 hF
    refine q_iconst (v := 0) C dX10_beside_16 (by decide) ?_
    refine q_istore_n C [(3, .int 0), (0, .ref (ad (i))), (1, .int a1), (2, .int a2)] dX10_beside_17 rfl (by decide) rfl ?_
    refine q_iload_n C 3 dX10_beside_18 rfl rfl ?_
    by_cases c2 : a2 = (0 : Int32)
    · replace hF := ift c2 hF
      refine q_tableIn (off := 29) (tgt := 48) C dX10_beside_19 (by rw [c2]; decide) (by rw [c2]; decide) (by rw [c2] <;> rfl) (by decide) ?_
      refine q_iload_n C 0 dX10_beside_48 rfl rfl ?_
      refine q_if_le (tgt := 58) C dX10_beside_49 (by decide) (fun c3 => ?_) (fun c3 => ?_)
      · replace hF := ift c3 hF
        refine q_iconst (v := -1) C dX10_beside_58 (by decide) ?_
        exact q_iret C hr hlk dX10_beside_59 hF
      · replace hF := ife c3 hF
        refine q_iload_n C 2 dX10_beside_52 rfl rfl ?_
        refine q_iconst (v := 1) C dX10_beside_53 (by decide) ?_
        refine q_isub C dX10_beside_54 ?_
        refine q_goto (tgt := 59) C dX10_beside_55 (by decide) ?_
        exact q_iret C hr hlk dX10_beside_59 hF
    replace hF := ife c2 hF
    by_cases c4 : a2 = (1 : Int32)
    · replace hF := ift c4 hF
      refine q_tableIn (off := 41) (tgt := 60) C dX10_beside_19 (by rw [c4]; decide) (by rw [c4]; decide) (by rw [c4] <;> rfl) (by decide) ?_
      refine q_iload_n C 0 dX10_beside_60 rfl rfl ?_
      refine q_aload_n C 1 dX10_beside_61 rfl rfl ?_
      refine qg_9_0 C hi tw_156 dX10_beside_62 ?_
      refine q_iconst (v := 1) C dX10_beside_65 (by decide) ?_
      refine q_isub C dX10_beside_66 ?_
      refine q_icmp_ge (tgt := 76) C dX10_beside_67 (by decide) (fun c5 => ?_) (fun c5 => ?_)
      · replace hF := ift c5 hF
        refine q_iconst (v := -1) C dX10_beside_76 (by decide) ?_
        exact q_iret C hr hlk dX10_beside_77 hF
      · replace hF := ife c5 hF
        refine q_iload_n C 2 dX10_beside_70 rfl rfl ?_
        refine q_iconst (v := 1) C dX10_beside_71 (by decide) ?_
        refine q_iadd C dX10_beside_72 ?_
        refine q_goto (tgt := 77) C dX10_beside_73 (by decide) ?_
        exact q_iret C hr hlk dX10_beside_77 hF
    replace hF := ife c4 hF
    by_cases c6 : a2 = (2 : Int32)
    · replace hF := ift c6 hF
      refine q_tableIn (off := 59) (tgt := 78) C dX10_beside_19 (by rw [c6]; decide) (by rw [c6]; decide) (by rw [c6] <;> rfl) (by decide) ?_
      refine q_iload_n C 2 dX10_beside_78 rfl rfl ?_
      refine q_aload_n C 1 dX10_beside_79 rfl rfl ?_
      refine qg_9_0 C hi tw_156 dX10_beside_80 ?_
      refine q_icmp_lt (tgt := 95) C dX10_beside_83 (by decide) (fun c7 => ?_) (fun c7 => ?_)
      · replace hF := ift c7 hF
        refine q_iconst (v := -1) C dX10_beside_95 (by decide) ?_
        exact q_iret C hr hlk dX10_beside_96 hF
      · replace hF := ife c7 hF
        refine q_iload_n C 2 dX10_beside_86 rfl rfl ?_
        refine q_aload_n C 1 dX10_beside_87 rfl rfl ?_
        refine qg_9_0 C hi tw_156 dX10_beside_88 ?_
        refine q_isub C dX10_beside_91 ?_
        refine q_goto (tgt := 96) C dX10_beside_92 (by decide) ?_
        exact q_iret C hr hlk dX10_beside_96 hF
    replace hF := ife c6 hF
    by_cases c8 : a2 = (3 : Int32)
    · replace hF := ift c8 hF
      refine q_tableIn (off := 78) (tgt := 97) C dX10_beside_19 (by rw [c8]; decide) (by rw [c8]; decide) (by rw [c8] <;> rfl) (by decide) ?_
      refine q_iload_n C 2 dX10_beside_97 rfl rfl ?_
      refine q_aload_n C 1 dX10_beside_98 rfl rfl ?_
      refine qg_9_0 C hi tw_156 dX10_beside_99 ?_
      refine q_iadd C dX10_beside_102 ?_
      refine q_aload_n C 1 dX10_beside_103 rfl rfl ?_
      refine qg_9_1 C hi tw_159 dX10_beside_104 ?_
      refine q_icmp_ge (tgt := 119) C dX10_beside_107 (by decide) (fun c9 => ?_) (fun c9 => ?_)
      · replace hF := ift c9 hF
        refine q_iconst (v := -1) C dX10_beside_119 (by decide) ?_
        exact q_iret C hr hlk dX10_beside_120 hF
      · replace hF := ife c9 hF
        refine q_iload_n C 2 dX10_beside_110 rfl rfl ?_
        refine q_aload_n C 1 dX10_beside_111 rfl rfl ?_
        refine qg_9_0 C hi tw_156 dX10_beside_112 ?_
        refine q_iadd C dX10_beside_115 ?_
        refine q_goto (tgt := 120) C dX10_beside_116 (by decide) ?_
        exact q_iret C hr hlk dX10_beside_120 hF
    replace hF := ife c8 hF
    refine q_tableOut (tgt := 121) C dX10_beside_19 (by have ec2 := sw_ne c2; have ec4 := sw_ne c4; have ec6 := sw_ne c6; have ec8 := sw_ne c8; simp only [sw_lit] at ec2 ec4 ec6 ec8; omega) (by decide) ?_
    refine q_iload_n C 2 dX10_beside_121 rfl rfl ?_
    exact q_iret C hr hlk dX10_beside_122 hF
  · replace hF := ife c1 hF
    refine q_iload_n C 1 dX10_beside_7 rfl rfl ?_
    refine q_aload_n C 0 dX10_beside_8 rfl rfl ?_
    refine qg_9_0 C hi tw_156 dX10_beside_9 ?_
    obtain ⟨g10, hF⟩ := grn hF
    refine q_irem C dX10_beside_12 g10 ?_
    refine q_goto (tgt := 17) C dX10_beside_13 (by decide) ?_
    refine q_istore_n C [(3, .int (a1 - a1 / (σ.1 i 0) * (σ.1 i 0))), (0, .ref (ad (i))), (1, .int a1), (2, .int a2)] dX10_beside_17 rfl (by decide) rfl ?_
    refine q_iload_n C 3 dX10_beside_18 rfl rfl ?_
    by_cases c11 : a2 = (0 : Int32)
    · replace hF := ift c11 hF
      refine q_tableIn (off := 29) (tgt := 48) C dX10_beside_19 (by rw [c11]; decide) (by rw [c11]; decide) (by rw [c11] <;> rfl) (by decide) ?_
      refine q_iload_n C 0 dX10_beside_48 rfl rfl ?_
      refine q_if_le (tgt := 58) C dX10_beside_49 (by decide) (fun c12 => ?_) (fun c12 => ?_)
      · replace hF := ift c12 hF
        refine q_iconst (v := -1) C dX10_beside_58 (by decide) ?_
        exact q_iret C hr hlk dX10_beside_59 hF
      · replace hF := ife c12 hF
        refine q_iload_n C 2 dX10_beside_52 rfl rfl ?_
        refine q_iconst (v := 1) C dX10_beside_53 (by decide) ?_
        refine q_isub C dX10_beside_54 ?_
        refine q_goto (tgt := 59) C dX10_beside_55 (by decide) ?_
        exact q_iret C hr hlk dX10_beside_59 hF
    replace hF := ife c11 hF
    by_cases c13 : a2 = (1 : Int32)
    · replace hF := ift c13 hF
      refine q_tableIn (off := 41) (tgt := 60) C dX10_beside_19 (by rw [c13]; decide) (by rw [c13]; decide) (by rw [c13] <;> rfl) (by decide) ?_
      refine q_iload_n C 0 dX10_beside_60 rfl rfl ?_
      refine q_aload_n C 1 dX10_beside_61 rfl rfl ?_
      refine qg_9_0 C hi tw_156 dX10_beside_62 ?_
      refine q_iconst (v := 1) C dX10_beside_65 (by decide) ?_
      refine q_isub C dX10_beside_66 ?_
      refine q_icmp_ge (tgt := 76) C dX10_beside_67 (by decide) (fun c14 => ?_) (fun c14 => ?_)
      · replace hF := ift c14 hF
        refine q_iconst (v := -1) C dX10_beside_76 (by decide) ?_
        exact q_iret C hr hlk dX10_beside_77 hF
      · replace hF := ife c14 hF
        refine q_iload_n C 2 dX10_beside_70 rfl rfl ?_
        refine q_iconst (v := 1) C dX10_beside_71 (by decide) ?_
        refine q_iadd C dX10_beside_72 ?_
        refine q_goto (tgt := 77) C dX10_beside_73 (by decide) ?_
        exact q_iret C hr hlk dX10_beside_77 hF
    replace hF := ife c13 hF
    by_cases c15 : a2 = (2 : Int32)
    · replace hF := ift c15 hF
      refine q_tableIn (off := 59) (tgt := 78) C dX10_beside_19 (by rw [c15]; decide) (by rw [c15]; decide) (by rw [c15] <;> rfl) (by decide) ?_
      refine q_iload_n C 2 dX10_beside_78 rfl rfl ?_
      refine q_aload_n C 1 dX10_beside_79 rfl rfl ?_
      refine qg_9_0 C hi tw_156 dX10_beside_80 ?_
      refine q_icmp_lt (tgt := 95) C dX10_beside_83 (by decide) (fun c16 => ?_) (fun c16 => ?_)
      · replace hF := ift c16 hF
        refine q_iconst (v := -1) C dX10_beside_95 (by decide) ?_
        exact q_iret C hr hlk dX10_beside_96 hF
      · replace hF := ife c16 hF
        refine q_iload_n C 2 dX10_beside_86 rfl rfl ?_
        refine q_aload_n C 1 dX10_beside_87 rfl rfl ?_
        refine qg_9_0 C hi tw_156 dX10_beside_88 ?_
        refine q_isub C dX10_beside_91 ?_
        refine q_goto (tgt := 96) C dX10_beside_92 (by decide) ?_
        exact q_iret C hr hlk dX10_beside_96 hF
    replace hF := ife c15 hF
    by_cases c17 : a2 = (3 : Int32)
    · replace hF := ift c17 hF
      refine q_tableIn (off := 78) (tgt := 97) C dX10_beside_19 (by rw [c17]; decide) (by rw [c17]; decide) (by rw [c17] <;> rfl) (by decide) ?_
      refine q_iload_n C 2 dX10_beside_97 rfl rfl ?_
      refine q_aload_n C 1 dX10_beside_98 rfl rfl ?_
      refine qg_9_0 C hi tw_156 dX10_beside_99 ?_
      refine q_iadd C dX10_beside_102 ?_
      refine q_aload_n C 1 dX10_beside_103 rfl rfl ?_
      refine qg_9_1 C hi tw_159 dX10_beside_104 ?_
      refine q_icmp_ge (tgt := 119) C dX10_beside_107 (by decide) (fun c18 => ?_) (fun c18 => ?_)
      · replace hF := ift c18 hF
        refine q_iconst (v := -1) C dX10_beside_119 (by decide) ?_
        exact q_iret C hr hlk dX10_beside_120 hF
      · replace hF := ife c18 hF
        refine q_iload_n C 2 dX10_beside_110 rfl rfl ?_
        refine q_aload_n C 1 dX10_beside_111 rfl rfl ?_
        refine qg_9_0 C hi tw_156 dX10_beside_112 ?_
        refine q_iadd C dX10_beside_115 ?_
        refine q_goto (tgt := 120) C dX10_beside_116 (by decide) ?_
        exact q_iret C hr hlk dX10_beside_120 hF
    replace hF := ife c17 hF
    refine q_tableOut (tgt := 121) C dX10_beside_19 (by have ec11 := sw_ne c11; have ec13 := sw_ne c13; have ec15 := sw_ne c15; have ec17 := sw_ne c17; simp only [sw_lit] at ec11 ec13 ec15 ec17; omega) (by decide) ?_
    refine q_iload_n C 2 dX10_beside_121 rfl rfl ?_
    exact q_iret C hr hlk dX10_beside_122 hF
-- X10_cellsToAsk
def L_X10_cellsToAsk_4 (n : Nat) (i : Nat) : Nat → Int64 → Int32 → PS → Option (Int64 × PS)
  | 0, _, _, _ => none
  | k + 1, x1, x3, σ => (if (σ.1 i 5) ≤ x3 then some (x1, σ) else (if 0 ≤ x3 ∧ x3.toNatClampNeg < 6 then (if (σ.1 (i + 3) x3.toNatClampNeg) = 0 then L_X10_cellsToAsk_4 n i k (x1 ||| ((1 : Int64) <<< ((σ.1 (i + 1) x3.toNatClampNeg).toInt64 &&& 63))) (x3 + 1) σ else L_X10_cellsToAsk_4 n i k x1 (x3 + 1) σ) else none))
def F_X10_cellsToAsk (n : Nat) (i : Nat) (σ : PS) : Option (Int64 × PS) := (L_X10_cellsToAsk_4 n i n (0 : Int64) (0 : Int32) σ).bind (fun o4 => some (o4.1, o4.2))
theorem gm_X10_cellsToAsk : gM "AskedCamp$World" yX10_cellsToAsk (Cond.code yX10_cellsToAsk cX10_cellsToAsk 4 (Option.some Jvm.ClassFile.FieldType.long)) 0 := ⟨by decide +kernel, tw_728, tw_729, tw_7, tw_730⟩
set_option maxHeartbeats 4000000 in
set_option maxRecDepth 100000 in
theorem l_X10_cellsToAsk_4 {p : Program} {l : Launch} {e : Env} {R : Room} {s : State} {m : MethodId} {args : Array Value} {below : List Frame} {meth : Method} {c : Code} {D : va_G} {ad : Nat → Nat} {ca : Nat → ClassId} {kz : Nat → Nat} {Q : State → Prop} (C : pC p s m args c cX10_cellsToAsk "AskedCamp$World" 4 D ad ca kz) (hR : 0 ≤ R.frames ∧ 0 ≤ R.locals) {n : Nat} {i : Nat} (hi : pis i 9) (o : Int64 × PS) (hx0 : PW p l e R s m args below meth c 4 D ad ca 0 0 Q (o.2) 38 [(1, .long o.1)] []) : ∀ (k : Nat) (x1 : Int64) (x3 : Int32) (σ : PS), L_X10_cellsToAsk_4 n i k x1 x3 σ = some o → PW p l e R s m args below meth c 4 D ad ca 0 0 Q σ 4 [(0, .ref (ad (i))), (1, .long x1), (3, .int x3)] [] := by
  intro k
  induction k with
  | zero => intro x1 x3 σ hF; exact nomatch (show (none : Option (Int64 × PS)) = some o from hF)
  | succ k ih =>
    intro x1 x3 σ hF
    rw [L_X10_cellsToAsk_4] at hF
    refine q_iload_n C 2 dX10_cellsToAsk_4 rfl rfl ?_
    refine q_aload_n C 0 dX10_cellsToAsk_5 rfl rfl ?_
    refine qg_9_5 C hi tw_178 dX10_cellsToAsk_6 ?_
    refine q_icmp_ge (tgt := 38) C dX10_cellsToAsk_9 (by decide) (fun c1 => ?_) (fun c1 => ?_)
    · replace hF := ift c1 hF
      cases hF
      refine q_sub [1] rfl ?_
      exact hx0
    · replace hF := ife c1 hF
      refine q_aload_n C 0 dX10_cellsToAsk_12 rfl rfl ?_
      refine qg_9_9 C hi tw_193 dX10_cellsToAsk_13 ?_
      refine q_iload_n C 2 dX10_cellsToAsk_16 rfl rfl ?_
      obtain ⟨g2, hF⟩ := grd hF
      refine q_iald C (pkW hi).2.2.1 (vp_of g2) dX10_cellsToAsk_17 ?_
      refine q_if_ne (tgt := 32) C dX10_cellsToAsk_18 (by decide) (fun c3 => ?_) (fun c3 => ?_)
      · replace hF := ife c3 hF
        refine q_iinc C 2 [(3, .int (x3 + 1)), (0, .ref (ad (i))), (1, .long x1)] dX10_cellsToAsk_32 rfl rfl (by decide) rfl ?_
        refine q_goto (tgt := 4) C dX10_cellsToAsk_35 (by decide) ?_
        refine q_sub [1, 2, 0] rfl ?_
        exact ih _ _ _ hF
      · replace hF := ift c3 hF
        refine q_lload_n C 1 dX10_cellsToAsk_21 rfl rfl ?_
        refine q_lconst (v := 1) C dX10_cellsToAsk_22 (by decide) ?_
        refine q_aload_n C 0 dX10_cellsToAsk_23 rfl rfl ?_
        refine qg_9_7 C hi tw_187 dX10_cellsToAsk_24 ?_
        refine q_iload_n C 2 dX10_cellsToAsk_27 rfl rfl ?_
        refine q_iald C (pkW hi).1 (vp_of g2) dX10_cellsToAsk_28 ?_
        refine q_lshl C dX10_cellsToAsk_29 ?_
        refine q_lor C dX10_cellsToAsk_30 ?_
        refine q_lstore_n C [(1, .long (x1 ||| ((1 : Int64) <<< ((σ.1 (i + 1) x3.toNatClampNeg).toInt64 &&& 63)))), (0, .ref (ad (i))), (3, .int x3)] dX10_cellsToAsk_31 rfl (by decide) rfl ?_
        refine q_iinc C 2 [(3, .int (x3 + 1)), (1, .long (x1 ||| ((1 : Int64) <<< ((σ.1 (i + 1) x3.toNatClampNeg).toInt64 &&& 63)))), (0, .ref (ad (i)))] dX10_cellsToAsk_32 rfl rfl (by decide) rfl ?_
        refine q_goto (tgt := 4) C dX10_cellsToAsk_35 (by decide) ?_
        refine q_sub [2, 1, 0] rfl ?_
        exact ih _ _ _ hF
set_option maxHeartbeats 4000000 in
set_option maxRecDepth 100000 in
theorem c_X10_cellsToAsk (l : Launch) (D : va_G) (ad : Nat → Nat) (ca : Nat → ClassId) (kz : Nat → Nat) (hJ : pInj ad) (n : Nat) {i : Nat} (hi : pis i 9) (σ : PS) (out : Int64 × PS) (hF : F_X10_cellsToAsk n i σ = some out) : Met l yX10_cellsToAsk (Cond.code yX10_cellsToAsk cX10_cellsToAsk 4 (Option.some Jvm.ClassFile.FieldType.long) :: gw_tbl) { frames := 0, cells := 0, slots := 0, locals := 0 } (va_Pc [.ref (ad (i))] (pU D ad ca kz σ)) (pQl D ad ca out) 0 0 (pAD ad) := by
  refine q_entry (own := "AskedCamp$World") hJ (by decide) rfl (Nat.le_of_ble_eq_true rfl) (fun p e s m below meth c C hr hlk => ?_)
  refine q_lv [(0, .ref (ad (i)))] rfl ?_
  rw [F_X10_cellsToAsk] at hF
  refine q_lconst (v := 0) C dX10_cellsToAsk_0 (by decide) ?_
  refine q_lstore_n C [(1, .long ((0 : Int64))), (0, .ref (ad (i)))] dX10_cellsToAsk_1 rfl (by decide) rfl ?_
  refine q_iconst (v := 0) C dX10_cellsToAsk_2 (by decide) ?_
  refine q_istore_n C [(3, .int 0), (1, .long ((0 : Int64))), (0, .ref (ad (i)))] dX10_cellsToAsk_3 rfl (by decide) rfl ?_
  obtain ⟨o4, h5, hF⟩ := bnd hF
  try dsimp only at hF
  refine q_sub [2, 1, 0] rfl ?_
  refine l_X10_cellsToAsk_4 C ⟨Nat.le_of_ble_eq_true rfl, Nat.le_of_ble_eq_true rfl⟩ hi o4 ?_ n _ _ _ h5
  refine q_lload_n C 0 dX10_cellsToAsk_38 rfl rfl ?_
  exact q_lret C hr hlk dX10_cellsToAsk_39 hF
-- X10_clear
def L_X10_clear_37 (n : Nat) (i : Nat) : Nat → Int32 → PS → Option (PS)
  | 0, _, _ => none
  | k + 1, x1, σ => (if (36 : Int32) ≤ x1 then some σ else (if 0 ≤ x1 ∧ x1.toNatClampNeg < 36 then L_X10_clear_37 n i k (x1 + 1) (psI σ (i + 5) x1.toNatClampNeg (0 : Int32)) else none))
def F_X10_clear (n : Nat) (i : Nat) (σ : PS) : Option (PS) := (L_X10_clear_37 n i n (0 : Int32) (psJ (psI (psI (psI (psI (psI (psI σ i 0 (0 : Int32)) i 1 (0 : Int32)) i 2 (0 : Int32)) i 3 (0 : Int32)) i 4 (0 : Int32)) i 5 (0 : Int32)) i 6 (0 : Int64))).bind (fun o3 => some o3)
theorem gm_X10_clear : gM "AskedCamp$World" yX10_clear (Cond.code yX10_clear cX10_clear 2 (Option.none : Option Jvm.ClassFile.FieldType)) 0 := ⟨by decide +kernel, tw_436, tw_437, tw_7, tw_438⟩
set_option maxHeartbeats 4000000 in
set_option maxRecDepth 100000 in
theorem l_X10_clear_37 {p : Program} {l : Launch} {e : Env} {R : Room} {s : State} {m : MethodId} {args : Array Value} {below : List Frame} {meth : Method} {c : Code} {D : va_G} {ad : Nat → Nat} {ca : Nat → ClassId} {kz : Nat → Nat} {Q : State → Prop} (C : pC p s m args c cX10_clear "AskedCamp$World" 2 D ad ca kz) (hR : 0 ≤ R.frames ∧ 0 ≤ R.locals) {n : Nat} {i : Nat} (hi : pis i 9) (o : PS) (hx0 : PW p l e R s m args below meth c 2 D ad ca 0 0 Q (o) 56 [] []) : ∀ (k : Nat) (x1 : Int32) (σ : PS), L_X10_clear_37 n i k x1 σ = some o → PW p l e R s m args below meth c 2 D ad ca 0 0 Q σ 37 [(0, .ref (ad (i))), (1, .int x1)] [] := by
  intro k
  induction k with
  | zero => intro x1 σ hF; exact nomatch (show (none : Option (PS)) = some o from hF)
  | succ k ih =>
    intro x1 σ hF
    rw [L_X10_clear_37] at hF
    refine q_iload_n C 1 dX10_clear_37 rfl rfl ?_
    refine q_bipush (v := 36) C dX10_clear_38 (by decide) ?_
    refine q_icmp_ge (tgt := 56) C dX10_clear_40 (by decide) (fun c1 => ?_) (fun c1 => ?_)
    · replace hF := ift c1 hF
      cases hF
      refine q_sub [] rfl ?_
      exact hx0
    · replace hF := ife c1 hF
      refine q_aload_n C 0 dX10_clear_43 rfl rfl ?_
      refine qg_9_11 C hi tw_199 dX10_clear_44 ?_
      refine q_iload_n C 1 dX10_clear_47 rfl rfl ?_
      refine q_iconst (v := 0) C dX10_clear_48 (by decide) ?_
      obtain ⟨g2, hF⟩ := grd hF
      refine q_iast C (pkW hi).2.2.2.2 (vp_of g2) dX10_clear_49 ?_
      refine q_iinc C 1 [(1, .int (x1 + 1)), (0, .ref (ad (i)))] dX10_clear_50 rfl rfl (by decide) rfl ?_
      refine q_goto (tgt := 37) C dX10_clear_53 (by decide) ?_
      refine q_sub [1, 0] rfl ?_
      exact ih _ _ hF
set_option maxHeartbeats 4000000 in
set_option maxRecDepth 100000 in
theorem c_X10_clear (l : Launch) (D : va_G) (ad : Nat → Nat) (ca : Nat → ClassId) (kz : Nat → Nat) (hJ : pInj ad) (n : Nat) {i : Nat} (hi : pis i 9) (σ : PS) (out : PS) (hF : F_X10_clear n i σ = some out) : Met l yX10_clear (Cond.code yX10_clear cX10_clear 2 (Option.none : Option Jvm.ClassFile.FieldType) :: gw_tbl) { frames := 0, cells := 0, slots := 0, locals := 0 } (va_Pc [.ref (ad (i))] (pU D ad ca kz σ)) (pQv D ad ca out) 0 0 (pAD ad) := by
  refine q_entry (own := "AskedCamp$World") hJ (by decide) rfl (Nat.le_of_ble_eq_true rfl) (fun p e s m below meth c C hr hlk => ?_)
  refine q_lv [(0, .ref (ad (i)))] rfl ?_
  rw [F_X10_clear] at hF
  refine q_aload_n C 0 dX10_clear_0 rfl rfl ?_
  refine q_iconst (v := 0) C dX10_clear_1 (by decide) ?_
  refine qs_9_0 C hi tw_156 dX10_clear_2 ?_
  refine q_aload_n C 0 dX10_clear_5 rfl rfl ?_
  refine q_iconst (v := 0) C dX10_clear_6 (by decide) ?_
  refine qs_9_1 C hi tw_159 dX10_clear_7 ?_
  refine q_aload_n C 0 dX10_clear_10 rfl rfl ?_
  refine q_iconst (v := 0) C dX10_clear_11 (by decide) ?_
  refine qs_9_2 C hi tw_163 dX10_clear_12 ?_
  refine q_aload_n C 0 dX10_clear_15 rfl rfl ?_
  refine q_iconst (v := 0) C dX10_clear_16 (by decide) ?_
  refine qs_9_3 C hi tw_170 dX10_clear_17 ?_
  refine q_aload_n C 0 dX10_clear_20 rfl rfl ?_
  refine q_iconst (v := 0) C dX10_clear_21 (by decide) ?_
  refine qs_9_4 C hi tw_174 dX10_clear_22 ?_
  refine q_aload_n C 0 dX10_clear_25 rfl rfl ?_
  refine q_iconst (v := 0) C dX10_clear_26 (by decide) ?_
  refine qs_9_5 C hi tw_178 dX10_clear_27 ?_
  refine q_aload_n C 0 dX10_clear_30 rfl rfl ?_
  refine q_lconst (v := 0) C dX10_clear_31 (by decide) ?_
  refine qs_9_6 C hi tw_182 dX10_clear_32 ?_
  refine q_iconst (v := 0) C dX10_clear_35 (by decide) ?_
  refine q_istore_n C [(1, .int 0), (0, .ref (ad (i)))] dX10_clear_36 rfl (by decide) rfl ?_
  obtain ⟨o3, h4, hF⟩ := bnd hF
  try dsimp only at hF
  refine q_sub [1, 0] rfl ?_
  refine l_X10_clear_37 C ⟨Nat.le_of_ble_eq_true rfl, Nat.le_of_ble_eq_true rfl⟩ hi o3 ?_ n _ _ h4
  exact q_vret C hr hlk dX10_clear_56 hF
-- X10_columnOf
def F_X10_columnOf (n : Nat) (i : Nat) (a1 : Int32) (σ : PS) : Option (Int32 × PS) := (if (σ.1 i 0) ≤ 0 then some ((0 : Int32), σ) else (if (σ.1 i 0) = 0 then none else some ((a1 - a1 / (σ.1 i 0) * (σ.1 i 0)), σ)))
theorem gm_X10_columnOf : gM "AskedCamp$World" yX10_columnOf (Cond.code yX10_columnOf cX10_columnOf 2 (Option.some Jvm.ClassFile.FieldType.int)) 1 := ⟨by decide +kernel, tw_768, tw_769, tw_7, tw_770⟩
set_option maxHeartbeats 4000000 in
set_option maxRecDepth 100000 in
theorem c_X10_columnOf (l : Launch) (D : va_G) (ad : Nat → Nat) (ca : Nat → ClassId) (kz : Nat → Nat) (hJ : pInj ad) (n : Nat) {i : Nat} (hi : pis i 9) (a1 : Int32) (σ : PS) (out : Int32 × PS) (hF : F_X10_columnOf n i a1 σ = some out) : Met l yX10_columnOf (Cond.code yX10_columnOf cX10_columnOf 2 (Option.some Jvm.ClassFile.FieldType.int) :: gw_tbl) { frames := 0, cells := 0, slots := 0, locals := 0 } (va_Pc [.ref (ad (i)), .int a1] (pU D ad ca kz σ)) (pQi D ad ca out) 0 0 (pAD ad) := by
  refine q_entry (own := "AskedCamp$World") hJ (by decide) rfl (Nat.le_of_ble_eq_true rfl) (fun p e s m below meth c C hr hlk => ?_)
  refine q_lv [(0, .ref (ad (i))), (1, .int a1)] rfl ?_
  rw [F_X10_columnOf] at hF
  refine q_aload_n C 0 dX10_columnOf_0 rfl rfl ?_
  refine qg_9_0 C hi tw_156 dX10_columnOf_1 ?_
  refine q_if_le (tgt := 16) C dX10_columnOf_4 (by decide) (fun c1 => ?_) (fun c1 => ?_)
  · replace hF := ift c1 hF
    refine q_iconst (v := 0) C dX10_columnOf_16 (by decide) ?_
    exact q_iret C hr hlk dX10_columnOf_17 hF
  · replace hF := ife c1 hF
    refine q_iload_n C 1 dX10_columnOf_7 rfl rfl ?_
    refine q_aload_n C 0 dX10_columnOf_8 rfl rfl ?_
    refine qg_9_0 C hi tw_156 dX10_columnOf_9 ?_
    obtain ⟨g2, hF⟩ := grn hF
    refine q_irem C dX10_columnOf_12 g2 ?_
    refine q_goto (tgt := 17) C dX10_columnOf_13 (by decide) ?_
    exact q_iret C hr hlk dX10_columnOf_17 hF
-- X10_spread
def F_X10_spread (n : Nat) (i : Nat) (a1 : Int64) (σ : PS) : Option (Int64 × PS) := (if (σ.1 i 0) < 0 then some ((0 : Int64), σ) else (if (σ.1 i 0) < (7 : Int32) then (if 0 ≤ (σ.1 i 0) ∧ (σ.1 i 0).toNatClampNeg < 7 then some ((((((((a1 &&& ((pTb2.getD ((σ.1 i 0).toNatClampNeg) 0) ^^^ (-1 : Int64))).toUInt64 >>> ((1 : Int32).toInt64.toUInt64 &&& Int64.toUInt64 63)).toInt64) ||| ((a1 &&& (((pTb2.getD ((σ.1 i 0).toNatClampNeg) 0) <<< (((σ.1 i 0) - (1 : Int32)).toInt64 &&& 63)) ^^^ (-1 : Int64))) <<< ((1 : Int32).toInt64 &&& 63))) ||| ((a1.toUInt64 >>> ((σ.1 i 0).toInt64.toUInt64 &&& Int64.toUInt64 63)).toInt64)) ||| (a1 <<< ((σ.1 i 0).toInt64 &&& 63))) &&& (pTb3.getD ((σ.1 i 0).toNatClampNeg) 0)), σ) else none) else some ((0 : Int64), σ)))
theorem gm_X10_spread : gM "AskedCamp$World" yX10_spread (Cond.code yX10_spread cX10_spread 9 (Option.some Jvm.ClassFile.FieldType.long)) 1 := ⟨by decide +kernel, tw_747, tw_748, tw_7, tw_749⟩
set_option maxHeartbeats 4000000 in
set_option maxRecDepth 100000 in
theorem c_X10_spread (l : Launch) (D : va_G) (ad : Nat → Nat) (ca : Nat → ClassId) (kz : Nat → Nat) (hJ : pInj ad) (n : Nat) {i : Nat} (hi : pis i 9) (a1 : Int64) (σ : PS) (out : Int64 × PS) (hF : F_X10_spread n i a1 σ = some out) : Met l yX10_spread (Cond.code yX10_spread cX10_spread 9 (Option.some Jvm.ClassFile.FieldType.long) :: gw_tbl) { frames := 0, cells := 0, slots := 0, locals := 0 } (va_Pc [.ref (ad (i)), .long a1] (pU D ad ca kz σ)) (pQl D ad ca out) 0 0 (pAD ad) := by
  refine q_entry (own := "AskedCamp$World") hJ (by decide) rfl (Nat.le_of_ble_eq_true rfl) (fun p e s m below meth c C hr hlk => ?_)
  refine q_lv [(0, .ref (ad (i))), (1, .long a1)] rfl ?_
  rw [F_X10_spread] at hF
  refine q_aload_n C 0 dX10_spread_0 rfl rfl ?_
  refine qg_9_0 C hi tw_156 dX10_spread_1 ?_
  refine q_if_lt (tgt := 18) C dX10_spread_4 (by decide) (fun c1 => ?_) (fun c1 => ?_)
  · replace hF := ift c1 hF
    refine q_lconst (v := 0) C dX10_spread_18 (by decide) ?_
    exact q_lret C hr hlk dX10_spread_19 hF
  · replace hF := ife c1 hF
    refine q_aload_n C 0 dX10_spread_7 rfl rfl ?_
    refine qg_9_0 C hi tw_156 dX10_spread_8 ?_
    refine q_st2 C tw_750 dX10_spread_11 ?_
    refine q_stlen2 C dX10_spread_14 ?_
    refine q_icmp_lt (tgt := 20) C dX10_spread_15 (by decide) (fun c2 => ?_) (fun c2 => ?_)
    · replace hF := ift c2 hF
      refine q_st2 C tw_750 dX10_spread_20 ?_
      refine q_aload_n C 0 dX10_spread_23 rfl rfl ?_
      refine qg_9_0 C hi tw_156 dX10_spread_24 ?_
      obtain ⟨g3, hF⟩ := grd hF
      refine q_stald2 C (vp_of g3) dX10_spread_27 ?_
      refine q_lstore_n C [(3, .long (pTb2.getD ((σ.1 i 0).toNatClampNeg) 0)), (0, .ref (ad (i))), (1, .long a1)] dX10_spread_28 rfl (by decide) rfl ?_
      refine q_lload_n C 0 dX10_spread_29 rfl rfl ?_
      refine q_aload_n C 1 dX10_spread_30 rfl rfl ?_
      refine qg_9_0 C hi tw_156 dX10_spread_31 ?_
      refine q_iconst (v := 1) C dX10_spread_34 (by decide) ?_
      refine q_isub C dX10_spread_35 ?_
      refine q_lshl C dX10_spread_36 ?_
      refine q_lstore C [(5, .long ((pTb2.getD ((σ.1 i 0).toNatClampNeg) 0) <<< (((σ.1 i 0) - (1 : Int32)).toInt64 &&& 63))), (3, .long (pTb2.getD ((σ.1 i 0).toNatClampNeg) 0)), (0, .ref (ad (i))), (1, .long a1)] dX10_spread_37 (by decide) rfl ?_
      refine q_lload_n C 3 dX10_spread_39 rfl rfl ?_
      refine q_lload_n C 1 dX10_spread_40 rfl rfl ?_
      refine q_ldc2 C dX10_spread_41 tw_752 ?_
      refine q_lxor C dX10_spread_44 ?_
      refine q_land C dX10_spread_45 ?_
      refine q_iconst (v := 1) C dX10_spread_46 (by decide) ?_
      refine q_lushr C dX10_spread_47 ?_
      refine q_lload_n C 3 dX10_spread_48 rfl rfl ?_
      refine q_lload C 0 dX10_spread_49 rfl ?_
      refine q_ldc2 C dX10_spread_51 tw_752 ?_
      refine q_lxor C dX10_spread_54 ?_
      refine q_land C dX10_spread_55 ?_
      refine q_iconst (v := 1) C dX10_spread_56 (by decide) ?_
      refine q_lshl C dX10_spread_57 ?_
      refine q_lor C dX10_spread_58 ?_
      refine q_lstore C [(7, .long ((((a1 &&& ((pTb2.getD ((σ.1 i 0).toNatClampNeg) 0) ^^^ (-1 : Int64))).toUInt64 >>> ((1 : Int32).toInt64.toUInt64 &&& Int64.toUInt64 63)).toInt64) ||| ((a1 &&& (((pTb2.getD ((σ.1 i 0).toNatClampNeg) 0) <<< (((σ.1 i 0) - (1 : Int32)).toInt64 &&& 63)) ^^^ (-1 : Int64))) <<< ((1 : Int32).toInt64 &&& 63)))), (5, .long ((pTb2.getD ((σ.1 i 0).toNatClampNeg) 0) <<< (((σ.1 i 0) - (1 : Int32)).toInt64 &&& 63))), (3, .long (pTb2.getD ((σ.1 i 0).toNatClampNeg) 0)), (0, .ref (ad (i))), (1, .long a1)] dX10_spread_59 (by decide) rfl ?_
      refine q_lload C 0 dX10_spread_61 rfl ?_
      refine q_lload_n C 4 dX10_spread_63 rfl rfl ?_
      refine q_aload_n C 3 dX10_spread_64 rfl rfl ?_
      refine qg_9_0 C hi tw_156 dX10_spread_65 ?_
      refine q_lushr C dX10_spread_68 ?_
      refine q_lor C dX10_spread_69 ?_
      refine q_lload_n C 4 dX10_spread_70 rfl rfl ?_
      refine q_aload_n C 3 dX10_spread_71 rfl rfl ?_
      refine qg_9_0 C hi tw_156 dX10_spread_72 ?_
      refine q_lshl C dX10_spread_75 ?_
      refine q_lor C dX10_spread_76 ?_
      refine q_st3 C tw_753 dX10_spread_77 ?_
      refine q_aload_n C 3 dX10_spread_80 rfl rfl ?_
      refine qg_9_0 C hi tw_156 dX10_spread_81 ?_
      refine q_stald3 C (vp_of g3) dX10_spread_84 ?_
      refine q_land C dX10_spread_85 ?_
      exact q_lret C hr hlk dX10_spread_86 hF
    · replace hF := ife c2 hF
      refine q_lconst (v := 0) C dX10_spread_18 (by decide) ?_
      exact q_lret C hr hlk dX10_spread_19 hF
-- X10_distance
def L_X10_distance_8 (n : Nat) (i : Nat) : Nat → Int64 → Int64 → Int32 → PS → Option (Nat × Int32 × PS)
  | 0, _, _, _, _ => none
  | k + 1, x2, x4, x6, σ => (if (36 : Int32) < x6 then some (2, 0, σ) else (if (lg_cmp (x4 &&& x2) (0 : Int64)) = 0 then (F_X10_spread n i x4 σ).bind (fun q3 => (if (lg_cmp (x4 ||| (q3.1 &&& ((q3.2.2 i 6) ^^^ (-1 : Int64)))) x4) = 0 then some (1, 0, q3.2) else L_X10_distance_8 n i k x2 (x4 ||| (q3.1 &&& ((q3.2.2 i 6) ^^^ (-1 : Int64)))) (x6 + 1) q3.2)) else some (0, x6, σ)))
def F_X10_distance (n : Nat) (i : Nat) (a1 : Int32) (a2 : Int64) (σ : PS) : Option (Int32 × PS) := (L_X10_distance_8 n i n a2 ((1 : Int64) <<< (a1.toInt64 &&& 63)) (0 : Int32) σ).bind (fun o6 => (if o6.1 = 0 then some (o6.2.1, o6.2.2) else (if o6.1 = 1 then some ((-1 : Int32), o6.2.2) else some ((-1 : Int32), o6.2.2))))
theorem gm_X10_distance : gM "AskedCamp$World" yX10_distance (Cond.code yX10_distance cX10_distance 9 (Option.some Jvm.ClassFile.FieldType.int)) 2 := ⟨by decide +kernel, tw_743, tw_744, tw_7, tw_745⟩
set_option maxHeartbeats 4000000 in
set_option maxRecDepth 100000 in
theorem l_X10_distance_8 {p : Program} {l : Launch} {e : Env} {R : Room} {s : State} {m : MethodId} {args : Array Value} {below : List Frame} {meth : Method} {c : Code} {D : va_G} {ad : Nat → Nat} {ca : Nat → ClassId} {kz : Nat → Nat} {Q : State → Prop} (C : pC p s m args c cX10_distance "AskedCamp$World" 9 D ad ca kz) (hR : 1 ≤ R.frames ∧ 28 ≤ R.locals) {n : Nat} {i : Nat} (hi : pis i 9) (o : Nat × Int32 × PS) (hx0 : o.1 = 0 → PW p l e R s m args below meth c 9 D ad ca 0 0 Q (o.2.2) 24 [(6, .int o.2.1)] []) (hx1 : o.1 = 1 → PW p l e R s m args below meth c 9 D ad ca 0 0 Q (o.2.2) 55 [] []) (hx2 : o.1 = 2 → PW p l e R s m args below meth c 9 D ad ca 0 0 Q (o.2.2) 67 [] []) : ∀ (k : Nat) (x2 : Int64) (x4 : Int64) (x6 : Int32) (σ : PS), L_X10_distance_8 n i k x2 x4 x6 σ = some o → PW p l e R s m args below meth c 9 D ad ca 0 0 Q σ 8 [(0, .ref (ad (i))), (2, .long x2), (4, .long x4), (6, .int x6)] [] := by
  intro k
  induction k with
  | zero => intro x2 x4 x6 σ hF; exact nomatch (show (none : Option (Nat × Int32 × PS)) = some o from hF)
  | succ k ih =>
    intro x2 x4 x6 σ hF
    rw [L_X10_distance_8] at hF
    refine q_iload C 3 dX10_distance_8 rfl ?_
    refine q_bipush (v := 36) C dX10_distance_10 (by decide) ?_
    refine q_icmp_gt (tgt := 67) C dX10_distance_12 (by decide) (fun c1 => ?_) (fun c1 => ?_)
    · replace hF := ift c1 hF
      cases hF
      refine q_sub [] rfl ?_
      exact hx2 rfl
    · replace hF := ife c1 hF
      refine q_lload C 2 dX10_distance_15 rfl ?_
      refine q_lload_n C 1 dX10_distance_17 rfl rfl ?_
      refine q_land C dX10_distance_18 ?_
      refine q_lconst (v := 0) C dX10_distance_19 (by decide) ?_
      refine q_lcmp C dX10_distance_20 ?_
      refine q_if_eq (tgt := 27) C dX10_distance_21 (by decide) (fun c2 => ?_) (fun c2 => ?_)
      · replace hF := ift c2 hF
        refine q_lload C 2 dX10_distance_27 rfl ?_
        refine q_aload_n C 0 dX10_distance_29 rfl rfl ?_
        refine q_lload C 2 dX10_distance_30 rfl ?_
        obtain ⟨q3, h4, hF⟩ := bnd hF
        try dsimp only at hF
        refine q_callVl C [.long x4] (c_X10_spread l D ad ca kz C.2.2.2.2.2.2.1 _ hi _ _ _ h4) tw_746 gm_X10_spread hi.1 (pe_9 hi.2) rfl ⟨rfl, rfl⟩ ⟨Nat.le_trans (Nat.le_of_ble_eq_true rfl) hR.1, Nat.le_trans (Nat.le_of_ble_eq_true rfl) hR.2⟩ rfl (Nat.le_of_ble_eq_true rfl) dX10_distance_32 q00 ?_
        refine q_aload_n C 0 dX10_distance_35 rfl rfl ?_
        refine qg_9_6 C hi tw_182 dX10_distance_36 ?_
        refine q_ldc2 C dX10_distance_39 tw_752 ?_
        refine q_lxor C dX10_distance_42 ?_
        refine q_land C dX10_distance_43 ?_
        refine q_lor C dX10_distance_44 ?_
        refine q_lstore C [(7, .long (x4 ||| (q3.1 &&& ((q3.2.2 i 6) ^^^ (-1 : Int64))))), (0, .ref (ad (i))), (2, .long x2), (4, .long x4), (6, .int x6)] dX10_distance_45 (by decide) rfl ?_
        refine q_lload C 0 dX10_distance_47 rfl ?_
        refine q_lload C 3 dX10_distance_49 rfl ?_
        refine q_lcmp C dX10_distance_51 ?_
        refine q_if_ne (tgt := 57) C dX10_distance_52 (by decide) (fun c5 => ?_) (fun c5 => ?_)
        · replace hF := ife c5 hF
          refine q_lload C 0 dX10_distance_57 rfl ?_
          refine q_lstore C [(4, .long (x4 ||| (q3.1 &&& ((q3.2.2 i 6) ^^^ (-1 : Int64))))), (7, .long (x4 ||| (q3.1 &&& ((q3.2.2 i 6) ^^^ (-1 : Int64))))), (0, .ref (ad (i))), (2, .long x2), (6, .int x6)] dX10_distance_59 (by decide) rfl ?_
          refine q_iinc C 4 [(6, .int (x6 + 1)), (4, .long (x4 ||| (q3.1 &&& ((q3.2.2 i 6) ^^^ (-1 : Int64))))), (7, .long (x4 ||| (q3.1 &&& ((q3.2.2 i 6) ^^^ (-1 : Int64))))), (0, .ref (ad (i))), (2, .long x2)] dX10_distance_61 rfl rfl (by decide) rfl ?_
          refine q_goto (tgt := 8) C dX10_distance_64 (by decide) ?_
          refine q_sub [3, 4, 1, 0] rfl ?_
          exact ih _ _ _ _ hF
        · replace hF := ift c5 hF
          cases hF
          refine q_sub [] rfl ?_
          exact hx1 rfl
      · replace hF := ife c2 hF
        cases hF
        refine q_sub [3] rfl ?_
        exact hx0 rfl
set_option maxHeartbeats 4000000 in
set_option maxRecDepth 100000 in
theorem c_X10_distance (l : Launch) (D : va_G) (ad : Nat → Nat) (ca : Nat → ClassId) (kz : Nat → Nat) (hJ : pInj ad) (n : Nat) {i : Nat} (hi : pis i 9) (a1 : Int32) (a2 : Int64) (σ : PS) (out : Int32 × PS) (hF : F_X10_distance n i a1 a2 σ = some out) : Met l yX10_distance (Cond.code yX10_distance cX10_distance 9 (Option.some Jvm.ClassFile.FieldType.int) :: gw_tbl) { frames := 1, cells := 0, slots := 0, locals := 28 } (va_Pc [.ref (ad (i)), .int a1, .long a2] (pU D ad ca kz σ)) (pQi D ad ca out) 0 0 (pAD ad) := by
  refine q_entry (own := "AskedCamp$World") hJ (by decide) rfl (Nat.le_of_ble_eq_true rfl) (fun p e s m below meth c C hr hlk => ?_)
  refine q_lv [(0, .ref (ad (i))), (1, .int a1), (2, .long a2)] rfl ?_
  rw [F_X10_distance] at hF
  refine q_lconst (v := 1) C dX10_distance_0 (by decide) ?_
  refine q_iload_n C 1 dX10_distance_1 rfl rfl ?_
  refine q_lshl C dX10_distance_2 ?_
  refine q_lstore C [(4, .long ((1 : Int64) <<< (a1.toInt64 &&& 63))), (0, .ref (ad (i))), (1, .int a1), (2, .long a2)] dX10_distance_3 (by decide) rfl ?_
  refine q_iconst (v := 0) C dX10_distance_5 (by decide) ?_
  refine q_istore C [(6, .int 0), (4, .long ((1 : Int64) <<< (a1.toInt64 &&& 63))), (0, .ref (ad (i))), (1, .int a1), (2, .long a2)] dX10_distance_6 (by decide) rfl ?_
  obtain ⟨o6, h7, hF⟩ := bnd hF
  try dsimp only at hF
  refine q_sub [2, 4, 1, 0] rfl ?_
  refine l_X10_distance_8 C ⟨Nat.le_of_ble_eq_true rfl, Nat.le_of_ble_eq_true rfl⟩ hi o6 (fun eo6_0 => ?_) (fun eo6_1 => ?_) (fun eo6_2 => ?_) n _ _ _ _ h7
  · -- exit 0
    replace hF := ift eo6_0 hF
    refine q_iload C 0 dX10_distance_24 rfl ?_
    exact q_iret C hr hlk dX10_distance_26 hF
  · -- exit 1
    replace hF := ife (by rw [eo6_1]; decide) hF
    replace hF := ift eo6_1 hF
    refine q_iconst (v := -1) C dX10_distance_55 (by decide) ?_
    exact q_iret C hr hlk dX10_distance_56 hF
  · -- exit 2
    replace hF := ife (by rw [eo6_2]; decide) hF
    replace hF := ife (by rw [eo6_2]; decide) hF
    refine q_iconst (v := -1) C dX10_distance_67 (by decide) ?_
    exact q_iret C hr hlk dX10_distance_68 hF
-- X10_everAsked
def L_X10_everAsked_4 (n : Nat) (i : Nat) : Nat → Int32 → Int32 → PS → Option (Int32 × PS)
  | 0, _, _, _ => none
  | k + 1, x1, x2, σ => (if (σ.1 i 5) ≤ x2 then some (x1, σ) else (if 0 ≤ x2 ∧ x2.toNatClampNeg < 6 then (if (σ.1 (i + 3) x2.toNatClampNeg) ≤ 0 then L_X10_everAsked_4 n i k x1 (x2 + 1) σ else L_X10_everAsked_4 n i k (x1 ||| ((1 : Int32) <<< (x2 &&& 31))) (x2 + 1) σ) else none))
def F_X10_everAsked (n : Nat) (i : Nat) (σ : PS) : Option (Int32 × PS) := (L_X10_everAsked_4 n i n (0 : Int32) (0 : Int32) σ).bind (fun o4 => some (o4.1, o4.2))
theorem gm_X10_everAsked : gM "AskedCamp$World" yX10_everAsked (Cond.code yX10_everAsked cX10_everAsked 3 (Option.some Jvm.ClassFile.FieldType.int)) 0 := ⟨by decide +kernel, tw_692, tw_693, tw_7, tw_694⟩
set_option maxHeartbeats 4000000 in
set_option maxRecDepth 100000 in
theorem l_X10_everAsked_4 {p : Program} {l : Launch} {e : Env} {R : Room} {s : State} {m : MethodId} {args : Array Value} {below : List Frame} {meth : Method} {c : Code} {D : va_G} {ad : Nat → Nat} {ca : Nat → ClassId} {kz : Nat → Nat} {Q : State → Prop} (C : pC p s m args c cX10_everAsked "AskedCamp$World" 3 D ad ca kz) (hR : 0 ≤ R.frames ∧ 0 ≤ R.locals) {n : Nat} {i : Nat} (hi : pis i 9) (o : Int32 × PS) (hx0 : PW p l e R s m args below meth c 3 D ad ca 0 0 Q (o.2) 33 [(1, .int o.1)] []) : ∀ (k : Nat) (x1 : Int32) (x2 : Int32) (σ : PS), L_X10_everAsked_4 n i k x1 x2 σ = some o → PW p l e R s m args below meth c 3 D ad ca 0 0 Q σ 4 [(0, .ref (ad (i))), (1, .int x1), (2, .int x2)] [] := by
  intro k
  induction k with
  | zero => intro x1 x2 σ hF; exact nomatch (show (none : Option (Int32 × PS)) = some o from hF)
  | succ k ih =>
    intro x1 x2 σ hF
    rw [L_X10_everAsked_4] at hF
    refine q_iload_n C 2 dX10_everAsked_4 rfl rfl ?_
    refine q_aload_n C 0 dX10_everAsked_5 rfl rfl ?_
    refine qg_9_5 C hi tw_178 dX10_everAsked_6 ?_
    refine q_icmp_ge (tgt := 33) C dX10_everAsked_9 (by decide) (fun c1 => ?_) (fun c1 => ?_)
    · replace hF := ift c1 hF
      cases hF
      refine q_sub [1] rfl ?_
      exact hx0
    · replace hF := ife c1 hF
      refine q_aload_n C 0 dX10_everAsked_12 rfl rfl ?_
      refine qg_9_9 C hi tw_193 dX10_everAsked_13 ?_
      refine q_iload_n C 2 dX10_everAsked_16 rfl rfl ?_
      obtain ⟨g2, hF⟩ := grd hF
      refine q_iald C (pkW hi).2.2.1 (vp_of g2) dX10_everAsked_17 ?_
      refine q_if_le (tgt := 27) C dX10_everAsked_18 (by decide) (fun c3 => ?_) (fun c3 => ?_)
      · replace hF := ift c3 hF
        refine q_iinc C 2 [(2, .int (x2 + 1)), (0, .ref (ad (i))), (1, .int x1)] dX10_everAsked_27 rfl rfl (by decide) rfl ?_
        refine q_goto (tgt := 4) C dX10_everAsked_30 (by decide) ?_
        refine q_sub [1, 2, 0] rfl ?_
        exact ih _ _ _ hF
      · replace hF := ife c3 hF
        refine q_iload_n C 1 dX10_everAsked_21 rfl rfl ?_
        refine q_iconst (v := 1) C dX10_everAsked_22 (by decide) ?_
        refine q_iload_n C 2 dX10_everAsked_23 rfl rfl ?_
        refine q_ishl C dX10_everAsked_24 ?_
        refine q_ior C dX10_everAsked_25 ?_
        refine q_istore_n C [(1, .int (x1 ||| ((1 : Int32) <<< (x2 &&& 31)))), (0, .ref (ad (i))), (2, .int x2)] dX10_everAsked_26 rfl (by decide) rfl ?_
        refine q_iinc C 2 [(2, .int (x2 + 1)), (1, .int (x1 ||| ((1 : Int32) <<< (x2 &&& 31)))), (0, .ref (ad (i)))] dX10_everAsked_27 rfl rfl (by decide) rfl ?_
        refine q_goto (tgt := 4) C dX10_everAsked_30 (by decide) ?_
        refine q_sub [2, 1, 0] rfl ?_
        exact ih _ _ _ hF
set_option maxHeartbeats 4000000 in
set_option maxRecDepth 100000 in
theorem c_X10_everAsked (l : Launch) (D : va_G) (ad : Nat → Nat) (ca : Nat → ClassId) (kz : Nat → Nat) (hJ : pInj ad) (n : Nat) {i : Nat} (hi : pis i 9) (σ : PS) (out : Int32 × PS) (hF : F_X10_everAsked n i σ = some out) : Met l yX10_everAsked (Cond.code yX10_everAsked cX10_everAsked 3 (Option.some Jvm.ClassFile.FieldType.int) :: gw_tbl) { frames := 0, cells := 0, slots := 0, locals := 0 } (va_Pc [.ref (ad (i))] (pU D ad ca kz σ)) (pQi D ad ca out) 0 0 (pAD ad) := by
  refine q_entry (own := "AskedCamp$World") hJ (by decide) rfl (Nat.le_of_ble_eq_true rfl) (fun p e s m below meth c C hr hlk => ?_)
  refine q_lv [(0, .ref (ad (i)))] rfl ?_
  rw [F_X10_everAsked] at hF
  refine q_iconst (v := 0) C dX10_everAsked_0 (by decide) ?_
  refine q_istore_n C [(1, .int 0), (0, .ref (ad (i)))] dX10_everAsked_1 rfl (by decide) rfl ?_
  refine q_iconst (v := 0) C dX10_everAsked_2 (by decide) ?_
  refine q_istore_n C [(2, .int 0), (1, .int 0), (0, .ref (ad (i)))] dX10_everAsked_3 rfl (by decide) rfl ?_
  obtain ⟨o4, h5, hF⟩ := bnd hF
  try dsimp only at hF
  refine q_sub [2, 1, 0] rfl ?_
  refine l_X10_everAsked_4 C ⟨Nat.le_of_ble_eq_true rfl, Nat.le_of_ble_eq_true rfl⟩ hi o4 ?_ n _ _ _ h5
  refine q_iload_n C 0 dX10_everAsked_33 rfl rfl ?_
  exact q_iret C hr hlk dX10_everAsked_34 hF
