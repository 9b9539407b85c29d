-- AskedCamp$World
def iz_X10_init (i : Nat) (σ : PS) : PS := zr (zr (zr (zr (zr σ (i + 1)) (i + 2)) (i + 3)) (i + 4)) (i + 5)
def ir_X10_init (i : Nat) (ρ : RF) : RF := sf (zf (sf (zf (sf (zf (sf (zf (sf (zf ρ (i + 1)) i 7) (i + 2)) i 8) (i + 3)) i 9) (i + 4)) i 10) (i + 5)) i 11
theorem gm_X10_init : gI yX10_init (Cond.code yX10_init cX10_init 1 none) 0 := ⟨by decide +kernel, tw_153, tw_7, tw_154⟩
set_option maxHeartbeats 8000000 in
set_option maxRecDepth 100000 in
theorem i_X10_init (l : Launch) (D : va_G) (B : Nat) (ca : Nat → ClassId) {i : Nat} (hi : pis i 9) (σ : PS) (ρ : RF) : Met l yX10_init (Cond.code yX10_init cX10_init 1 none :: gw_tbl) { frames := 1, cells := 5, slots := 60, locals := 20 } (va_Pc [.ref (pad B (i))] (gU D B ca (i + 1) σ ρ)) (gQv D B ca (i + 6, iz_X10_init i σ, ir_X10_init i ρ)) 5 60 (fun q => B ≤ q) := by
  refine g_entry (own := "AskedCamp$World") (by decide) rfl rfl (Nat.le_of_ble_eq_true rfl) (fun p e s m below meth c C hr hlk hm => ?_)
  refine g_lv [(0, .ref (pad B (i)))] rfl ?_
  refine g_aload_n C 0 dX10_init_0 rfl rfl ?_
  refine g_objInit C tw_155 tw_28 tw_29 dX10_init_1 ⟨Nat.le_of_ble_eq_true rfl, Nat.le_of_ble_eq_true rfl⟩ ?_
  refine g_aload_n C 0 dX10_init_4 rfl rfl ?_
  refine g_bipush (v := 6) C dX10_init_5 (by decide) ?_
  refine g_newa21 C (pkW hi).1.2 tw_109 (by decide) ⟨Nat.le_of_ble_eq_true rfl, Nat.le_of_ble_eq_true rfl⟩ dX10_init_7 ?_
  refine g_n (n1 := i + 2) (by omega) ?_
  refine gs_9_7 (i := i) C (by omega) hi.2 rfl hm tw_187 dX10_init_9 ?_
  refine g_aload_n C 0 dX10_init_12 rfl rfl ?_
  refine g_bipush (v := 6) C dX10_init_13 (by decide) ?_
  refine g_newa21 C (pkW hi).2.1.2 tw_109 (by decide) ⟨Nat.le_of_ble_eq_true rfl, Nat.le_of_ble_eq_true rfl⟩ dX10_init_15 ?_
  refine g_n (n1 := i + 3) (by omega) ?_
  refine gs_9_8 (i := i) C (by omega) hi.2 rfl hm tw_191 dX10_init_17 ?_
  refine g_aload_n C 0 dX10_init_20 rfl rfl ?_
  refine g_bipush (v := 6) C dX10_init_21 (by decide) ?_
  refine g_newa21 C (pkW hi).2.2.1.2 tw_109 (by decide) ⟨Nat.le_of_ble_eq_true rfl, Nat.le_of_ble_eq_true rfl⟩ dX10_init_23 ?_
  refine g_n (n1 := i + 4) (by omega) ?_
  refine gs_9_9 (i := i) C (by omega) hi.2 rfl hm tw_193 dX10_init_25 ?_
  refine g_aload_n C 0 dX10_init_28 rfl rfl ?_
  refine g_bipush (v := 6) C dX10_init_29 (by decide) ?_
  refine g_newa21 C (pkW hi).2.2.2.1.2 tw_109 (by decide) ⟨Nat.le_of_ble_eq_true rfl, Nat.le_of_ble_eq_true rfl⟩ dX10_init_31 ?_
  refine g_n (n1 := i + 5) (by omega) ?_
  refine gs_9_10 (i := i) C (by omega) hi.2 rfl hm tw_196 dX10_init_33 ?_
  refine g_aload_n C 0 dX10_init_36 rfl rfl ?_
  refine g_bipush (v := 36) C dX10_init_37 (by decide) ?_
  refine g_newa21 C (pkW hi).2.2.2.2.2 tw_109 (by decide) ⟨Nat.le_of_ble_eq_true rfl, Nat.le_of_ble_eq_true rfl⟩ dX10_init_39 ?_
  refine g_n (n1 := i + 6) (by omega) ?_
  refine gs_9_11 (i := i) C (by omega) hi.2 rfl hm tw_199 dX10_init_41 ?_
  exact g_vret C hr hlk dX10_init_44 rfl
-- AskedCamp$Tape
def iz_X9_init (σ : PS) : PS := zr σ 2
def ir_X9_init (ρ : RF) : RF := sf (zf ρ 2) 1 0
theorem gm_X9_init : gI yX9_init (Cond.code yX9_init cX9_init 1 none) 0 := ⟨by decide +kernel, tw_33, tw_2, tw_34⟩
set_option maxHeartbeats 8000000 in
set_option maxRecDepth 100000 in
theorem i_X9_init (l : Launch) (D : va_G) (B : Nat) (ca : Nat → ClassId) (σ : PS) (ρ : RF) : Met l yX9_init (Cond.code yX9_init cX9_init 1 none :: gw_tbl) { frames := 1, cells := 1, slots := 400, locals := 20 } (va_Pc [.ref (pad B (1))] (gU D B ca (2) σ ρ)) (gQv D B ca (3, iz_X9_init σ, ir_X9_init ρ)) 1 400 (fun q => B ≤ q) := by
  refine g_entry (own := "AskedCamp$Tape") (by decide) rfl rfl (Nat.le_of_ble_eq_true rfl) (fun p e s m below meth c C hr hlk hm => ?_)
  refine g_lv [(0, .ref (pad B (1)))] rfl ?_
  refine g_aload_n C 0 dX9_init_0 rfl rfl ?_
  refine g_objInit C tw_35 tw_28 tw_29 dX9_init_1 ⟨Nat.le_of_ble_eq_true rfl, Nat.le_of_ble_eq_true rfl⟩ ?_
  refine g_aload_n C 0 dX9_init_4 rfl rfl ?_
  refine g_sipush (v := 400) C dX9_init_5 (by decide) ?_
  refine g_newa20 C pa_2.2 tw_65 (by decide) ⟨Nat.le_of_ble_eq_true rfl, Nat.le_of_ble_eq_true rfl⟩ dX9_init_8 ?_
  refine g_n (n1 := 3) rfl ?_
  refine gs_8_0 (i := 1) C (by decide) pi_1.2 rfl hm tw_36 dX9_init_10 ?_
  exact g_vret C hr hlk dX9_init_13 rfl
-- AskedCamp$CampReader
def iz_X1_init (σ : PS) : PS := σ
def ir_X1_init (ρ : RF) : RF := sf ρ 3 0
theorem gm_X1_init : gI yX1_init (Cond.code yX1_init cX1_init 2 none) 1 := ⟨by decide +kernel, tw_69, tw_3, tw_70⟩
set_option maxHeartbeats 8000000 in
set_option maxRecDepth 100000 in
theorem i_X1_init (l : Launch) (D : va_G) (B : Nat) (ca : Nat → ClassId) (σ : PS) (ρ : RF) : Met l yX1_init (Cond.code yX1_init cX1_init 2 none :: gw_tbl) { frames := 1, cells := 0, slots := 0, locals := 20 } (va_Pc [.ref (pad B (3)), .ref (pad B (1))] (gU D B ca (4) σ ρ)) (gQv D B ca (4, iz_X1_init σ, ir_X1_init ρ)) 0 0 (fun q => B ≤ q) := by
  refine g_entry (own := "AskedCamp$CampReader") (by decide) rfl rfl (Nat.le_of_ble_eq_true rfl) (fun p e s m below meth c C hr hlk hm => ?_)
  refine g_lv [(0, .ref (pad B (3))), (1, .ref (pad B (1)))] rfl ?_
  refine g_aload_n C 0 dX1_init_0 rfl rfl ?_
  refine g_objInit C tw_71 tw_28 tw_29 dX1_init_1 ⟨Nat.le_of_ble_eq_true rfl, Nat.le_of_ble_eq_true rfl⟩ ?_
  refine g_aload_n C 0 dX1_init_4 rfl rfl ?_
  refine g_aload_n C 1 dX1_init_5 rfl rfl ?_
  refine gs_1_0 (i := 3) C (by decide) pi_3.2 rfl hm tw_72 dX1_init_6 ?_
  exact g_vret C hr hlk dX1_init_9 rfl
-- AskedCamp$RuleReader
def iz_X5_init (σ : PS) : PS := zr (zr σ 5) 6
def ir_X5_init (ρ : RF) : RF := sf (zf (sf (zf (sf ρ 4 2) 5) 4 0) 6) 4 3
theorem gm_X5_init : gI yX5_init (Cond.code yX5_init cX5_init 2 none) 1 := ⟨by decide +kernel, tw_79, tw_4, tw_80⟩
set_option maxHeartbeats 8000000 in
set_option maxRecDepth 100000 in
theorem i_X5_init (l : Launch) (D : va_G) (B : Nat) (ca : Nat → ClassId) (σ : PS) (ρ : RF) : Met l yX5_init (Cond.code yX5_init cX5_init 2 none :: gw_tbl) { frames := 1, cells := 2, slots := 433, locals := 20 } (va_Pc [.ref (pad B (4)), .ref (pad B (1))] (gU D B ca (5) σ ρ)) (gQv D B ca (7, iz_X5_init σ, ir_X5_init ρ)) 2 433 (fun q => B ≤ q) := by
  refine g_entry (own := "AskedCamp$RuleReader") (by decide) rfl rfl (Nat.le_of_ble_eq_true rfl) (fun p e s m below meth c C hr hlk hm => ?_)
  refine g_lv [(0, .ref (pad B (4))), (1, .ref (pad B (1)))] rfl ?_
  refine g_aload_n C 0 dX5_init_0 rfl rfl ?_
  refine g_objInit C tw_81 tw_28 tw_29 dX5_init_1 ⟨Nat.le_of_ble_eq_true rfl, Nat.le_of_ble_eq_true rfl⟩ ?_
  refine g_aload_n C 0 dX5_init_4 rfl rfl ?_
  refine g_aload_n C 1 dX5_init_5 rfl rfl ?_
  refine gs_4_2 (i := 4) C (by decide) pi_4.2 rfl hm tw_86 dX5_init_6 ?_
  refine g_aload_n C 0 dX5_init_9 rfl rfl ?_
  refine g_sipush (v := 400) C dX5_init_10 (by decide) ?_
  refine g_newa21 C pa_5.2 tw_109 (by decide) ⟨Nat.le_of_ble_eq_true rfl, Nat.le_of_ble_eq_true rfl⟩ dX5_init_13 ?_
  refine g_n (n1 := 6) rfl ?_
  refine gs_4_0 (i := 4) C (by decide) pi_4.2 rfl hm tw_82 dX5_init_15 ?_
  refine g_aload_n C 0 dX5_init_18 rfl rfl ?_
  refine g_bipush (v := 33) C dX5_init_19 (by decide) ?_
  refine g_newa21 C pa_6.2 tw_109 (by decide) ⟨Nat.le_of_ble_eq_true rfl, Nat.le_of_ble_eq_true rfl⟩ dX5_init_21 ?_
  refine g_n (n1 := 7) rfl ?_
  refine gs_4_3 (i := 4) C (by decide) pi_4.2 rfl hm tw_87 dX5_init_23 ?_
  exact g_vret C hr hlk dX5_init_26 rfl
-- AskedCamp$RuleBook
def iz_X4_init (σ : PS) : PS := zr (zr (zr (zrR σ 8 6) 15) 16) 17
def ir_X4_init (ρ : RF) : RF := sf (zf (sf (zf (sf (zf (sf (mf ρ 8 6) 7 1) 15) 7 2) 16) 7 3) 17) 7 4
theorem gm_X4_init : gI yX4_init (Cond.code yX4_init cX4_init 1 none) 0 := ⟨by decide +kernel, tw_113, tw_5, tw_114⟩
set_option maxHeartbeats 8000000 in
set_option maxRecDepth 100000 in
theorem i_X4_init (l : Launch) (D : va_G) (B : Nat) (ca : Nat → ClassId) (σ : PS) (ρ : RF) : Met l yX4_init (Cond.code yX4_init cX4_init 1 none :: gw_tbl) { frames := 1, cells := 10, slots := 2478, locals := 20 } (va_Pc [.ref (pad B (7))] (gU D B ca (8) σ ρ)) (gQv D B ca (18, iz_X4_init σ, ir_X4_init ρ)) 10 2478 (fun q => B ≤ q) := by
  refine g_entry (own := "AskedCamp$RuleBook") (by decide) rfl rfl (Nat.le_of_ble_eq_true rfl) (fun p e s m below meth c C hr hlk hm => ?_)
  refine g_lv [(0, .ref (pad B (7)))] rfl ?_
  refine g_aload_n C 0 dX4_init_0 rfl rfl ?_
  refine g_objInit C tw_115 tw_28 tw_29 dX4_init_1 ⟨Nat.le_of_ble_eq_true rfl, Nat.le_of_ble_eq_true rfl⟩ ?_
  refine g_aload_n C 0 dX4_init_4 rfl rfl ?_
  refine g_bipush (v := 6) C dX4_init_5 (by decide) ?_
  refine g_sipush (v := 400) C dX4_init_7 (by decide) ?_
  refine g_mna26 C pa_8.2 (by decide) rfl tw_116 tw_109 (by decide) (by decide) (by decide) (by decide) (by decide) ⟨Nat.le_of_ble_eq_true rfl, Nat.le_of_ble_eq_true rfl⟩ dX4_init_10 ?_
  refine g_n (n1 := 15) rfl ?_
  refine gs_3_1 (i := 7) C (by decide) pi_7.2 rfl hm tw_121 dX4_init_14 ?_
  refine g_aload_n C 0 dX4_init_17 rfl rfl ?_
  refine g_bipush (v := 6) C dX4_init_18 (by decide) ?_
  refine g_newa21 C pa_15.2 tw_109 (by decide) ⟨Nat.le_of_ble_eq_true rfl, Nat.le_of_ble_eq_true rfl⟩ dX4_init_20 ?_
  refine g_n (n1 := 16) rfl ?_
  refine gs_3_2 (i := 7) C (by decide) pi_7.2 rfl hm tw_122 dX4_init_22 ?_
  refine g_aload_n C 0 dX4_init_25 rfl rfl ?_
  refine g_bipush (v := 6) C dX4_init_26 (by decide) ?_
  refine g_newa23 C pa_16.2 tw_142 (by decide) ⟨Nat.le_of_ble_eq_true rfl, Nat.le_of_ble_eq_true rfl⟩ dX4_init_28 ?_
  refine g_n (n1 := 17) rfl ?_
  refine gs_3_3 (i := 7) C (by decide) pi_7.2 rfl hm tw_123 dX4_init_30 ?_
  refine g_aload_n C 0 dX4_init_33 rfl rfl ?_
  refine g_bipush (v := 60) C dX4_init_34 (by decide) ?_
  refine g_newa22 C pa_17.2 tw_143 (by decide) ⟨Nat.le_of_ble_eq_true rfl, Nat.le_of_ble_eq_true rfl⟩ dX4_init_36 ?_
  refine g_n (n1 := 18) rfl ?_
  refine gs_3_4 (i := 7) C (by decide) pi_7.2 rfl hm tw_124 dX4_init_38 ?_
  exact g_vret C hr hlk dX4_init_41 rfl
-- AskedCamp$Scene
def iz_X6_init (i : Nat) (σ : PS) : PS := psI (zr (zr (iz_X10_init (i + 7) (zr (iz_X10_init (i + 1) (zr σ (i + 1))) (i + 7))) (i + 13)) (i + 14)) i 5 (-1)
def ir_X6_init (i : Nat) (ρ : RF) : RF := sf (zf (sf (zf (sf (ir_X10_init (i + 7) (zf (sf (ir_X10_init (i + 1) (zf ρ (i + 1))) i 0) (i + 7))) i 1) (i + 13)) i 2) (i + 14)) i 3
theorem gm_X6_init : gI yX6_init (Cond.code yX6_init cX6_init 1 none) 0 := ⟨by decide +kernel, tw_147, tw_6, tw_148⟩
set_option maxHeartbeats 8000000 in
set_option maxRecDepth 100000 in
theorem i_X6_init (l : Launch) (D : va_G) (B : Nat) (ca : Nat → ClassId) {i : Nat} (hi : pis i 5) (σ : PS) (ρ : RF) : Met l yX6_init (Cond.code yX6_init cX6_init 1 none :: gw_tbl) { frames := 2, cells := 14, slots := 164, locals := 40 } (va_Pc [.ref (pad B (i))] (gU D B ca (i + 1) σ ρ)) (gQv D B ca (i + 15, iz_X6_init i σ, ir_X6_init i ρ)) 14 164 (fun q => B ≤ q) := by
  refine g_entry (own := "AskedCamp$Scene") (by decide) rfl rfl (Nat.le_of_ble_eq_true rfl) (fun p e s m below meth c C hr hlk hm => ?_)
  refine g_lv [(0, .ref (pad B (i)))] rfl ?_
  refine g_aload_n C 0 dX6_init_0 rfl rfl ?_
  refine g_objInit C tw_149 tw_28 tw_29 dX6_init_1 ⟨Nat.le_of_ble_eq_true rfl, Nat.le_of_ble_eq_true rfl⟩ ?_
  refine g_aload_n C 0 dX6_init_4 rfl rfl ?_
  refine g_new C inC_9 tyX10 tyX10_ok rfl tw_150 tw_151 tw_7 (pg_b9 (pkS hi).1.2) pg_d9 ⟨Nat.le_of_ble_eq_true rfl, Nat.le_of_ble_eq_true rfl⟩ dX6_init_5 ?_
  refine g_n (n1 := i + 2) (by omega) ?_
  refine g_dup C dX6_init_8 rfl ?_
  refine g_call C [] (i_X10_init l D B ca (pkS hi).1 _ _) tw_152 gm_X10_init ⟨rfl, rfl⟩ ⟨Nat.le_of_ble_eq_true rfl, Nat.le_of_ble_eq_true rfl⟩ rfl (Nat.le_of_ble_eq_true rfl) dX6_init_9 ⟨Nat.le_of_ble_eq_true rfl, Nat.le_of_ble_eq_true rfl⟩ ?_
  show PG _ _ _ _ _ _ _ _ _ _ _ _ _ _ _ _ _ (i + 7) (iz_X10_init (i + 1) (zr σ (i + 1))) (ir_X10_init (i + 1) (zf ρ (i + 1))) _ _ _
  refine gs_5_0 (i := i) C (by omega) hi.2 rfl hm tw_227 dX6_init_12 ?_
  refine g_aload_n C 0 dX6_init_15 rfl rfl ?_
  refine g_new C inC_9 tyX10 tyX10_ok rfl tw_150 tw_151 tw_7 (pg_b9 (pkS hi).2.1.2) pg_d9 ⟨Nat.le_of_ble_eq_true rfl, Nat.le_of_ble_eq_true rfl⟩ dX6_init_16 ?_
  refine g_n (n1 := i + 8) (by omega) ?_
  refine g_dup C dX6_init_19 rfl ?_
  refine g_call C [] (i_X10_init l D B ca (pkS hi).2.1 _ _) tw_152 gm_X10_init ⟨rfl, rfl⟩ ⟨Nat.le_of_ble_eq_true rfl, Nat.le_of_ble_eq_true rfl⟩ rfl (Nat.le_of_ble_eq_true rfl) dX6_init_20 ⟨Nat.le_of_ble_eq_true rfl, Nat.le_of_ble_eq_true rfl⟩ ?_
  show PG _ _ _ _ _ _ _ _ _ _ _ _ _ _ _ _ _ (i + 13) (iz_X10_init (i + 7) (zr (iz_X10_init (i + 1) (zr σ (i + 1))) (i + 7))) (ir_X10_init (i + 7) (zf (sf (ir_X10_init (i + 1) (zf ρ (i + 1))) i 0) (i + 7))) _ _ _
  refine gs_5_1 (i := i) C (by omega) hi.2 rfl hm tw_230 dX6_init_23 ?_
  refine g_aload_n C 0 dX6_init_26 rfl rfl ?_
  refine g_bipush (v := 10) C dX6_init_27 (by decide) ?_
  refine g_newa21 C (pkS hi).2.2.1.2 tw_109 (by decide) ⟨Nat.le_of_ble_eq_true rfl, Nat.le_of_ble_eq_true rfl⟩ dX6_init_29 ?_
  refine g_n (n1 := i + 14) (by omega) ?_
  refine gs_5_2 (i := i) C (by omega) hi.2 rfl hm tw_233 dX6_init_31 ?_
  refine g_aload_n C 0 dX6_init_34 rfl rfl ?_
  refine g_bipush (v := 10) C dX6_init_35 (by decide) ?_
  refine g_newa21 C (pkS hi).2.2.2.2 tw_109 (by decide) ⟨Nat.le_of_ble_eq_true rfl, Nat.le_of_ble_eq_true rfl⟩ dX6_init_37 ?_
  refine g_n (n1 := i + 15) (by omega) ?_
  refine gs_5_3 (i := i) C (by omega) hi.2 rfl hm tw_235 dX6_init_39 ?_
  refine g_aload_n C 0 dX6_init_42 rfl rfl ?_
  refine g_iconst (v := -1) C dX6_init_43 (by decide) ?_
  refine gi_5_5 C (by omega) hi.2 tw_240 dX6_init_44 ?_
  exact g_vret C hr hlk dX6_init_47 rfl
-- AskedCamp$Acts
def iz_X0_init (σ : PS) : PS := iz_X10_init 210 (zr (iz_X10_init 204 (zr (iz_X10_init 198 (zr (iz_X10_init 192 (zr (iz_X10_init 186 (zr (iz_X10_init 180 (zr (iz_X10_init 174 (zr (iz_X10_init 168 (zr (iz_X10_init 162 (zr (iz_X10_init 156 (zr (iz_X10_init 150 (zr (iz_X10_init 144 (zr (iz_X10_init 138 (zr (iz_X10_init 132 (zr (iz_X10_init 126 (zr (iz_X10_init 120 (zr (iz_X10_init 114 (zr (iz_X10_init 108 (zr (iz_X10_init 102 (zr (iz_X10_init 96 (zr (zr σ 95) 96)) 102)) 108)) 114)) 120)) 126)) 132)) 138)) 144)) 150)) 156)) 162)) 168)) 174)) 180)) 186)) 192)) 198)) 204)) 210)
def ir_X0_init (ρ : RF) : RF := sf (ir_X10_init 210 (zf (sf (ir_X10_init 204 (zf (sf (ir_X10_init 198 (zf (sf (ir_X10_init 192 (zf (sf (ir_X10_init 186 (zf (sf (ir_X10_init 180 (zf (sf (ir_X10_init 174 (zf (sf (ir_X10_init 168 (zf (sf (ir_X10_init 162 (zf (sf (ir_X10_init 156 (zf (sf (ir_X10_init 150 (zf (sf (ir_X10_init 144 (zf (sf (ir_X10_init 138 (zf (sf (ir_X10_init 132 (zf (sf (ir_X10_init 126 (zf (sf (ir_X10_init 120 (zf (sf (ir_X10_init 114 (zf (sf (ir_X10_init 108 (zf (sf (ir_X10_init 102 (zf (sf (ir_X10_init 96 (zf (sf (zf ρ 95) 94 1) 96)) 95 0) 102)) 95 1) 108)) 95 2) 114)) 95 3) 120)) 95 4) 126)) 95 5) 132)) 95 6) 138)) 95 7) 144)) 95 8) 150)) 95 9) 156)) 95 10) 162)) 95 11) 168)) 95 12) 174)) 95 13) 180)) 95 14) 186)) 95 15) 192)) 95 16) 198)) 95 17) 204)) 95 18) 210)) 95 19
theorem gm_X0_init : gI yX0_init (Cond.code yX0_init cX0_init 2 none) 0 := ⟨by decide +kernel, tw_268, tw_8, tw_269⟩
set_option maxHeartbeats 8000000 in
set_option maxRecDepth 100000 in
theorem i_X0_init (l : Launch) (D : va_G) (B : Nat) (ca : Nat → ClassId) (σ : PS) (ρ : RF) : Met l yX0_init (Cond.code yX0_init cX0_init 2 none :: gw_tbl) { frames := 2, cells := 121, slots := 1460, locals := 40 } (va_Pc [.ref (pad B (94))] (gU D B ca (95) σ ρ)) (gQv D B ca (216, iz_X0_init σ, ir_X0_init ρ)) 121 1460 (fun q => B ≤ q) := by
  refine g_entry (own := "AskedCamp$Acts") (by decide) rfl rfl (Nat.le_of_ble_eq_true rfl) (fun p e s m below meth c C hr hlk hm => ?_)
  refine g_lv [(0, .ref (pad B (94)))] rfl ?_
  refine g_aload_n C 0 dX0_init_0 rfl rfl ?_
  refine g_objInit C tw_270 tw_28 tw_29 dX0_init_1 ⟨Nat.le_of_ble_eq_true rfl, Nat.le_of_ble_eq_true rfl⟩ ?_
  refine g_aload_n C 0 dX0_init_4 rfl rfl ?_
  refine g_bipush (v := 20) C dX0_init_5 (by decide) ?_
  refine g_anew24 C pa_95.2 tw_271 (by decide) ⟨Nat.le_of_ble_eq_true rfl, Nat.le_of_ble_eq_true rfl⟩ dX0_init_7 ?_
  refine g_n (n1 := 96) rfl ?_
  refine gs_0_1 (i := 94) C (by decide) pi_94.2 rfl hm tw_276 dX0_init_10 ?_
  refine g_iconst (v := 0) C dX0_init_13 (by decide) ?_
  refine g_istore_n C [(1, .int 0), (0, .ref (pad B (94)))] dX0_init_14 rfl (by decide) rfl ?_
  refine g_iload_n C 0 dX0_init_15 rfl rfl ?_
  refine g_bipush (v := 20) C dX0_init_16 (by decide) ?_
  refine g_icmp_ge (tgt := 40) C dX0_init_18 (by decide) (fun h => absurd h (by decide)) (fun _ => ?_)
  refine g_aload_n C 1 dX0_init_21 rfl rfl ?_
  refine gg_0_1 (i := 94) C (by decide) pi_94.2 rfl tw_276 dX0_init_22 ?_
  refine g_iload_n C 0 dX0_init_25 rfl rfl ?_
  refine g_new C inC_9 tyX10 tyX10_ok rfl tw_271 tw_151 tw_7 (pg_b9 pi_96.2) pg_d9 ⟨Nat.le_of_ble_eq_true rfl, Nat.le_of_ble_eq_true rfl⟩ dX0_init_26 ?_
  refine g_n (n1 := 97) rfl ?_
  refine g_dup C dX0_init_29 rfl ?_
  refine g_call C [] (i_X10_init l D B ca pi_96 _ _) tw_273 gm_X10_init ⟨rfl, rfl⟩ ⟨Nat.le_of_ble_eq_true rfl, Nat.le_of_ble_eq_true rfl⟩ rfl (Nat.le_of_ble_eq_true rfl) dX0_init_30 ⟨Nat.le_of_ble_eq_true rfl, Nat.le_of_ble_eq_true rfl⟩ ?_
  show PG _ _ _ _ _ _ _ _ _ _ _ _ _ _ _ _ _ (102) (iz_X10_init 96 (zr (zr σ 95) 96)) (ir_X10_init 96 (zf (sf (zf ρ 95) 94 1) 96)) _ _ _
  refine g_aast24 (a := 95) (jn := 0) C ⟨by decide, pa_95.2⟩ (by decide) (by decide) (pg_c9 (pi_96.2)) dX0_init_33 ?_
  refine g_iinc C 0 [(1, .int 1), (0, .ref (pad B (94)))] dX0_init_34 rfl (by decide) (by decide) rfl ?_
  refine g_goto (tgt := 15) C dX0_init_37 (by decide) ?_
  refine g_iload_n C 0 dX0_init_15 rfl rfl ?_
  refine g_bipush (v := 20) C dX0_init_16 (by decide) ?_
  refine g_icmp_ge (tgt := 40) C dX0_init_18 (by decide) (fun h => absurd h (by decide)) (fun _ => ?_)
  refine g_aload_n C 1 dX0_init_21 rfl rfl ?_
  refine gg_0_1 (i := 94) C (by decide) pi_94.2 rfl tw_276 dX0_init_22 ?_
  refine g_iload_n C 0 dX0_init_25 rfl rfl ?_
  refine g_new C inC_9 tyX10 tyX10_ok rfl tw_271 tw_151 tw_7 (pg_b9 pi_102.2) pg_d9 ⟨Nat.le_of_ble_eq_true rfl, Nat.le_of_ble_eq_true rfl⟩ dX0_init_26 ?_
  refine g_n (n1 := 103) rfl ?_
  refine g_dup C dX0_init_29 rfl ?_
  refine g_call C [] (i_X10_init l D B ca pi_102 _ _) tw_273 gm_X10_init ⟨rfl, rfl⟩ ⟨Nat.le_of_ble_eq_true rfl, Nat.le_of_ble_eq_true rfl⟩ rfl (Nat.le_of_ble_eq_true rfl) dX0_init_30 ⟨Nat.le_of_ble_eq_true rfl, Nat.le_of_ble_eq_true rfl⟩ ?_
  show PG _ _ _ _ _ _ _ _ _ _ _ _ _ _ _ _ _ (108) (iz_X10_init 102 (zr (iz_X10_init 96 (zr (zr σ 95) 96)) 102)) (ir_X10_init 102 (zf (sf (ir_X10_init 96 (zf (sf (zf ρ 95) 94 1) 96)) 95 0) 102)) _ _ _
  refine g_aast24 (a := 95) (jn := 1) C ⟨by decide, pa_95.2⟩ (by decide) (by decide) (pg_c9 (pi_102.2)) dX0_init_33 ?_
  refine g_iinc C 0 [(1, .int 2), (0, .ref (pad B (94)))] dX0_init_34 rfl (by decide) (by decide) rfl ?_
  refine g_goto (tgt := 15) C dX0_init_37 (by decide) ?_
  refine g_iload_n C 0 dX0_init_15 rfl rfl ?_
  refine g_bipush (v := 20) C dX0_init_16 (by decide) ?_
  refine g_icmp_ge (tgt := 40) C dX0_init_18 (by decide) (fun h => absurd h (by decide)) (fun _ => ?_)
  refine g_aload_n C 1 dX0_init_21 rfl rfl ?_
  refine gg_0_1 (i := 94) C (by decide) pi_94.2 rfl tw_276 dX0_init_22 ?_
  refine g_iload_n C 0 dX0_init_25 rfl rfl ?_
  refine g_new C inC_9 tyX10 tyX10_ok rfl tw_271 tw_151 tw_7 (pg_b9 pi_108.2) pg_d9 ⟨Nat.le_of_ble_eq_true rfl, Nat.le_of_ble_eq_true rfl⟩ dX0_init_26 ?_
  refine g_n (n1 := 109) rfl ?_
  refine g_dup C dX0_init_29 rfl ?_
  refine g_call C [] (i_X10_init l D B ca pi_108 _ _) tw_273 gm_X10_init ⟨rfl, rfl⟩ ⟨Nat.le_of_ble_eq_true rfl, Nat.le_of_ble_eq_true rfl⟩ rfl (Nat.le_of_ble_eq_true rfl) dX0_init_30 ⟨Nat.le_of_ble_eq_true rfl, Nat.le_of_ble_eq_true rfl⟩ ?_
  show PG _ _ _ _ _ _ _ _ _ _ _ _ _ _ _ _ _ (114) (iz_X10_init 108 (zr (iz_X10_init 102 (zr (iz_X10_init 96 (zr (zr σ 95) 96)) 102)) 108)) (ir_X10_init 108 (zf (sf (ir_X10_init 102 (zf (sf (ir_X10_init 96 (zf (sf (zf ρ 95) 94 1) 96)) 95 0) 102)) 95 1) 108)) _ _ _
  refine g_aast24 (a := 95) (jn := 2) C ⟨by decide, pa_95.2⟩ (by decide) (by decide) (pg_c9 (pi_108.2)) dX0_init_33 ?_
  refine g_iinc C 0 [(1, .int 3), (0, .ref (pad B (94)))] dX0_init_34 rfl (by decide) (by decide) rfl ?_
  refine g_goto (tgt := 15) C dX0_init_37 (by decide) ?_
  refine g_iload_n C 0 dX0_init_15 rfl rfl ?_
  refine g_bipush (v := 20) C dX0_init_16 (by decide) ?_
  refine g_icmp_ge (tgt := 40) C dX0_init_18 (by decide) (fun h => absurd h (by decide)) (fun _ => ?_)
  refine g_aload_n C 1 dX0_init_21 rfl rfl ?_
  refine gg_0_1 (i := 94) C (by decide) pi_94.2 rfl tw_276 dX0_init_22 ?_
  refine g_iload_n C 0 dX0_init_25 rfl rfl ?_
  refine g_new C inC_9 tyX10 tyX10_ok rfl tw_271 tw_151 tw_7 (pg_b9 pi_114.2) pg_d9 ⟨Nat.le_of_ble_eq_true rfl, Nat.le_of_ble_eq_true rfl⟩ dX0_init_26 ?_
  refine g_n (n1 := 115) rfl ?_
  refine g_dup C dX0_init_29 rfl ?_
  refine g_call C [] (i_X10_init l D B ca pi_114 _ _) tw_273 gm_X10_init ⟨rfl, rfl⟩ ⟨Nat.le_of_ble_eq_true rfl, Nat.le_of_ble_eq_true rfl⟩ rfl (Nat.le_of_ble_eq_true rfl) dX0_init_30 ⟨Nat.le_of_ble_eq_true rfl, Nat.le_of_ble_eq_true rfl⟩ ?_
  show PG _ _ _ _ _ _ _ _ _ _ _ _ _ _ _ _ _ (120) (iz_X10_init 114 (zr (iz_X10_init 108 (zr (iz_X10_init 102 (zr (iz_X10_init 96 (zr (zr σ 95) 96)) 102)) 108)) 114)) (ir_X10_init 114 (zf (sf (ir_X10_init 108 (zf (sf (ir_X10_init 102 (zf (sf (ir_X10_init 96 (zf (sf (zf ρ 95) 94 1) 96)) 95 0) 102)) 95 1) 108)) 95 2) 114)) _ _ _
  refine g_aast24 (a := 95) (jn := 3) C ⟨by decide, pa_95.2⟩ (by decide) (by decide) (pg_c9 (pi_114.2)) dX0_init_33 ?_
  refine g_iinc C 0 [(1, .int 4), (0, .ref (pad B (94)))] dX0_init_34 rfl (by decide) (by decide) rfl ?_
  refine g_goto (tgt := 15) C dX0_init_37 (by decide) ?_
  refine g_iload_n C 0 dX0_init_15 rfl rfl ?_
  refine g_bipush (v := 20) C dX0_init_16 (by decide) ?_
  refine g_icmp_ge (tgt := 40) C dX0_init_18 (by decide) (fun h => absurd h (by decide)) (fun _ => ?_)
  refine g_aload_n C 1 dX0_init_21 rfl rfl ?_
  refine gg_0_1 (i := 94) C (by decide) pi_94.2 rfl tw_276 dX0_init_22 ?_
  refine g_iload_n C 0 dX0_init_25 rfl rfl ?_
  refine g_new C inC_9 tyX10 tyX10_ok rfl tw_271 tw_151 tw_7 (pg_b9 pi_120.2) pg_d9 ⟨Nat.le_of_ble_eq_true rfl, Nat.le_of_ble_eq_true rfl⟩ dX0_init_26 ?_
  refine g_n (n1 := 121) rfl ?_
  refine g_dup C dX0_init_29 rfl ?_
  refine g_call C [] (i_X10_init l D B ca pi_120 _ _) tw_273 gm_X10_init ⟨rfl, rfl⟩ ⟨Nat.le_of_ble_eq_true rfl, Nat.le_of_ble_eq_true rfl⟩ rfl (Nat.le_of_ble_eq_true rfl) dX0_init_30 ⟨Nat.le_of_ble_eq_true rfl, Nat.le_of_ble_eq_true rfl⟩ ?_
  show PG _ _ _ _ _ _ _ _ _ _ _ _ _ _ _ _ _ (126) (iz_X10_init 120 (zr (iz_X10_init 114 (zr (iz_X10_init 108 (zr (iz_X10_init 102 (zr (iz_X10_init 96 (zr (zr σ 95) 96)) 102)) 108)) 114)) 120)) (ir_X10_init 120 (zf (sf (ir_X10_init 114 (zf (sf (ir_X10_init 108 (zf (sf (ir_X10_init 102 (zf (sf (ir_X10_init 96 (zf (sf (zf ρ 95) 94 1) 96)) 95 0) 102)) 95 1) 108)) 95 2) 114)) 95 3) 120)) _ _ _
  refine g_aast24 (a := 95) (jn := 4) C ⟨by decide, pa_95.2⟩ (by decide) (by decide) (pg_c9 (pi_120.2)) dX0_init_33 ?_
  refine g_iinc C 0 [(1, .int 5), (0, .ref (pad B (94)))] dX0_init_34 rfl (by decide) (by decide) rfl ?_
  refine g_goto (tgt := 15) C dX0_init_37 (by decide) ?_
  refine g_iload_n C 0 dX0_init_15 rfl rfl ?_
  refine g_bipush (v := 20) C dX0_init_16 (by decide) ?_
  refine g_icmp_ge (tgt := 40) C dX0_init_18 (by decide) (fun h => absurd h (by decide)) (fun _ => ?_)
  refine g_aload_n C 1 dX0_init_21 rfl rfl ?_
  refine gg_0_1 (i := 94) C (by decide) pi_94.2 rfl tw_276 dX0_init_22 ?_
  refine g_iload_n C 0 dX0_init_25 rfl rfl ?_
  refine g_new C inC_9 tyX10 tyX10_ok rfl tw_271 tw_151 tw_7 (pg_b9 pi_126.2) pg_d9 ⟨Nat.le_of_ble_eq_true rfl, Nat.le_of_ble_eq_true rfl⟩ dX0_init_26 ?_
  refine g_n (n1 := 127) rfl ?_
  refine g_dup C dX0_init_29 rfl ?_
  refine g_call C [] (i_X10_init l D B ca pi_126 _ _) tw_273 gm_X10_init ⟨rfl, rfl⟩ ⟨Nat.le_of_ble_eq_true rfl, Nat.le_of_ble_eq_true rfl⟩ rfl (Nat.le_of_ble_eq_true rfl) dX0_init_30 ⟨Nat.le_of_ble_eq_true rfl, Nat.le_of_ble_eq_true rfl⟩ ?_
  show PG _ _ _ _ _ _ _ _ _ _ _ _ _ _ _ _ _ (132) (iz_X10_init 126 (zr (iz_X10_init 120 (zr (iz_X10_init 114 (zr (iz_X10_init 108 (zr (iz_X10_init 102 (zr (iz_X10_init 96 (zr (zr σ 95) 96)) 102)) 108)) 114)) 120)) 126)) (ir_X10_init 126 (zf (sf (ir_X10_init 120 (zf (sf (ir_X10_init 114 (zf (sf (ir_X10_init 108 (zf (sf (ir_X10_init 102 (zf (sf (ir_X10_init 96 (zf (sf (zf ρ 95) 94 1) 96)) 95 0) 102)) 95 1) 108)) 95 2) 114)) 95 3) 120)) 95 4) 126)) _ _ _
  refine g_aast24 (a := 95) (jn := 5) C ⟨by decide, pa_95.2⟩ (by decide) (by decide) (pg_c9 (pi_126.2)) dX0_init_33 ?_
  refine g_iinc C 0 [(1, .int 6), (0, .ref (pad B (94)))] dX0_init_34 rfl (by decide) (by decide) rfl ?_
  refine g_goto (tgt := 15) C dX0_init_37 (by decide) ?_
  refine g_iload_n C 0 dX0_init_15 rfl rfl ?_
  refine g_bipush (v := 20) C dX0_init_16 (by decide) ?_
  refine g_icmp_ge (tgt := 40) C dX0_init_18 (by decide) (fun h => absurd h (by decide)) (fun _ => ?_)
  refine g_aload_n C 1 dX0_init_21 rfl rfl ?_
  refine gg_0_1 (i := 94) C (by decide) pi_94.2 rfl tw_276 dX0_init_22 ?_
  refine g_iload_n C 0 dX0_init_25 rfl rfl ?_
  refine g_new C inC_9 tyX10 tyX10_ok rfl tw_271 tw_151 tw_7 (pg_b9 pi_132.2) pg_d9 ⟨Nat.le_of_ble_eq_true rfl, Nat.le_of_ble_eq_true rfl⟩ dX0_init_26 ?_
  refine g_n (n1 := 133) rfl ?_
  refine g_dup C dX0_init_29 rfl ?_
  refine g_call C [] (i_X10_init l D B ca pi_132 _ _) tw_273 gm_X10_init ⟨rfl, rfl⟩ ⟨Nat.le_of_ble_eq_true rfl, Nat.le_of_ble_eq_true rfl⟩ rfl (Nat.le_of_ble_eq_true rfl) dX0_init_30 ⟨Nat.le_of_ble_eq_true rfl, Nat.le_of_ble_eq_true rfl⟩ ?_
  show PG _ _ _ _ _ _ _ _ _ _ _ _ _ _ _ _ _ (138) (iz_X10_init 132 (zr (iz_X10_init 126 (zr (iz_X10_init 120 (zr (iz_X10_init 114 (zr (iz_X10_init 108 (zr (iz_X10_init 102 (zr (iz_X10_init 96 (zr (zr σ 95) 96)) 102)) 108)) 114)) 120)) 126)) 132)) (ir_X10_init 132 (zf (sf (ir_X10_init 126 (zf (sf (ir_X10_init 120 (zf (sf (ir_X10_init 114 (zf (sf (ir_X10_init 108 (zf (sf (ir_X10_init 102 (zf (sf (ir_X10_init 96 (zf (sf (zf ρ 95) 94 1) 96)) 95 0) 102)) 95 1) 108)) 95 2) 114)) 95 3) 120)) 95 4) 126)) 95 5) 132)) _ _ _
  refine g_aast24 (a := 95) (jn := 6) C ⟨by decide, pa_95.2⟩ (by decide) (by decide) (pg_c9 (pi_132.2)) dX0_init_33 ?_
  refine g_iinc C 0 [(1, .int 7), (0, .ref (pad B (94)))] dX0_init_34 rfl (by decide) (by decide) rfl ?_
  refine g_goto (tgt := 15) C dX0_init_37 (by decide) ?_
  refine g_iload_n C 0 dX0_init_15 rfl rfl ?_
  refine g_bipush (v := 20) C dX0_init_16 (by decide) ?_
  refine g_icmp_ge (tgt := 40) C dX0_init_18 (by decide) (fun h => absurd h (by decide)) (fun _ => ?_)
  refine g_aload_n C 1 dX0_init_21 rfl rfl ?_
  refine gg_0_1 (i := 94) C (by decide) pi_94.2 rfl tw_276 dX0_init_22 ?_
  refine g_iload_n C 0 dX0_init_25 rfl rfl ?_
  refine g_new C inC_9 tyX10 tyX10_ok rfl tw_271 tw_151 tw_7 (pg_b9 pi_138.2) pg_d9 ⟨Nat.le_of_ble_eq_true rfl, Nat.le_of_ble_eq_true rfl⟩ dX0_init_26 ?_
  refine g_n (n1 := 139) rfl ?_
  refine g_dup C dX0_init_29 rfl ?_
  refine g_call C [] (i_X10_init l D B ca pi_138 _ _) tw_273 gm_X10_init ⟨rfl, rfl⟩ ⟨Nat.le_of_ble_eq_true rfl, Nat.le_of_ble_eq_true rfl⟩ rfl (Nat.le_of_ble_eq_true rfl) dX0_init_30 ⟨Nat.le_of_ble_eq_true rfl, Nat.le_of_ble_eq_true rfl⟩ ?_
  show PG _ _ _ _ _ _ _ _ _ _ _ _ _ _ _ _ _ (144) (iz_X10_init 138 (zr (iz_X10_init 132 (zr (iz_X10_init 126 (zr (iz_X10_init 120 (zr (iz_X10_init 114 (zr (iz_X10_init 108 (zr (iz_X10_init 102 (zr (iz_X10_init 96 (zr (zr σ 95) 96)) 102)) 108)) 114)) 120)) 126)) 132)) 138)) (ir_X10_init 138 (zf (sf (ir_X10_init 132 (zf (sf (ir_X10_init 126 (zf (sf (ir_X10_init 120 (zf (sf (ir_X10_init 114 (zf (sf (ir_X10_init 108 (zf (sf (ir_X10_init 102 (zf (sf (ir_X10_init 96 (zf (sf (zf ρ 95) 94 1) 96)) 95 0) 102)) 95 1) 108)) 95 2) 114)) 95 3) 120)) 95 4) 126)) 95 5) 132)) 95 6) 138)) _ _ _
  refine g_aast24 (a := 95) (jn := 7) C ⟨by decide, pa_95.2⟩ (by decide) (by decide) (pg_c9 (pi_138.2)) dX0_init_33 ?_
  refine g_iinc C 0 [(1, .int 8), (0, .ref (pad B (94)))] dX0_init_34 rfl (by decide) (by decide) rfl ?_
  refine g_goto (tgt := 15) C dX0_init_37 (by decide) ?_
  refine g_iload_n C 0 dX0_init_15 rfl rfl ?_
  refine g_bipush (v := 20) C dX0_init_16 (by decide) ?_
  refine g_icmp_ge (tgt := 40) C dX0_init_18 (by decide) (fun h => absurd h (by decide)) (fun _ => ?_)
  refine g_aload_n C 1 dX0_init_21 rfl rfl ?_
  refine gg_0_1 (i := 94) C (by decide) pi_94.2 rfl tw_276 dX0_init_22 ?_
  refine g_iload_n C 0 dX0_init_25 rfl rfl ?_
  refine g_new C inC_9 tyX10 tyX10_ok rfl tw_271 tw_151 tw_7 (pg_b9 pi_144.2) pg_d9 ⟨Nat.le_of_ble_eq_true rfl, Nat.le_of_ble_eq_true rfl⟩ dX0_init_26 ?_
  refine g_n (n1 := 145) rfl ?_
  refine g_dup C dX0_init_29 rfl ?_
  refine g_call C [] (i_X10_init l D B ca pi_144 _ _) tw_273 gm_X10_init ⟨rfl, rfl⟩ ⟨Nat.le_of_ble_eq_true rfl, Nat.le_of_ble_eq_true rfl⟩ rfl (Nat.le_of_ble_eq_true rfl) dX0_init_30 ⟨Nat.le_of_ble_eq_true rfl, Nat.le_of_ble_eq_true rfl⟩ ?_
  show PG _ _ _ _ _ _ _ _ _ _ _ _ _ _ _ _ _ (150) (iz_X10_init 144 (zr (iz_X10_init 138 (zr (iz_X10_init 132 (zr (iz_X10_init 126 (zr (iz_X10_init 120 (zr (iz_X10_init 114 (zr (iz_X10_init 108 (zr (iz_X10_init 102 (zr (iz_X10_init 96 (zr (zr σ 95) 96)) 102)) 108)) 114)) 120)) 126)) 132)) 138)) 144)) (ir_X10_init 144 (zf (sf (ir_X10_init 138 (zf (sf (ir_X10_init 132 (zf (sf (ir_X10_init 126 (zf (sf (ir_X10_init 120 (zf (sf (ir_X10_init 114 (zf (sf (ir_X10_init 108 (zf (sf (ir_X10_init 102 (zf (sf (ir_X10_init 96 (zf (sf (zf ρ 95) 94 1) 96)) 95 0) 102)) 95 1) 108)) 95 2) 114)) 95 3) 120)) 95 4) 126)) 95 5) 132)) 95 6) 138)) 95 7) 144)) _ _ _
  refine g_aast24 (a := 95) (jn := 8) C ⟨by decide, pa_95.2⟩ (by decide) (by decide) (pg_c9 (pi_144.2)) dX0_init_33 ?_
  refine g_iinc C 0 [(1, .int 9), (0, .ref (pad B (94)))] dX0_init_34 rfl (by decide) (by decide) rfl ?_
  refine g_goto (tgt := 15) C dX0_init_37 (by decide) ?_
  refine g_iload_n C 0 dX0_init_15 rfl rfl ?_
  refine g_bipush (v := 20) C dX0_init_16 (by decide) ?_
  refine g_icmp_ge (tgt := 40) C dX0_init_18 (by decide) (fun h => absurd h (by decide)) (fun _ => ?_)
  refine g_aload_n C 1 dX0_init_21 rfl rfl ?_
  refine gg_0_1 (i := 94) C (by decide) pi_94.2 rfl tw_276 dX0_init_22 ?_
  refine g_iload_n C 0 dX0_init_25 rfl rfl ?_
  refine g_new C inC_9 tyX10 tyX10_ok rfl tw_271 tw_151 tw_7 (pg_b9 pi_150.2) pg_d9 ⟨Nat.le_of_ble_eq_true rfl, Nat.le_of_ble_eq_true rfl⟩ dX0_init_26 ?_
  refine g_n (n1 := 151) rfl ?_
  refine g_dup C dX0_init_29 rfl ?_
  refine g_call C [] (i_X10_init l D B ca pi_150 _ _) tw_273 gm_X10_init ⟨rfl, rfl⟩ ⟨Nat.le_of_ble_eq_true rfl, Nat.le_of_ble_eq_true rfl⟩ rfl (Nat.le_of_ble_eq_true rfl) dX0_init_30 ⟨Nat.le_of_ble_eq_true rfl, Nat.le_of_ble_eq_true rfl⟩ ?_
  show PG _ _ _ _ _ _ _ _ _ _ _ _ _ _ _ _ _ (156) (iz_X10_init 150 (zr (iz_X10_init 144 (zr (iz_X10_init 138 (zr (iz_X10_init 132 (zr (iz_X10_init 126 (zr (iz_X10_init 120 (zr (iz_X10_init 114 (zr (iz_X10_init 108 (zr (iz_X10_init 102 (zr (iz_X10_init 96 (zr (zr σ 95) 96)) 102)) 108)) 114)) 120)) 126)) 132)) 138)) 144)) 150)) (ir_X10_init 150 (zf (sf (ir_X10_init 144 (zf (sf (ir_X10_init 138 (zf (sf (ir_X10_init 132 (zf (sf (ir_X10_init 126 (zf (sf (ir_X10_init 120 (zf (sf (ir_X10_init 114 (zf (sf (ir_X10_init 108 (zf (sf (ir_X10_init 102 (zf (sf (ir_X10_init 96 (zf (sf (zf ρ 95) 94 1) 96)) 95 0) 102)) 95 1) 108)) 95 2) 114)) 95 3) 120)) 95 4) 126)) 95 5) 132)) 95 6) 138)) 95 7) 144)) 95 8) 150)) _ _ _
  refine g_aast24 (a := 95) (jn := 9) C ⟨by decide, pa_95.2⟩ (by decide) (by decide) (pg_c9 (pi_150.2)) dX0_init_33 ?_
  refine g_iinc C 0 [(1, .int 10), (0, .ref (pad B (94)))] dX0_init_34 rfl (by decide) (by decide) rfl ?_
  refine g_goto (tgt := 15) C dX0_init_37 (by decide) ?_
  refine g_iload_n C 0 dX0_init_15 rfl rfl ?_
  refine g_bipush (v := 20) C dX0_init_16 (by decide) ?_
  refine g_icmp_ge (tgt := 40) C dX0_init_18 (by decide) (fun h => absurd h (by decide)) (fun _ => ?_)
  refine g_aload_n C 1 dX0_init_21 rfl rfl ?_
  refine gg_0_1 (i := 94) C (by decide) pi_94.2 rfl tw_276 dX0_init_22 ?_
  refine g_iload_n C 0 dX0_init_25 rfl rfl ?_
  refine g_new C inC_9 tyX10 tyX10_ok rfl tw_271 tw_151 tw_7 (pg_b9 pi_156.2) pg_d9 ⟨Nat.le_of_ble_eq_true rfl, Nat.le_of_ble_eq_true rfl⟩ dX0_init_26 ?_
  refine g_n (n1 := 157) rfl ?_
  refine g_dup C dX0_init_29 rfl ?_
  refine g_call C [] (i_X10_init l D B ca pi_156 _ _) tw_273 gm_X10_init ⟨rfl, rfl⟩ ⟨Nat.le_of_ble_eq_true rfl, Nat.le_of_ble_eq_true rfl⟩ rfl (Nat.le_of_ble_eq_true rfl) dX0_init_30 ⟨Nat.le_of_ble_eq_true rfl, Nat.le_of_ble_eq_true rfl⟩ ?_
  show PG _ _ _ _ _ _ _ _ _ _ _ _ _ _ _ _ _ (162) (iz_X10_init 156 (zr (iz_X10_init 150 (zr (iz_X10_init 144 (zr (iz_X10_init 138 (zr (iz_X10_init 132 (zr (iz_X10_init 126 (zr (iz_X10_init 120 (zr (iz_X10_init 114 (zr (iz_X10_init 108 (zr (iz_X10_init 102 (zr (iz_X10_init 96 (zr (zr σ 95) 96)) 102)) 108)) 114)) 120)) 126)) 132)) 138)) 144)) 150)) 156)) (ir_X10_init 156 (zf (sf (ir_X10_init 150 (zf (sf (ir_X10_init 144 (zf (sf (ir_X10_init 138 (zf (sf (ir_X10_init 132 (zf (sf (ir_X10_init 126 (zf (sf (ir_X10_init 120 (zf (sf (ir_X10_init 114 (zf (sf (ir_X10_init 108 (zf (sf (ir_X10_init 102 (zf (sf (ir_X10_init 96 (zf (sf (zf ρ 95) 94 1) 96)) 95 0) 102)) 95 1) 108)) 95 2) 114)) 95 3) 120)) 95 4) 126)) 95 5) 132)) 95 6) 138)) 95 7) 144)) 95 8) 150)) 95 9) 156)) _ _ _
  refine g_aast24 (a := 95) (jn := 10) C ⟨by decide, pa_95.2⟩ (by decide) (by decide) (pg_c9 (pi_156.2)) dX0_init_33 ?_
  refine g_iinc C 0 [(1, .int 11), (0, .ref (pad B (94)))] dX0_init_34 rfl (by decide) (by decide) rfl ?_
  refine g_goto (tgt := 15) C dX0_init_37 (by decide) ?_
  refine g_iload_n C 0 dX0_init_15 rfl rfl ?_
  refine g_bipush (v := 20) C dX0_init_16 (by decide) ?_
  refine g_icmp_ge (tgt := 40) C dX0_init_18 (by decide) (fun h => absurd h (by decide)) (fun _ => ?_)
  refine g_aload_n C 1 dX0_init_21 rfl rfl ?_
  refine gg_0_1 (i := 94) C (by decide) pi_94.2 rfl tw_276 dX0_init_22 ?_
  refine g_iload_n C 0 dX0_init_25 rfl rfl ?_
  refine g_new C inC_9 tyX10 tyX10_ok rfl tw_271 tw_151 tw_7 (pg_b9 pi_162.2) pg_d9 ⟨Nat.le_of_ble_eq_true rfl, Nat.le_of_ble_eq_true rfl⟩ dX0_init_26 ?_
  refine g_n (n1 := 163) rfl ?_
  refine g_dup C dX0_init_29 rfl ?_
  refine g_call C [] (i_X10_init l D B ca pi_162 _ _) tw_273 gm_X10_init ⟨rfl, rfl⟩ ⟨Nat.le_of_ble_eq_true rfl, Nat.le_of_ble_eq_true rfl⟩ rfl (Nat.le_of_ble_eq_true rfl) dX0_init_30 ⟨Nat.le_of_ble_eq_true rfl, Nat.le_of_ble_eq_true rfl⟩ ?_
  show PG _ _ _ _ _ _ _ _ _ _ _ _ _ _ _ _ _ (168) (iz_X10_init 162 (zr (iz_X10_init 156 (zr (iz_X10_init 150 (zr (iz_X10_init 144 (zr (iz_X10_init 138 (zr (iz_X10_init 132 (zr (iz_X10_init 126 (zr (iz_X10_init 120 (zr (iz_X10_init 114 (zr (iz_X10_init 108 (zr (iz_X10_init 102 (zr (iz_X10_init 96 (zr (zr σ 95) 96)) 102)) 108)) 114)) 120)) 126)) 132)) 138)) 144)) 150)) 156)) 162)) (ir_X10_init 162 (zf (sf (ir_X10_init 156 (zf (sf (ir_X10_init 150 (zf (sf (ir_X10_init 144 (zf (sf (ir_X10_init 138 (zf (sf (ir_X10_init 132 (zf (sf (ir_X10_init 126 (zf (sf (ir_X10_init 120 (zf (sf (ir_X10_init 114 (zf (sf (ir_X10_init 108 (zf (sf (ir_X10_init 102 (zf (sf (ir_X10_init 96 (zf (sf (zf ρ 95) 94 1) 96)) 95 0) 102)) 95 1) 108)) 95 2) 114)) 95 3) 120)) 95 4) 126)) 95 5) 132)) 95 6) 138)) 95 7) 144)) 95 8) 150)) 95 9) 156)) 95 10) 162)) _ _ _
  refine g_aast24 (a := 95) (jn := 11) C ⟨by decide, pa_95.2⟩ (by decide) (by decide) (pg_c9 (pi_162.2)) dX0_init_33 ?_
  refine g_iinc C 0 [(1, .int 12), (0, .ref (pad B (94)))] dX0_init_34 rfl (by decide) (by decide) rfl ?_
  refine g_goto (tgt := 15) C dX0_init_37 (by decide) ?_
  refine g_iload_n C 0 dX0_init_15 rfl rfl ?_
  refine g_bipush (v := 20) C dX0_init_16 (by decide) ?_
  refine g_icmp_ge (tgt := 40) C dX0_init_18 (by decide) (fun h => absurd h (by decide)) (fun _ => ?_)
  refine g_aload_n C 1 dX0_init_21 rfl rfl ?_
  refine gg_0_1 (i := 94) C (by decide) pi_94.2 rfl tw_276 dX0_init_22 ?_
  refine g_iload_n C 0 dX0_init_25 rfl rfl ?_
  refine g_new C inC_9 tyX10 tyX10_ok rfl tw_271 tw_151 tw_7 (pg_b9 pi_168.2) pg_d9 ⟨Nat.le_of_ble_eq_true rfl, Nat.le_of_ble_eq_true rfl⟩ dX0_init_26 ?_
  refine g_n (n1 := 169) rfl ?_
  refine g_dup C dX0_init_29 rfl ?_
  refine g_call C [] (i_X10_init l D B ca pi_168 _ _) tw_273 gm_X10_init ⟨rfl, rfl⟩ ⟨Nat.le_of_ble_eq_true rfl, Nat.le_of_ble_eq_true rfl⟩ rfl (Nat.le_of_ble_eq_true rfl) dX0_init_30 ⟨Nat.le_of_ble_eq_true rfl, Nat.le_of_ble_eq_true rfl⟩ ?_
  show PG _ _ _ _ _ _ _ _ _ _ _ _ _ _ _ _ _ (174) (iz_X10_init 168 (zr (iz_X10_init 162 (zr (iz_X10_init 156 (zr (iz_X10_init 150 (zr (iz_X10_init 144 (zr (iz_X10_init 138 (zr (iz_X10_init 132 (zr (iz_X10_init 126 (zr (iz_X10_init 120 (zr (iz_X10_init 114 (zr (iz_X10_init 108 (zr (iz_X10_init 102 (zr (iz_X10_init 96 (zr (zr σ 95) 96)) 102)) 108)) 114)) 120)) 126)) 132)) 138)) 144)) 150)) 156)) 162)) 168)) (ir_X10_init 168 (zf (sf (ir_X10_init 162 (zf (sf (ir_X10_init 156 (zf (sf (ir_X10_init 150 (zf (sf (ir_X10_init 144 (zf (sf (ir_X10_init 138 (zf (sf (ir_X10_init 132 (zf (sf (ir_X10_init 126 (zf (sf (ir_X10_init 120 (zf (sf (ir_X10_init 114 (zf (sf (ir_X10_init 108 (zf (sf (ir_X10_init 102 (zf (sf (ir_X10_init 96 (zf (sf (zf ρ 95) 94 1) 96)) 95 0) 102)) 95 1) 108)) 95 2) 114)) 95 3) 120)) 95 4) 126)) 95 5) 132)) 95 6) 138)) 95 7) 144)) 95 8) 150)) 95 9) 156)) 95 10) 162)) 95 11) 168)) _ _ _
  refine g_aast24 (a := 95) (jn := 12) C ⟨by decide, pa_95.2⟩ (by decide) (by decide) (pg_c9 (pi_168.2)) dX0_init_33 ?_
  refine g_iinc C 0 [(1, .int 13), (0, .ref (pad B (94)))] dX0_init_34 rfl (by decide) (by decide) rfl ?_
  refine g_goto (tgt := 15) C dX0_init_37 (by decide) ?_
  refine g_iload_n C 0 dX0_init_15 rfl rfl ?_
  refine g_bipush (v := 20) C dX0_init_16 (by decide) ?_
  refine g_icmp_ge (tgt := 40) C dX0_init_18 (by decide) (fun h => absurd h (by decide)) (fun _ => ?_)
  refine g_aload_n C 1 dX0_init_21 rfl rfl ?_
  refine gg_0_1 (i := 94) C (by decide) pi_94.2 rfl tw_276 dX0_init_22 ?_
  refine g_iload_n C 0 dX0_init_25 rfl rfl ?_
  refine g_new C inC_9 tyX10 tyX10_ok rfl tw_271 tw_151 tw_7 (pg_b9 pi_174.2) pg_d9 ⟨Nat.le_of_ble_eq_true rfl, Nat.le_of_ble_eq_true rfl⟩ dX0_init_26 ?_
  refine g_n (n1 := 175) rfl ?_
  refine g_dup C dX0_init_29 rfl ?_
  refine g_call C [] (i_X10_init l D B ca pi_174 _ _) tw_273 gm_X10_init ⟨rfl, rfl⟩ ⟨Nat.le_of_ble_eq_true rfl, Nat.le_of_ble_eq_true rfl⟩ rfl (Nat.le_of_ble_eq_true rfl) dX0_init_30 ⟨Nat.le_of_ble_eq_true rfl, Nat.le_of_ble_eq_true rfl⟩ ?_
  show PG _ _ _ _ _ _ _ _ _ _ _ _ _ _ _ _ _ (180) (iz_X10_init 174 (zr (iz_X10_init 168 (zr (iz_X10_init 162 (zr (iz_X10_init 156 (zr (iz_X10_init 150 (zr (iz_X10_init 144 (zr (iz_X10_init 138 (zr (iz_X10_init 132 (zr (iz_X10_init 126 (zr (iz_X10_init 120 (zr (iz_X10_init 114 (zr (iz_X10_init 108 (zr (iz_X10_init 102 (zr (iz_X10_init 96 (zr (zr σ 95) 96)) 102)) 108)) 114)) 120)) 126)) 132)) 138)) 144)) 150)) 156)) 162)) 168)) 174)) (ir_X10_init 174 (zf (sf (ir_X10_init 168 (zf (sf (ir_X10_init 162 (zf (sf (ir_X10_init 156 (zf (sf (ir_X10_init 150 (zf (sf (ir_X10_init 144 (zf (sf (ir_X10_init 138 (zf (sf (ir_X10_init 132 (zf (sf (ir_X10_init 126 (zf (sf (ir_X10_init 120 (zf (sf (ir_X10_init 114 (zf (sf (ir_X10_init 108 (zf (sf (ir_X10_init 102 (zf (sf (ir_X10_init 96 (zf (sf (zf ρ 95) 94 1) 96)) 95 0) 102)) 95 1) 108)) 95 2) 114)) 95 3) 120)) 95 4) 126)) 95 5) 132)) 95 6) 138)) 95 7) 144)) 95 8) 150)) 95 9) 156)) 95 10) 162)) 95 11) 168)) 95 12) 174)) _ _ _
  refine g_aast24 (a := 95) (jn := 13) C ⟨by decide, pa_95.2⟩ (by decide) (by decide) (pg_c9 (pi_174.2)) dX0_init_33 ?_
  refine g_iinc C 0 [(1, .int 14), (0, .ref (pad B (94)))] dX0_init_34 rfl (by decide) (by decide) rfl ?_
  refine g_goto (tgt := 15) C dX0_init_37 (by decide) ?_
  refine g_iload_n C 0 dX0_init_15 rfl rfl ?_
  refine g_bipush (v := 20) C dX0_init_16 (by decide) ?_
  refine g_icmp_ge (tgt := 40) C dX0_init_18 (by decide) (fun h => absurd h (by decide)) (fun _ => ?_)
  refine g_aload_n C 1 dX0_init_21 rfl rfl ?_
  refine gg_0_1 (i := 94) C (by decide) pi_94.2 rfl tw_276 dX0_init_22 ?_
  refine g_iload_n C 0 dX0_init_25 rfl rfl ?_
  refine g_new C inC_9 tyX10 tyX10_ok rfl tw_271 tw_151 tw_7 (pg_b9 pi_180.2) pg_d9 ⟨Nat.le_of_ble_eq_true rfl, Nat.le_of_ble_eq_true rfl⟩ dX0_init_26 ?_
  refine g_n (n1 := 181) rfl ?_
  refine g_dup C dX0_init_29 rfl ?_
  refine g_call C [] (i_X10_init l D B ca pi_180 _ _) tw_273 gm_X10_init ⟨rfl, rfl⟩ ⟨Nat.le_of_ble_eq_true rfl, Nat.le_of_ble_eq_true rfl⟩ rfl (Nat.le_of_ble_eq_true rfl) dX0_init_30 ⟨Nat.le_of_ble_eq_true rfl, Nat.le_of_ble_eq_true rfl⟩ ?_
  show PG _ _ _ _ _ _ _ _ _ _ _ _ _ _ _ _ _ (186) (iz_X10_init 180 (zr (iz_X10_init 174 (zr (iz_X10_init 168 (zr (iz_X10_init 162 (zr (iz_X10_init 156 (zr (iz_X10_init 150 (zr (iz_X10_init 144 (zr (iz_X10_init 138 (zr (iz_X10_init 132 (zr (iz_X10_init 126 (zr (iz_X10_init 120 (zr (iz_X10_init 114 (zr (iz_X10_init 108 (zr (iz_X10_init 102 (zr (iz_X10_init 96 (zr (zr σ 95) 96)) 102)) 108)) 114)) 120)) 126)) 132)) 138)) 144)) 150)) 156)) 162)) 168)) 174)) 180)) (ir_X10_init 180 (zf (sf (ir_X10_init 174 (zf (sf (ir_X10_init 168 (zf (sf (ir_X10_init 162 (zf (sf (ir_X10_init 156 (zf (sf (ir_X10_init 150 (zf (sf (ir_X10_init 144 (zf (sf (ir_X10_init 138 (zf (sf (ir_X10_init 132 (zf (sf (ir_X10_init 126 (zf (sf (ir_X10_init 120 (zf (sf (ir_X10_init 114 (zf (sf (ir_X10_init 108 (zf (sf (ir_X10_init 102 (zf (sf (ir_X10_init 96 (zf (sf (zf ρ 95) 94 1) 96)) 95 0) 102)) 95 1) 108)) 95 2) 114)) 95 3) 120)) 95 4) 126)) 95 5) 132)) 95 6) 138)) 95 7) 144)) 95 8) 150)) 95 9) 156)) 95 10) 162)) 95 11) 168)) 95 12) 174)) 95 13) 180)) _ _ _
  refine g_aast24 (a := 95) (jn := 14) C ⟨by decide, pa_95.2⟩ (by decide) (by decide) (pg_c9 (pi_180.2)) dX0_init_33 ?_
  refine g_iinc C 0 [(1, .int 15), (0, .ref (pad B (94)))] dX0_init_34 rfl (by decide) (by decide) rfl ?_
  refine g_goto (tgt := 15) C dX0_init_37 (by decide) ?_
  refine g_iload_n C 0 dX0_init_15 rfl rfl ?_
  refine g_bipush (v := 20) C dX0_init_16 (by decide) ?_
  refine g_icmp_ge (tgt := 40) C dX0_init_18 (by decide) (fun h => absurd h (by decide)) (fun _ => ?_)
  refine g_aload_n C 1 dX0_init_21 rfl rfl ?_
  refine gg_0_1 (i := 94) C (by decide) pi_94.2 rfl tw_276 dX0_init_22 ?_
  refine g_iload_n C 0 dX0_init_25 rfl rfl ?_
  refine g_new C inC_9 tyX10 tyX10_ok rfl tw_271 tw_151 tw_7 (pg_b9 pi_186.2) pg_d9 ⟨Nat.le_of_ble_eq_true rfl, Nat.le_of_ble_eq_true rfl⟩ dX0_init_26 ?_
  refine g_n (n1 := 187) rfl ?_
  refine g_dup C dX0_init_29 rfl ?_
  refine g_call C [] (i_X10_init l D B ca pi_186 _ _) tw_273 gm_X10_init ⟨rfl, rfl⟩ ⟨Nat.le_of_ble_eq_true rfl, Nat.le_of_ble_eq_true rfl⟩ rfl (Nat.le_of_ble_eq_true rfl) dX0_init_30 ⟨Nat.le_of_ble_eq_true rfl, Nat.le_of_ble_eq_true rfl⟩ ?_
  show PG _ _ _ _ _ _ _ _ _ _ _ _ _ _ _ _ _ (192) (iz_X10_init 186 (zr (iz_X10_init 180 (zr (iz_X10_init 174 (zr (iz_X10_init 168 (zr (iz_X10_init 162 (zr (iz_X10_init 156 (zr (iz_X10_init 150 (zr (iz_X10_init 144 (zr (iz_X10_init 138 (zr (iz_X10_init 132 (zr (iz_X10_init 126 (zr (iz_X10_init 120 (zr (iz_X10_init 114 (zr (iz_X10_init 108 (zr (iz_X10_init 102 (zr (iz_X10_init 96 (zr (zr σ 95) 96)) 102)) 108)) 114)) 120)) 126)) 132)) 138)) 144)) 150)) 156)) 162)) 168)) 174)) 180)) 186)) (ir_X10_init 186 (zf (sf (ir_X10_init 180 (zf (sf (ir_X10_init 174 (zf (sf (ir_X10_init 168 (zf (sf (ir_X10_init 162 (zf (sf (ir_X10_init 156 (zf (sf (ir_X10_init 150 (zf (sf (ir_X10_init 144 (zf (sf (ir_X10_init 138 (zf (sf (ir_X10_init 132 (zf (sf (ir_X10_init 126 (zf (sf (ir_X10_init 120 (zf (sf (ir_X10_init 114 (zf (sf (ir_X10_init 108 (zf (sf (ir_X10_init 102 (zf (sf (ir_X10_init 96 (zf (sf (zf ρ 95) 94 1) 96)) 95 0) 102)) 95 1) 108)) 95 2) 114)) 95 3) 120)) 95 4) 126)) 95 5) 132)) 95 6) 138)) 95 7) 144)) 95 8) 150)) 95 9) 156)) 95 10) 162)) 95 11) 168)) 95 12) 174)) 95 13) 180)) 95 14) 186)) _ _ _
  refine g_aast24 (a := 95) (jn := 15) C ⟨by decide, pa_95.2⟩ (by decide) (by decide) (pg_c9 (pi_186.2)) dX0_init_33 ?_
  refine g_iinc C 0 [(1, .int 16), (0, .ref (pad B (94)))] dX0_init_34 rfl (by decide) (by decide) rfl ?_
  refine g_goto (tgt := 15) C dX0_init_37 (by decide) ?_
  refine g_iload_n C 0 dX0_init_15 rfl rfl ?_
  refine g_bipush (v := 20) C dX0_init_16 (by decide) ?_
  refine g_icmp_ge (tgt := 40) C dX0_init_18 (by decide) (fun h => absurd h (by decide)) (fun _ => ?_)
  refine g_aload_n C 1 dX0_init_21 rfl rfl ?_
  refine gg_0_1 (i := 94) C (by decide) pi_94.2 rfl tw_276 dX0_init_22 ?_
  refine g_iload_n C 0 dX0_init_25 rfl rfl ?_
  refine g_new C inC_9 tyX10 tyX10_ok rfl tw_271 tw_151 tw_7 (pg_b9 pi_192.2) pg_d9 ⟨Nat.le_of_ble_eq_true rfl, Nat.le_of_ble_eq_true rfl⟩ dX0_init_26 ?_
  refine g_n (n1 := 193) rfl ?_
  refine g_dup C dX0_init_29 rfl ?_
  refine g_call C [] (i_X10_init l D B ca pi_192 _ _) tw_273 gm_X10_init ⟨rfl, rfl⟩ ⟨Nat.le_of_ble_eq_true rfl, Nat.le_of_ble_eq_true rfl⟩ rfl (Nat.le_of_ble_eq_true rfl) dX0_init_30 ⟨Nat.le_of_ble_eq_true rfl, Nat.le_of_ble_eq_true rfl⟩ ?_
  show PG _ _ _ _ _ _ _ _ _ _ _ _ _ _ _ _ _ (198) (iz_X10_init 192 (zr (iz_X10_init 186 (zr (iz_X10_init 180 (zr (iz_X10_init 174 (zr (iz_X10_init 168 (zr (iz_X10_init 162 (zr (iz_X10_init 156 (zr (iz_X10_init 150 (zr (iz_X10_init 144 (zr (iz_X10_init 138 (zr (iz_X10_init 132 (zr (iz_X10_init 126 (zr (iz_X10_init 120 (zr (iz_X10_init 114 (zr (iz_X10_init 108 (zr (iz_X10_init 102 (zr (iz_X10_init 96 (zr (zr σ 95) 96)) 102)) 108)) 114)) 120)) 126)) 132)) 138)) 144)) 150)) 156)) 162)) 168)) 174)) 180)) 186)) 192)) (ir_X10_init 192 (zf (sf (ir_X10_init 186 (zf (sf (ir_X10_init 180 (zf (sf (ir_X10_init 174 (zf (sf (ir_X10_init 168 (zf (sf (ir_X10_init 162 (zf (sf (ir_X10_init 156 (zf (sf (ir_X10_init 150 (zf (sf (ir_X10_init 144 (zf (sf (ir_X10_init 138 (zf (sf (ir_X10_init 132 (zf (sf (ir_X10_init 126 (zf (sf (ir_X10_init 120 (zf (sf (ir_X10_init 114 (zf (sf (ir_X10_init 108 (zf (sf (ir_X10_init 102 (zf (sf (ir_X10_init 96 (zf (sf (zf ρ 95) 94 1) 96)) 95 0) 102)) 95 1) 108)) 95 2) 114)) 95 3) 120)) 95 4) 126)) 95 5) 132)) 95 6) 138)) 95 7) 144)) 95 8) 150)) 95 9) 156)) 95 10) 162)) 95 11) 168)) 95 12) 174)) 95 13) 180)) 95 14) 186)) 95 15) 192)) _ _ _
  refine g_aast24 (a := 95) (jn := 16) C ⟨by decide, pa_95.2⟩ (by decide) (by decide) (pg_c9 (pi_192.2)) dX0_init_33 ?_
  refine g_iinc C 0 [(1, .int 17), (0, .ref (pad B (94)))] dX0_init_34 rfl (by decide) (by decide) rfl ?_
  refine g_goto (tgt := 15) C dX0_init_37 (by decide) ?_
  refine g_iload_n C 0 dX0_init_15 rfl rfl ?_
  refine g_bipush (v := 20) C dX0_init_16 (by decide) ?_
  refine g_icmp_ge (tgt := 40) C dX0_init_18 (by decide) (fun h => absurd h (by decide)) (fun _ => ?_)
  refine g_aload_n C 1 dX0_init_21 rfl rfl ?_
  refine gg_0_1 (i := 94) C (by decide) pi_94.2 rfl tw_276 dX0_init_22 ?_
  refine g_iload_n C 0 dX0_init_25 rfl rfl ?_
  refine g_new C inC_9 tyX10 tyX10_ok rfl tw_271 tw_151 tw_7 (pg_b9 pi_198.2) pg_d9 ⟨Nat.le_of_ble_eq_true rfl, Nat.le_of_ble_eq_true rfl⟩ dX0_init_26 ?_
  refine g_n (n1 := 199) rfl ?_
  refine g_dup C dX0_init_29 rfl ?_
  refine g_call C [] (i_X10_init l D B ca pi_198 _ _) tw_273 gm_X10_init ⟨rfl, rfl⟩ ⟨Nat.le_of_ble_eq_true rfl, Nat.le_of_ble_eq_true rfl⟩ rfl (Nat.le_of_ble_eq_true rfl) dX0_init_30 ⟨Nat.le_of_ble_eq_true rfl, Nat.le_of_ble_eq_true rfl⟩ ?_
  show PG _ _ _ _ _ _ _ _ _ _ _ _ _ _ _ _ _ (204) (iz_X10_init 198 (zr (iz_X10_init 192 (zr (iz_X10_init 186 (zr (iz_X10_init 180 (zr (iz_X10_init 174 (zr (iz_X10_init 168 (zr (iz_X10_init 162 (zr (iz_X10_init 156 (zr (iz_X10_init 150 (zr (iz_X10_init 144 (zr (iz_X10_init 138 (zr (iz_X10_init 132 (zr (iz_X10_init 126 (zr (iz_X10_init 120 (zr (iz_X10_init 114 (zr (iz_X10_init 108 (zr (iz_X10_init 102 (zr (iz_X10_init 96 (zr (zr σ 95) 96)) 102)) 108)) 114)) 120)) 126)) 132)) 138)) 144)) 150)) 156)) 162)) 168)) 174)) 180)) 186)) 192)) 198)) (ir_X10_init 198 (zf (sf (ir_X10_init 192 (zf (sf (ir_X10_init 186 (zf (sf (ir_X10_init 180 (zf (sf (ir_X10_init 174 (zf (sf (ir_X10_init 168 (zf (sf (ir_X10_init 162 (zf (sf (ir_X10_init 156 (zf (sf (ir_X10_init 150 (zf (sf (ir_X10_init 144 (zf (sf (ir_X10_init 138 (zf (sf (ir_X10_init 132 (zf (sf (ir_X10_init 126 (zf (sf (ir_X10_init 120 (zf (sf (ir_X10_init 114 (zf (sf (ir_X10_init 108 (zf (sf (ir_X10_init 102 (zf (sf (ir_X10_init 96 (zf (sf (zf ρ 95) 94 1) 96)) 95 0) 102)) 95 1) 108)) 95 2) 114)) 95 3) 120)) 95 4) 126)) 95 5) 132)) 95 6) 138)) 95 7) 144)) 95 8) 150)) 95 9) 156)) 95 10) 162)) 95 11) 168)) 95 12) 174)) 95 13) 180)) 95 14) 186)) 95 15) 192)) 95 16) 198)) _ _ _
  refine g_aast24 (a := 95) (jn := 17) C ⟨by decide, pa_95.2⟩ (by decide) (by decide) (pg_c9 (pi_198.2)) dX0_init_33 ?_
  refine g_iinc C 0 [(1, .int 18), (0, .ref (pad B (94)))] dX0_init_34 rfl (by decide) (by decide) rfl ?_
  refine g_goto (tgt := 15) C dX0_init_37 (by decide) ?_
  refine g_iload_n C 0 dX0_init_15 rfl rfl ?_
  refine g_bipush (v := 20) C dX0_init_16 (by decide) ?_
  refine g_icmp_ge (tgt := 40) C dX0_init_18 (by decide) (fun h => absurd h (by decide)) (fun _ => ?_)
  refine g_aload_n C 1 dX0_init_21 rfl rfl ?_
  refine gg_0_1 (i := 94) C (by decide) pi_94.2 rfl tw_276 dX0_init_22 ?_
  refine g_iload_n C 0 dX0_init_25 rfl rfl ?_
  refine g_new C inC_9 tyX10 tyX10_ok rfl tw_271 tw_151 tw_7 (pg_b9 pi_204.2) pg_d9 ⟨Nat.le_of_ble_eq_true rfl, Nat.le_of_ble_eq_true rfl⟩ dX0_init_26 ?_
  refine g_n (n1 := 205) rfl ?_
  refine g_dup C dX0_init_29 rfl ?_
  refine g_call C [] (i_X10_init l D B ca pi_204 _ _) tw_273 gm_X10_init ⟨rfl, rfl⟩ ⟨Nat.le_of_ble_eq_true rfl, Nat.le_of_ble_eq_true rfl⟩ rfl (Nat.le_of_ble_eq_true rfl) dX0_init_30 ⟨Nat.le_of_ble_eq_true rfl, Nat.le_of_ble_eq_true rfl⟩ ?_
  show PG _ _ _ _ _ _ _ _ _ _ _ _ _ _ _ _ _ (210) (iz_X10_init 204 (zr (iz_X10_init 198 (zr (iz_X10_init 192 (zr (iz_X10_init 186 (zr (iz_X10_init 180 (zr (iz_X10_init 174 (zr (iz_X10_init 168 (zr (iz_X10_init 162 (zr (iz_X10_init 156 (zr (iz_X10_init 150 (zr (iz_X10_init 144 (zr (iz_X10_init 138 (zr (iz_X10_init 132 (zr (iz_X10_init 126 (zr (iz_X10_init 120 (zr (iz_X10_init 114 (zr (iz_X10_init 108 (zr (iz_X10_init 102 (zr (iz_X10_init 96 (zr (zr σ 95) 96)) 102)) 108)) 114)) 120)) 126)) 132)) 138)) 144)) 150)) 156)) 162)) 168)) 174)) 180)) 186)) 192)) 198)) 204)) (ir_X10_init 204 (zf (sf (ir_X10_init 198 (zf (sf (ir_X10_init 192 (zf (sf (ir_X10_init 186 (zf (sf (ir_X10_init 180 (zf (sf (ir_X10_init 174 (zf (sf (ir_X10_init 168 (zf (sf (ir_X10_init 162 (zf (sf (ir_X10_init 156 (zf (sf (ir_X10_init 150 (zf (sf (ir_X10_init 144 (zf (sf (ir_X10_init 138 (zf (sf (ir_X10_init 132 (zf (sf (ir_X10_init 126 (zf (sf (ir_X10_init 120 (zf (sf (ir_X10_init 114 (zf (sf (ir_X10_init 108 (zf (sf (ir_X10_init 102 (zf (sf (ir_X10_init 96 (zf (sf (zf ρ 95) 94 1) 96)) 95 0) 102)) 95 1) 108)) 95 2) 114)) 95 3) 120)) 95 4) 126)) 95 5) 132)) 95 6) 138)) 95 7) 144)) 95 8) 150)) 95 9) 156)) 95 10) 162)) 95 11) 168)) 95 12) 174)) 95 13) 180)) 95 14) 186)) 95 15) 192)) 95 16) 198)) 95 17) 204)) _ _ _
  refine g_aast24 (a := 95) (jn := 18) C ⟨by decide, pa_95.2⟩ (by decide) (by decide) (pg_c9 (pi_204.2)) dX0_init_33 ?_
  refine g_iinc C 0 [(1, .int 19), (0, .ref (pad B (94)))] dX0_init_34 rfl (by decide) (by decide) rfl ?_
  refine g_goto (tgt := 15) C dX0_init_37 (by decide) ?_
  refine g_iload_n C 0 dX0_init_15 rfl rfl ?_
  refine g_bipush (v := 20) C dX0_init_16 (by decide) ?_
  refine g_icmp_ge (tgt := 40) C dX0_init_18 (by decide) (fun h => absurd h (by decide)) (fun _ => ?_)
  refine g_aload_n C 1 dX0_init_21 rfl rfl ?_
  refine gg_0_1 (i := 94) C (by decide) pi_94.2 rfl tw_276 dX0_init_22 ?_
  refine g_iload_n C 0 dX0_init_25 rfl rfl ?_
  refine g_new C inC_9 tyX10 tyX10_ok rfl tw_271 tw_151 tw_7 (pg_b9 pi_210.2) pg_d9 ⟨Nat.le_of_ble_eq_true rfl, Nat.le_of_ble_eq_true rfl⟩ dX0_init_26 ?_
  refine g_n (n1 := 211) rfl ?_
  refine g_dup C dX0_init_29 rfl ?_
  refine g_call C [] (i_X10_init l D B ca pi_210 _ _) tw_273 gm_X10_init ⟨rfl, rfl⟩ ⟨Nat.le_of_ble_eq_true rfl, Nat.le_of_ble_eq_true rfl⟩ rfl (Nat.le_of_ble_eq_true rfl) dX0_init_30 ⟨Nat.le_of_ble_eq_true rfl, Nat.le_of_ble_eq_true rfl⟩ ?_
  show PG _ _ _ _ _ _ _ _ _ _ _ _ _ _ _ _ _ (216) (iz_X10_init 210 (zr (iz_X10_init 204 (zr (iz_X10_init 198 (zr (iz_X10_init 192 (zr (iz_X10_init 186 (zr (iz_X10_init 180 (zr (iz_X10_init 174 (zr (iz_X10_init 168 (zr (iz_X10_init 162 (zr (iz_X10_init 156 (zr (iz_X10_init 150 (zr (iz_X10_init 144 (zr (iz_X10_init 138 (zr (iz_X10_init 132 (zr (iz_X10_init 126 (zr (iz_X10_init 120 (zr (iz_X10_init 114 (zr (iz_X10_init 108 (zr (iz_X10_init 102 (zr (iz_X10_init 96 (zr (zr σ 95) 96)) 102)) 108)) 114)) 120)) 126)) 132)) 138)) 144)) 150)) 156)) 162)) 168)) 174)) 180)) 186)) 192)) 198)) 204)) 210)) (ir_X10_init 210 (zf (sf (ir_X10_init 204 (zf (sf (ir_X10_init 198 (zf (sf (ir_X10_init 192 (zf (sf (ir_X10_init 186 (zf (sf (ir_X10_init 180 (zf (sf (ir_X10_init 174 (zf (sf (ir_X10_init 168 (zf (sf (ir_X10_init 162 (zf (sf (ir_X10_init 156 (zf (sf (ir_X10_init 150 (zf (sf (ir_X10_init 144 (zf (sf (ir_X10_init 138 (zf (sf (ir_X10_init 132 (zf (sf (ir_X10_init 126 (zf (sf (ir_X10_init 120 (zf (sf (ir_X10_init 114 (zf (sf (ir_X10_init 108 (zf (sf (ir_X10_init 102 (zf (sf (ir_X10_init 96 (zf (sf (zf ρ 95) 94 1) 96)) 95 0) 102)) 95 1) 108)) 95 2) 114)) 95 3) 120)) 95 4) 126)) 95 5) 132)) 95 6) 138)) 95 7) 144)) 95 8) 150)) 95 9) 156)) 95 10) 162)) 95 11) 168)) 95 12) 174)) 95 13) 180)) 95 14) 186)) 95 15) 192)) 95 16) 198)) 95 17) 204)) 95 18) 210)) _ _ _
  refine g_aast24 (a := 95) (jn := 19) C ⟨by decide, pa_95.2⟩ (by decide) (by decide) (pg_c9 (pi_210.2)) dX0_init_33 ?_
  refine g_iinc C 0 [(1, .int 20), (0, .ref (pad B (94)))] dX0_init_34 rfl (by decide) (by decide) rfl ?_
  refine g_goto (tgt := 15) C dX0_init_37 (by decide) ?_
  refine g_iload_n C 0 dX0_init_15 rfl rfl ?_
  refine g_bipush (v := 20) C dX0_init_16 (by decide) ?_
  refine g_icmp_ge (tgt := 40) C dX0_init_18 (by decide) (fun _ => ?_) (fun h => absurd (by decide) h)
  exact g_vret C hr hlk dX0_init_40 rfl
-- AskedCamp$Foresight
def iz_X2_init (σ : PS) : PS := zr (iz_X10_init 217 (zr σ 217)) 223
def ir_X2_init (ρ : RF) : RF := sf (zf (sf (ir_X10_init 217 (zf (sf ρ 216 1) 217)) 216 0) 223) 216 2
theorem gm_X2_init : gI yX2_init (Cond.code yX2_init cX2_init 2 none) 1 := ⟨by decide +kernel, tw_288, tw_9, tw_289⟩
set_option maxHeartbeats 8000000 in
set_option maxRecDepth 100000 in
theorem i_X2_init (l : Launch) (D : va_G) (B : Nat) (ca : Nat → ClassId) (σ : PS) (ρ : RF) : Met l yX2_init (Cond.code yX2_init cX2_init 2 none :: gw_tbl) { frames := 2, cells := 7, slots := 138, locals := 40 } (va_Pc [.ref (pad B (216)), .ref (pad B (7))] (gU D B ca (217) σ ρ)) (gQv D B ca (224, iz_X2_init σ, ir_X2_init ρ)) 7 138 (fun q => B ≤ q) := by
  refine g_entry (own := "AskedCamp$Foresight") (by decide) rfl rfl (Nat.le_of_ble_eq_true rfl) (fun p e s m below meth c C hr hlk hm => ?_)
  refine g_lv [(0, .ref (pad B (216))), (1, .ref (pad B (7)))] rfl ?_
  refine g_aload_n C 0 dX2_init_0 rfl rfl ?_
  refine g_objInit C tw_290 tw_28 tw_29 dX2_init_1 ⟨Nat.le_of_ble_eq_true rfl, Nat.le_of_ble_eq_true rfl⟩ ?_
  refine g_aload_n C 0 dX2_init_4 rfl rfl ?_
  refine g_aload_n C 1 dX2_init_5 rfl rfl ?_
  refine gs_2_1 (i := 216) C (by decide) pi_216.2 rfl hm tw_295 dX2_init_6 ?_
  refine g_aload_n C 0 dX2_init_9 rfl rfl ?_
  refine g_new C inC_9 tyX10 tyX10_ok rfl tw_291 tw_151 tw_7 (pg_b9 pi_217.2) pg_d9 ⟨Nat.le_of_ble_eq_true rfl, Nat.le_of_ble_eq_true rfl⟩ dX2_init_10 ?_
  refine g_n (n1 := 218) rfl ?_
  refine g_dup C dX2_init_13 rfl ?_
  refine g_call C [] (i_X10_init l D B ca pi_217 _ _) tw_292 gm_X10_init ⟨rfl, rfl⟩ ⟨Nat.le_of_ble_eq_true rfl, Nat.le_of_ble_eq_true rfl⟩ rfl (Nat.le_of_ble_eq_true rfl) dX2_init_14 ⟨Nat.le_of_ble_eq_true rfl, Nat.le_of_ble_eq_true rfl⟩ ?_
  show PG _ _ _ _ _ _ _ _ _ _ _ _ _ _ _ _ _ (223) (iz_X10_init 217 (zr σ 217)) (ir_X10_init 217 (zf (sf ρ 216 1) 217)) _ _ _
  refine gs_2_0 (i := 216) C (by decide) pi_216.2 rfl hm tw_293 dX2_init_17 ?_
  refine g_aload_n C 0 dX2_init_20 rfl rfl ?_
  refine g_bipush (v := 66) C dX2_init_21 (by decide) ?_
  refine g_newa21 C pa_223.2 tw_109 (by decide) ⟨Nat.le_of_ble_eq_true rfl, Nat.le_of_ble_eq_true rfl⟩ dX2_init_23 ?_
  refine g_n (n1 := 224) rfl ?_
  refine gs_2_2 (i := 216) C (by decide) pi_216.2 rfl hm tw_296 dX2_init_25 ?_
  exact g_vret C hr hlk dX2_init_28 rfl
-- AskedCamp$Sleuth
def iz_X8_init (σ : PS) : PS := zr (zrR (iz_X10_init 225 (zr σ 225)) 231 7) 239
def ir_X8_init (ρ : RF) : RF := sf (zf (sf (mf (sf (ir_X10_init 225 (zf (sf ρ 224 2) 225)) 224 3) 231 7) 224 4) 239) 224 5
theorem gm_X8_init : gI yX8_init (Cond.code yX8_init cX8_init 2 none) 1 := ⟨by decide +kernel, tw_322, tw_10, tw_323⟩
set_option maxHeartbeats 8000000 in
set_option maxRecDepth 100000 in
theorem i_X8_init (l : Launch) (D : va_G) (B : Nat) (ca : Nat → ClassId) (σ : PS) (ρ : RF) : Met l yX8_init (Cond.code yX8_init cX8_init 2 none :: gw_tbl) { frames := 2, cells := 15, slots := 513, locals := 40 } (va_Pc [.ref (pad B (224)), .ref (pad B (7))] (gU D B ca (225) σ ρ)) (gQv D B ca (240, iz_X8_init σ, ir_X8_init ρ)) 15 513 (fun q => B ≤ q) := by
  refine g_entry (own := "AskedCamp$Sleuth") (by decide) rfl rfl (Nat.le_of_ble_eq_true rfl) (fun p e s m below meth c C hr hlk hm => ?_)
  refine g_lv [(0, .ref (pad B (224))), (1, .ref (pad B (7)))] rfl ?_
  refine g_aload_n C 0 dX8_init_0 rfl rfl ?_
  refine g_objInit C tw_324 tw_28 tw_29 dX8_init_1 ⟨Nat.le_of_ble_eq_true rfl, Nat.le_of_ble_eq_true rfl⟩ ?_
  refine g_aload_n C 0 dX8_init_4 rfl rfl ?_
  refine g_aload_n C 1 dX8_init_5 rfl rfl ?_
  refine gs_7_2 (i := 224) C (by decide) pi_224.2 rfl hm tw_332 dX8_init_6 ?_
  refine g_aload_n C 0 dX8_init_9 rfl rfl ?_
  refine g_new C inC_9 tyX10 tyX10_ok rfl tw_325 tw_151 tw_7 (pg_b9 pi_225.2) pg_d9 ⟨Nat.le_of_ble_eq_true rfl, Nat.le_of_ble_eq_true rfl⟩ dX8_init_10 ?_
  refine g_n (n1 := 226) rfl ?_
  refine g_dup C dX8_init_13 rfl ?_
  refine g_call C [] (i_X10_init l D B ca pi_225 _ _) tw_326 gm_X10_init ⟨rfl, rfl⟩ ⟨Nat.le_of_ble_eq_true rfl, Nat.le_of_ble_eq_true rfl⟩ rfl (Nat.le_of_ble_eq_true rfl) dX8_init_14 ⟨Nat.le_of_ble_eq_true rfl, Nat.le_of_ble_eq_true rfl⟩ ?_
  show PG _ _ _ _ _ _ _ _ _ _ _ _ _ _ _ _ _ (231) (iz_X10_init 225 (zr σ 225)) (ir_X10_init 225 (zf (sf ρ 224 2) 225)) _ _ _
  refine gs_7_3 (i := 224) C (by decide) pi_224.2 rfl hm tw_333 dX8_init_17 ?_
  refine g_aload_n C 0 dX8_init_20 rfl rfl ?_
  refine g_bipush (v := 7) C dX8_init_21 (by decide) ?_
  refine g_bipush (v := 61) C dX8_init_23 (by decide) ?_
  refine g_mna27 C pa_231.2 (by decide) rfl tw_327 tw_109 (by decide) (by decide) (by decide) (by decide) (by decide) ⟨Nat.le_of_ble_eq_true rfl, Nat.le_of_ble_eq_true rfl⟩ dX8_init_25 ?_
  refine g_n (n1 := 239) rfl ?_
  refine gs_7_4 (i := 224) C (by decide) pi_224.2 rfl hm tw_334 dX8_init_29 ?_
  refine g_aload_n C 0 dX8_init_32 rfl rfl ?_
  refine g_bipush (v := 7) C dX8_init_33 (by decide) ?_
  refine g_newa23 C pa_239.2 tw_142 (by decide) ⟨Nat.le_of_ble_eq_true rfl, Nat.le_of_ble_eq_true rfl⟩ dX8_init_35 ?_
  refine g_n (n1 := 240) rfl ?_
  refine gs_7_5 (i := 224) C (by decide) pi_224.2 rfl hm tw_335 dX8_init_37 ?_
  exact g_vret C hr hlk dX8_init_40 rfl
-- AskedCamp$Siege
def iz_X7_init (σ : PS) : PS := zr (iz_X10_init 242 (zr (zr σ 241) 242)) 248
def ir_X7_init (ρ : RF) : RF := sf (zf (sf (ir_X10_init 242 (zf (sf (zf ρ 241) 240 1) 242)) 240 4) 248) 240 5
theorem gm_X7_init : gI yX7_init (Cond.code yX7_init cX7_init 1 none) 0 := ⟨by decide +kernel, tw_352, tw_11, tw_353⟩
set_option maxHeartbeats 8000000 in
set_option maxRecDepth 100000 in
theorem i_X7_init (l : Launch) (D : va_G) (B : Nat) (ca : Nat → ClassId) (σ : PS) (ρ : RF) : Met l yX7_init (Cond.code yX7_init cX7_init 1 none :: gw_tbl) { frames := 2, cells := 8, slots := 112, locals := 40 } (va_Pc [.ref (pad B (240))] (gU D B ca (241) σ ρ)) (gQv D B ca (249, iz_X7_init σ, ir_X7_init ρ)) 8 112 (fun q => B ≤ q) := by
  refine g_entry (own := "AskedCamp$Siege") (by decide) rfl rfl (Nat.le_of_ble_eq_true rfl) (fun p e s m below meth c C hr hlk hm => ?_)
  refine g_lv [(0, .ref (pad B (240)))] rfl ?_
  refine g_aload_n C 0 dX7_init_0 rfl rfl ?_
  refine g_objInit C tw_354 tw_28 tw_29 dX7_init_1 ⟨Nat.le_of_ble_eq_true rfl, Nat.le_of_ble_eq_true rfl⟩ ?_
  refine g_aload_n C 0 dX7_init_4 rfl rfl ?_
  refine g_iconst (v := 3) C dX7_init_5 (by decide) ?_
  refine g_newa21 C pa_241.2 tw_109 (by decide) ⟨Nat.le_of_ble_eq_true rfl, Nat.le_of_ble_eq_true rfl⟩ dX7_init_6 ?_
  refine g_n (n1 := 242) rfl ?_
  refine gs_6_1 (i := 240) C (by decide) pi_240.2 rfl hm tw_359 dX7_init_8 ?_
  refine g_aload_n C 0 dX7_init_11 rfl rfl ?_
  refine g_new C inC_9 tyX10 tyX10_ok rfl tw_355 tw_151 tw_7 (pg_b9 pi_242.2) pg_d9 ⟨Nat.le_of_ble_eq_true rfl, Nat.le_of_ble_eq_true rfl⟩ dX7_init_12 ?_
  refine g_n (n1 := 243) rfl ?_
  refine g_dup C dX7_init_15 rfl ?_
  refine g_call C [] (i_X10_init l D B ca pi_242 _ _) tw_356 gm_X10_init ⟨rfl, rfl⟩ ⟨Nat.le_of_ble_eq_true rfl, Nat.le_of_ble_eq_true rfl⟩ rfl (Nat.le_of_ble_eq_true rfl) dX7_init_16 ⟨Nat.le_of_ble_eq_true rfl, Nat.le_of_ble_eq_true rfl⟩ ?_
  show PG _ _ _ _ _ _ _ _ _ _ _ _ _ _ _ _ _ (248) (iz_X10_init 242 (zr (zr σ 241) 242)) (ir_X10_init 242 (zf (sf (zf ρ 241) 240 1) 242)) _ _ _
  refine gs_6_4 (i := 240) C (by decide) pi_240.2 rfl hm tw_365 dX7_init_19 ?_
  refine g_aload_n C 0 dX7_init_22 rfl rfl ?_
  refine g_bipush (v := 37) C dX7_init_23 (by decide) ?_
  refine g_newa22 C pa_248.2 tw_143 (by decide) ⟨Nat.le_of_ble_eq_true rfl, Nat.le_of_ble_eq_true rfl⟩ dX7_init_25 ?_
  refine g_n (n1 := 249) rfl ?_
  refine gs_6_5 (i := 240) C (by decide) pi_240.2 rfl hm tw_366 dX7_init_27 ?_
  exact g_vret C hr hlk dX7_init_30 rfl
-- AskedCamp
def iz_X11_init (σ : PS) : PS := iz_X7_init (zr (iz_X8_init (zr (iz_X2_init (zr (iz_X0_init (zr (iz_X6_init 79 (zr (iz_X6_init 64 (zr (iz_X6_init 49 (zr (iz_X6_init 34 (zr (zr (iz_X6_init 18 (zr (iz_X4_init (zr (iz_X5_init (zr (iz_X1_init (zr (iz_X9_init (zr σ 1)) 3)) 4)) 7)) 18)) 33) 34)) 49)) 64)) 79)) 94)) 216)) 224)) 240)
def ir_X11_init (ρ : RF) : RF := sf (ir_X7_init (zf (sf (ir_X8_init (zf (sf (ir_X2_init (zf (sf (ir_X0_init (zf (sf (ir_X6_init 79 (zf (sf (ir_X6_init 64 (zf (sf (ir_X6_init 49 (zf (sf (ir_X6_init 34 (zf (sf (zf (sf (ir_X6_init 18 (zf (sf (ir_X4_init (zf (sf (ir_X5_init (zf (sf (ir_X1_init (zf (sf (ir_X9_init (zf ρ 1)) 0 0) 3)) 0 1) 4)) 0 2) 7)) 0 3) 18)) 0 4) 33) 0 5) 34)) 33 0) 49)) 33 1) 64)) 33 2) 79)) 33 3) 94)) 0 6) 216)) 0 7) 224)) 0 8) 240)) 0 9
theorem gm_X11_init : gI yX11_init (Cond.code yX11_init cX11_init 2 none) 0 := ⟨by decide +kernel, tw_25, tw_1, tw_26⟩
set_option maxHeartbeats 8000000 in
set_option maxRecDepth 100000 in
theorem i_X11_init (l : Launch) (D : va_G) (B : Nat) (ca : Nat → ClassId) (σ : PS) (ρ : RF) : Met l yX11_init (Cond.code yX11_init cX11_init 2 none :: gw_tbl) { frames := 3, cells := 248, slots := 6442, locals := 61 } (va_Pc [.ref (pad B (0))] (gU D B ca (1) σ ρ)) (gQv D B ca (249, iz_X11_init σ, ir_X11_init ρ)) 248 6442 (fun q => B ≤ q) := by
  refine g_entry (own := "AskedCamp") (by decide) rfl rfl (Nat.le_of_ble_eq_true rfl) (fun p e s m below meth c C hr hlk hm => ?_)
  refine g_lv [(0, .ref (pad B (0)))] rfl ?_
  refine g_aload_n C 0 dX11_init_0 rfl rfl ?_
  refine g_objInit C tw_27 tw_28 tw_29 dX11_init_1 ⟨Nat.le_of_ble_eq_true rfl, Nat.le_of_ble_eq_true rfl⟩ ?_
  refine g_aload_n C 0 dX11_init_4 rfl rfl ?_
  refine g_new C inC_8 tyX9 tyX9_ok rfl tw_30 tw_31 tw_2 (pg_b8 pi_1.2) pg_d8 ⟨Nat.le_of_ble_eq_true rfl, Nat.le_of_ble_eq_true rfl⟩ dX11_init_5 ?_
  refine g_n (n1 := 2) rfl ?_
  refine g_dup C dX11_init_8 rfl ?_
  refine g_call C [] (i_X9_init l D B ca _ _) tw_32 gm_X9_init ⟨rfl, rfl⟩ ⟨Nat.le_of_ble_eq_true rfl, Nat.le_of_ble_eq_true rfl⟩ rfl (Nat.le_of_ble_eq_true rfl) dX11_init_9 ⟨Nat.le_of_ble_eq_true rfl, Nat.le_of_ble_eq_true rfl⟩ ?_
  show PG _ _ _ _ _ _ _ _ _ _ _ _ _ _ _ _ _ (3) (iz_X9_init (zr σ 1)) (ir_X9_init (zf ρ 1)) _ _ _
  refine gs_10_0 (i := 0) C (by decide) pi_0.2 rfl hm tw_380 dX11_init_12 ?_
  refine g_aload_n C 0 dX11_init_15 rfl rfl ?_
  refine g_new C inC_1 tyX1 tyX1_ok rfl tw_66 tw_67 tw_3 (pg_b1 pi_3.2) pg_d1 ⟨Nat.le_of_ble_eq_true rfl, Nat.le_of_ble_eq_true rfl⟩ dX11_init_16 ?_
  refine g_n (n1 := 4) rfl ?_
  refine g_dup C dX11_init_19 rfl ?_
  refine g_aload_n C 0 dX11_init_20 rfl rfl ?_
  refine gg_10_0 (i := 0) C (by decide) pi_0.2 rfl tw_380 dX11_init_21 ?_
  refine g_call C [.ref (pad B (1))] (i_X1_init l D B ca _ _) tw_68 gm_X1_init ⟨rfl, rfl⟩ ⟨Nat.le_of_ble_eq_true rfl, Nat.le_of_ble_eq_true rfl⟩ rfl (Nat.le_of_ble_eq_true rfl) dX11_init_24 ⟨Nat.le_of_ble_eq_true rfl, Nat.le_of_ble_eq_true rfl⟩ ?_
  show PG _ _ _ _ _ _ _ _ _ _ _ _ _ _ _ _ _ (4) (iz_X1_init (zr (iz_X9_init (zr σ 1)) 3)) (ir_X1_init (zf (sf (ir_X9_init (zf ρ 1)) 0 0) 3)) _ _ _
  refine gs_10_1 (i := 0) C (by decide) pi_0.2 rfl hm tw_381 dX11_init_27 ?_
  refine g_aload_n C 0 dX11_init_30 rfl rfl ?_
  refine g_new C inC_4 tyX5 tyX5_ok rfl tw_76 tw_77 tw_4 (pg_b4 pi_4.2) pg_d4 ⟨Nat.le_of_ble_eq_true rfl, Nat.le_of_ble_eq_true rfl⟩ dX11_init_31 ?_
  refine g_n (n1 := 5) rfl ?_
  refine g_dup C dX11_init_34 rfl ?_
  refine g_aload_n C 0 dX11_init_35 rfl rfl ?_
  refine gg_10_0 (i := 0) C (by decide) pi_0.2 rfl tw_380 dX11_init_36 ?_
  refine g_call C [.ref (pad B (1))] (i_X5_init l D B ca _ _) tw_78 gm_X5_init ⟨rfl, rfl⟩ ⟨Nat.le_of_ble_eq_true rfl, Nat.le_of_ble_eq_true rfl⟩ rfl (Nat.le_of_ble_eq_true rfl) dX11_init_39 ⟨Nat.le_of_ble_eq_true rfl, Nat.le_of_ble_eq_true rfl⟩ ?_
  show PG _ _ _ _ _ _ _ _ _ _ _ _ _ _ _ _ _ (7) (iz_X5_init (zr (iz_X1_init (zr (iz_X9_init (zr σ 1)) 3)) 4)) (ir_X5_init (zf (sf (ir_X1_init (zf (sf (ir_X9_init (zf ρ 1)) 0 0) 3)) 0 1) 4)) _ _ _
  refine gs_10_2 (i := 0) C (by decide) pi_0.2 rfl hm tw_382 dX11_init_42 ?_
  refine g_aload_n C 0 dX11_init_45 rfl rfl ?_
  refine g_new C inC_3 tyX4 tyX4_ok rfl tw_110 tw_111 tw_5 (pg_b3 pi_7.2) pg_d3 ⟨Nat.le_of_ble_eq_true rfl, Nat.le_of_ble_eq_true rfl⟩ dX11_init_46 ?_
  refine g_n (n1 := 8) rfl ?_
  refine g_dup C dX11_init_49 rfl ?_
  refine g_call C [] (i_X4_init l D B ca _ _) tw_112 gm_X4_init ⟨rfl, rfl⟩ ⟨Nat.le_of_ble_eq_true rfl, Nat.le_of_ble_eq_true rfl⟩ rfl (Nat.le_of_ble_eq_true rfl) dX11_init_50 ⟨Nat.le_of_ble_eq_true rfl, Nat.le_of_ble_eq_true rfl⟩ ?_
  show PG _ _ _ _ _ _ _ _ _ _ _ _ _ _ _ _ _ (18) (iz_X4_init (zr (iz_X5_init (zr (iz_X1_init (zr (iz_X9_init (zr σ 1)) 3)) 4)) 7)) (ir_X4_init (zf (sf (ir_X5_init (zf (sf (ir_X1_init (zf (sf (ir_X9_init (zf ρ 1)) 0 0) 3)) 0 1) 4)) 0 2) 7)) _ _ _
  refine gs_10_3 (i := 0) C (by decide) pi_0.2 rfl hm tw_383 dX11_init_53 ?_
  refine g_aload_n C 0 dX11_init_56 rfl rfl ?_
  refine g_new C inC_5 tyX6 tyX6_ok rfl tw_144 tw_145 tw_6 (pg_b5 pi_18.2) pg_d5 ⟨Nat.le_of_ble_eq_true rfl, Nat.le_of_ble_eq_true rfl⟩ dX11_init_57 ?_
  refine g_n (n1 := 19) rfl ?_
  refine g_dup C dX11_init_60 rfl ?_
  refine g_call C [] (i_X6_init l D B ca pi_18 _ _) tw_146 gm_X6_init ⟨rfl, rfl⟩ ⟨Nat.le_of_ble_eq_true rfl, Nat.le_of_ble_eq_true rfl⟩ rfl (Nat.le_of_ble_eq_true rfl) dX11_init_61 ⟨Nat.le_of_ble_eq_true rfl, Nat.le_of_ble_eq_true rfl⟩ ?_
  show PG _ _ _ _ _ _ _ _ _ _ _ _ _ _ _ _ _ (33) (iz_X6_init 18 (zr (iz_X4_init (zr (iz_X5_init (zr (iz_X1_init (zr (iz_X9_init (zr σ 1)) 3)) 4)) 7)) 18)) (ir_X6_init 18 (zf (sf (ir_X4_init (zf (sf (ir_X5_init (zf (sf (ir_X1_init (zf (sf (ir_X9_init (zf ρ 1)) 0 0) 3)) 0 1) 4)) 0 2) 7)) 0 3) 18)) _ _ _
  refine gs_10_4 (i := 0) C (by decide) pi_0.2 rfl hm tw_384 dX11_init_64 ?_
  refine g_aload_n C 0 dX11_init_67 rfl rfl ?_
  refine g_iconst (v := 4) C dX11_init_68 (by decide) ?_
  refine g_anew25 C pa_33.2 tw_144 (by decide) ⟨Nat.le_of_ble_eq_true rfl, Nat.le_of_ble_eq_true rfl⟩ dX11_init_69 ?_
  refine g_n (n1 := 34) rfl ?_
  refine gs_10_5 (i := 0) C (by decide) pi_0.2 rfl hm tw_385 dX11_init_72 ?_
  refine g_iconst (v := 0) C dX11_init_75 (by decide) ?_
  refine g_istore_n C [(1, .int 0), (0, .ref (pad B (0)))] dX11_init_76 rfl (by decide) rfl ?_
  refine g_iload_n C 0 dX11_init_77 rfl rfl ?_
  refine g_iconst (v := 4) C dX11_init_78 (by decide) ?_
  refine g_icmp_ge (tgt := 101) C dX11_init_79 (by decide) (fun h => absurd h (by decide)) (fun _ => ?_)
  refine g_aload_n C 1 dX11_init_82 rfl rfl ?_
  refine gg_10_5 (i := 0) C (by decide) pi_0.2 rfl tw_385 dX11_init_83 ?_
  refine g_iload_n C 0 dX11_init_86 rfl rfl ?_
  refine g_new C inC_5 tyX6 tyX6_ok rfl tw_144 tw_145 tw_6 (pg_b5 pi_34.2) pg_d5 ⟨Nat.le_of_ble_eq_true rfl, Nat.le_of_ble_eq_true rfl⟩ dX11_init_87 ?_
  refine g_n (n1 := 35) rfl ?_
  refine g_dup C dX11_init_90 rfl ?_
  refine g_call C [] (i_X6_init l D B ca pi_34 _ _) tw_146 gm_X6_init ⟨rfl, rfl⟩ ⟨Nat.le_of_ble_eq_true rfl, Nat.le_of_ble_eq_true rfl⟩ rfl (Nat.le_of_ble_eq_true rfl) dX11_init_91 ⟨Nat.le_of_ble_eq_true rfl, Nat.le_of_ble_eq_true rfl⟩ ?_
  show PG _ _ _ _ _ _ _ _ _ _ _ _ _ _ _ _ _ (49) (iz_X6_init 34 (zr (zr (iz_X6_init 18 (zr (iz_X4_init (zr (iz_X5_init (zr (iz_X1_init (zr (iz_X9_init (zr σ 1)) 3)) 4)) 7)) 18)) 33) 34)) (ir_X6_init 34 (zf (sf (zf (sf (ir_X6_init 18 (zf (sf (ir_X4_init (zf (sf (ir_X5_init (zf (sf (ir_X1_init (zf (sf (ir_X9_init (zf ρ 1)) 0 0) 3)) 0 1) 4)) 0 2) 7)) 0 3) 18)) 0 4) 33) 0 5) 34)) _ _ _
  refine g_aast25 (a := 33) (jn := 0) C ⟨by decide, pa_33.2⟩ (by decide) (by decide) (pg_c5 (pi_34.2)) dX11_init_94 ?_
  refine g_iinc C 0 [(1, .int 1), (0, .ref (pad B (0)))] dX11_init_95 rfl (by decide) (by decide) rfl ?_
  refine g_goto (tgt := 77) C dX11_init_98 (by decide) ?_
  refine g_iload_n C 0 dX11_init_77 rfl rfl ?_
  refine g_iconst (v := 4) C dX11_init_78 (by decide) ?_
  refine g_icmp_ge (tgt := 101) C dX11_init_79 (by decide) (fun h => absurd h (by decide)) (fun _ => ?_)
  refine g_aload_n C 1 dX11_init_82 rfl rfl ?_
  refine gg_10_5 (i := 0) C (by decide) pi_0.2 rfl tw_385 dX11_init_83 ?_
  refine g_iload_n C 0 dX11_init_86 rfl rfl ?_
  refine g_new C inC_5 tyX6 tyX6_ok rfl tw_144 tw_145 tw_6 (pg_b5 pi_49.2) pg_d5 ⟨Nat.le_of_ble_eq_true rfl, Nat.le_of_ble_eq_true rfl⟩ dX11_init_87 ?_
  refine g_n (n1 := 50) rfl ?_
  refine g_dup C dX11_init_90 rfl ?_
  refine g_call C [] (i_X6_init l D B ca pi_49 _ _) tw_146 gm_X6_init ⟨rfl, rfl⟩ ⟨Nat.le_of_ble_eq_true rfl, Nat.le_of_ble_eq_true rfl⟩ rfl (Nat.le_of_ble_eq_true rfl) dX11_init_91 ⟨Nat.le_of_ble_eq_true rfl, Nat.le_of_ble_eq_true rfl⟩ ?_
  show PG _ _ _ _ _ _ _ _ _ _ _ _ _ _ _ _ _ (64) (iz_X6_init 49 (zr (iz_X6_init 34 (zr (zr (iz_X6_init 18 (zr (iz_X4_init (zr (iz_X5_init (zr (iz_X1_init (zr (iz_X9_init (zr σ 1)) 3)) 4)) 7)) 18)) 33) 34)) 49)) (ir_X6_init 49 (zf (sf (ir_X6_init 34 (zf (sf (zf (sf (ir_X6_init 18 (zf (sf (ir_X4_init (zf (sf (ir_X5_init (zf (sf (ir_X1_init (zf (sf (ir_X9_init (zf ρ 1)) 0 0) 3)) 0 1) 4)) 0 2) 7)) 0 3) 18)) 0 4) 33) 0 5) 34)) 33 0) 49)) _ _ _
  refine g_aast25 (a := 33) (jn := 1) C ⟨by decide, pa_33.2⟩ (by decide) (by decide) (pg_c5 (pi_49.2)) dX11_init_94 ?_
  refine g_iinc C 0 [(1, .int 2), (0, .ref (pad B (0)))] dX11_init_95 rfl (by decide) (by decide) rfl ?_
  refine g_goto (tgt := 77) C dX11_init_98 (by decide) ?_
  refine g_iload_n C 0 dX11_init_77 rfl rfl ?_
  refine g_iconst (v := 4) C dX11_init_78 (by decide) ?_
  refine g_icmp_ge (tgt := 101) C dX11_init_79 (by decide) (fun h => absurd h (by decide)) (fun _ => ?_)
  refine g_aload_n C 1 dX11_init_82 rfl rfl ?_
  refine gg_10_5 (i := 0) C (by decide) pi_0.2 rfl tw_385 dX11_init_83 ?_
  refine g_iload_n C 0 dX11_init_86 rfl rfl ?_
  refine g_new C inC_5 tyX6 tyX6_ok rfl tw_144 tw_145 tw_6 (pg_b5 pi_64.2) pg_d5 ⟨Nat.le_of_ble_eq_true rfl, Nat.le_of_ble_eq_true rfl⟩ dX11_init_87 ?_
  refine g_n (n1 := 65) rfl ?_
  refine g_dup C dX11_init_90 rfl ?_
  refine g_call C [] (i_X6_init l D B ca pi_64 _ _) tw_146 gm_X6_init ⟨rfl, rfl⟩ ⟨Nat.le_of_ble_eq_true rfl, Nat.le_of_ble_eq_true rfl⟩ rfl (Nat.le_of_ble_eq_true rfl) dX11_init_91 ⟨Nat.le_of_ble_eq_true rfl, Nat.le_of_ble_eq_true rfl⟩ ?_
  show PG _ _ _ _ _ _ _ _ _ _ _ _ _ _ _ _ _ (79) (iz_X6_init 64 (zr (iz_X6_init 49 (zr (iz_X6_init 34 (zr (zr (iz_X6_init 18 (zr (iz_X4_init (zr (iz_X5_init (zr (iz_X1_init (zr (iz_X9_init (zr σ 1)) 3)) 4)) 7)) 18)) 33) 34)) 49)) 64)) (ir_X6_init 64 (zf (sf (ir_X6_init 49 (zf (sf (ir_X6_init 34 (zf (sf (zf (sf (ir_X6_init 18 (zf (sf (ir_X4_init (zf (sf (ir_X5_init (zf (sf (ir_X1_init (zf (sf (ir_X9_init (zf ρ 1)) 0 0) 3)) 0 1) 4)) 0 2) 7)) 0 3) 18)) 0 4) 33) 0 5) 34)) 33 0) 49)) 33 1) 64)) _ _ _
  refine g_aast25 (a := 33) (jn := 2) C ⟨by decide, pa_33.2⟩ (by decide) (by decide) (pg_c5 (pi_64.2)) dX11_init_94 ?_
  refine g_iinc C 0 [(1, .int 3), (0, .ref (pad B (0)))] dX11_init_95 rfl (by decide) (by decide) rfl ?_
  refine g_goto (tgt := 77) C dX11_init_98 (by decide) ?_
  refine g_iload_n C 0 dX11_init_77 rfl rfl ?_
  refine g_iconst (v := 4) C dX11_init_78 (by decide) ?_
  refine g_icmp_ge (tgt := 101) C dX11_init_79 (by decide) (fun h => absurd h (by decide)) (fun _ => ?_)
  refine g_aload_n C 1 dX11_init_82 rfl rfl ?_
  refine gg_10_5 (i := 0) C (by decide) pi_0.2 rfl tw_385 dX11_init_83 ?_
  refine g_iload_n C 0 dX11_init_86 rfl rfl ?_
  refine g_new C inC_5 tyX6 tyX6_ok rfl tw_144 tw_145 tw_6 (pg_b5 pi_79.2) pg_d5 ⟨Nat.le_of_ble_eq_true rfl, Nat.le_of_ble_eq_true rfl⟩ dX11_init_87 ?_
  refine g_n (n1 := 80) rfl ?_
  refine g_dup C dX11_init_90 rfl ?_
  refine g_call C [] (i_X6_init l D B ca pi_79 _ _) tw_146 gm_X6_init ⟨rfl, rfl⟩ ⟨Nat.le_of_ble_eq_true rfl, Nat.le_of_ble_eq_true rfl⟩ rfl (Nat.le_of_ble_eq_true rfl) dX11_init_91 ⟨Nat.le_of_ble_eq_true rfl, Nat.le_of_ble_eq_true rfl⟩ ?_
  show PG _ _ _ _ _ _ _ _ _ _ _ _ _ _ _ _ _ (94) (iz_X6_init 79 (zr (iz_X6_init 64 (zr (iz_X6_init 49 (zr (iz_X6_init 34 (zr (zr (iz_X6_init 18 (zr (iz_X4_init (zr (iz_X5_init (zr (iz_X1_init (zr (iz_X9_init (zr σ 1)) 3)) 4)) 7)) 18)) 33) 34)) 49)) 64)) 79)) (ir_X6_init 79 (zf (sf (ir_X6_init 64 (zf (sf (ir_X6_init 49 (zf (sf (ir_X6_init 34 (zf (sf (zf (sf (ir_X6_init 18 (zf (sf (ir_X4_init (zf (sf (ir_X5_init (zf (sf (ir_X1_init (zf (sf (ir_X9_init (zf ρ 1)) 0 0) 3)) 0 1) 4)) 0 2) 7)) 0 3) 18)) 0 4) 33) 0 5) 34)) 33 0) 49)) 33 1) 64)) 33 2) 79)) _ _ _
  refine g_aast25 (a := 33) (jn := 3) C ⟨by decide, pa_33.2⟩ (by decide) (by decide) (pg_c5 (pi_79.2)) dX11_init_94 ?_
  refine g_iinc C 0 [(1, .int 4), (0, .ref (pad B (0)))] dX11_init_95 rfl (by decide) (by decide) rfl ?_
  refine g_goto (tgt := 77) C dX11_init_98 (by decide) ?_
  refine g_iload_n C 0 dX11_init_77 rfl rfl ?_
  refine g_iconst (v := 4) C dX11_init_78 (by decide) ?_
  refine g_icmp_ge (tgt := 101) C dX11_init_79 (by decide) (fun _ => ?_) (fun h => absurd (by decide) h)
  refine g_aload_n C 1 dX11_init_101 rfl rfl ?_
  refine g_new C inC_0 tyX0 tyX0_ok rfl tw_265 tw_266 tw_8 (pg_b0 pi_94.2) pg_d0 ⟨Nat.le_of_ble_eq_true rfl, Nat.le_of_ble_eq_true rfl⟩ dX11_init_102 ?_
  refine g_n (n1 := 95) rfl ?_
  refine g_dup C dX11_init_105 rfl ?_
  refine g_call C [] (i_X0_init l D B ca _ _) tw_267 gm_X0_init ⟨rfl, rfl⟩ ⟨Nat.le_of_ble_eq_true rfl, Nat.le_of_ble_eq_true rfl⟩ rfl (Nat.le_of_ble_eq_true rfl) dX11_init_106 ⟨Nat.le_of_ble_eq_true rfl, Nat.le_of_ble_eq_true rfl⟩ ?_
  show PG _ _ _ _ _ _ _ _ _ _ _ _ _ _ _ _ _ (216) (iz_X0_init (zr (iz_X6_init 79 (zr (iz_X6_init 64 (zr (iz_X6_init 49 (zr (iz_X6_init 34 (zr (zr (iz_X6_init 18 (zr (iz_X4_init (zr (iz_X5_init (zr (iz_X1_init (zr (iz_X9_init (zr σ 1)) 3)) 4)) 7)) 18)) 33) 34)) 49)) 64)) 79)) 94)) (ir_X0_init (zf (sf (ir_X6_init 79 (zf (sf (ir_X6_init 64 (zf (sf (ir_X6_init 49 (zf (sf (ir_X6_init 34 (zf (sf (zf (sf (ir_X6_init 18 (zf (sf (ir_X4_init (zf (sf (ir_X5_init (zf (sf (ir_X1_init (zf (sf (ir_X9_init (zf ρ 1)) 0 0) 3)) 0 1) 4)) 0 2) 7)) 0 3) 18)) 0 4) 33) 0 5) 34)) 33 0) 49)) 33 1) 64)) 33 2) 79)) 33 3) 94)) _ _ _
  refine gs_10_6 (i := 0) C (by decide) pi_0.2 rfl hm tw_386 dX11_init_109 ?_
  refine g_aload_n C 1 dX11_init_112 rfl rfl ?_
  refine g_new C inC_2 tyX2 tyX2_ok rfl tw_285 tw_286 tw_9 (pg_b2 pi_216.2) pg_d2 ⟨Nat.le_of_ble_eq_true rfl, Nat.le_of_ble_eq_true rfl⟩ dX11_init_113 ?_
  refine g_n (n1 := 217) rfl ?_
  refine g_dup C dX11_init_116 rfl ?_
  refine g_aload_n C 1 dX11_init_117 rfl rfl ?_
  refine gg_10_3 (i := 0) C (by decide) pi_0.2 rfl tw_383 dX11_init_118 ?_
  refine g_call C [.ref (pad B (7))] (i_X2_init l D B ca _ _) tw_287 gm_X2_init ⟨rfl, rfl⟩ ⟨Nat.le_of_ble_eq_true rfl, Nat.le_of_ble_eq_true rfl⟩ rfl (Nat.le_of_ble_eq_true rfl) dX11_init_121 ⟨Nat.le_of_ble_eq_true rfl, Nat.le_of_ble_eq_true rfl⟩ ?_
  show PG _ _ _ _ _ _ _ _ _ _ _ _ _ _ _ _ _ (224) (iz_X2_init (zr (iz_X0_init (zr (iz_X6_init 79 (zr (iz_X6_init 64 (zr (iz_X6_init 49 (zr (iz_X6_init 34 (zr (zr (iz_X6_init 18 (zr (iz_X4_init (zr (iz_X5_init (zr (iz_X1_init (zr (iz_X9_init (zr σ 1)) 3)) 4)) 7)) 18)) 33) 34)) 49)) 64)) 79)) 94)) 216)) (ir_X2_init (zf (sf (ir_X0_init (zf (sf (ir_X6_init 79 (zf (sf (ir_X6_init 64 (zf (sf (ir_X6_init 49 (zf (sf (ir_X6_init 34 (zf (sf (zf (sf (ir_X6_init 18 (zf (sf (ir_X4_init (zf (sf (ir_X5_init (zf (sf (ir_X1_init (zf (sf (ir_X9_init (zf ρ 1)) 0 0) 3)) 0 1) 4)) 0 2) 7)) 0 3) 18)) 0 4) 33) 0 5) 34)) 33 0) 49)) 33 1) 64)) 33 2) 79)) 33 3) 94)) 0 6) 216)) _ _ _
  refine gs_10_7 (i := 0) C (by decide) pi_0.2 rfl hm tw_387 dX11_init_124 ?_
  refine g_aload_n C 1 dX11_init_127 rfl rfl ?_
  refine g_new C inC_7 tyX8 tyX8_ok rfl tw_319 tw_320 tw_10 (pg_b7 pi_224.2) pg_d7 ⟨Nat.le_of_ble_eq_true rfl, Nat.le_of_ble_eq_true rfl⟩ dX11_init_128 ?_
  refine g_n (n1 := 225) rfl ?_
  refine g_dup C dX11_init_131 rfl ?_
  refine g_aload_n C 1 dX11_init_132 rfl rfl ?_
  refine gg_10_3 (i := 0) C (by decide) pi_0.2 rfl tw_383 dX11_init_133 ?_
  refine g_call C [.ref (pad B (7))] (i_X8_init l D B ca _ _) tw_321 gm_X8_init ⟨rfl, rfl⟩ ⟨Nat.le_of_ble_eq_true rfl, Nat.le_of_ble_eq_true rfl⟩ rfl (Nat.le_of_ble_eq_true rfl) dX11_init_136 ⟨Nat.le_of_ble_eq_true rfl, Nat.le_of_ble_eq_true rfl⟩ ?_
  show PG _ _ _ _ _ _ _ _ _ _ _ _ _ _ _ _ _ (240) (iz_X8_init (zr (iz_X2_init (zr (iz_X0_init (zr (iz_X6_init 79 (zr (iz_X6_init 64 (zr (iz_X6_init 49 (zr (iz_X6_init 34 (zr (zr (iz_X6_init 18 (zr (iz_X4_init (zr (iz_X5_init (zr (iz_X1_init (zr (iz_X9_init (zr σ 1)) 3)) 4)) 7)) 18)) 33) 34)) 49)) 64)) 79)) 94)) 216)) 224)) (ir_X8_init (zf (sf (ir_X2_init (zf (sf (ir_X0_init (zf (sf (ir_X6_init 79 (zf (sf (ir_X6_init 64 (zf (sf (ir_X6_init 49 (zf (sf (ir_X6_init 34 (zf (sf (zf (sf (ir_X6_init 18 (zf (sf (ir_X4_init (zf (sf (ir_X5_init (zf (sf (ir_X1_init (zf (sf (ir_X9_init (zf ρ 1)) 0 0) 3)) 0 1) 4)) 0 2) 7)) 0 3) 18)) 0 4) 33) 0 5) 34)) 33 0) 49)) 33 1) 64)) 33 2) 79)) 33 3) 94)) 0 6) 216)) 0 7) 224)) _ _ _
  refine gs_10_8 (i := 0) C (by decide) pi_0.2 rfl hm tw_388 dX11_init_139 ?_
  refine g_aload_n C 1 dX11_init_142 rfl rfl ?_
  refine g_new C inC_6 tyX7 tyX7_ok rfl tw_349 tw_350 tw_11 (pg_b6 pi_240.2) pg_d6 ⟨Nat.le_of_ble_eq_true rfl, Nat.le_of_ble_eq_true rfl⟩ dX11_init_143 ?_
  refine g_n (n1 := 241) rfl ?_
  refine g_dup C dX11_init_146 rfl ?_
  refine g_call C [] (i_X7_init l D B ca _ _) tw_351 gm_X7_init ⟨rfl, rfl⟩ ⟨Nat.le_of_ble_eq_true rfl, Nat.le_of_ble_eq_true rfl⟩ rfl (Nat.le_of_ble_eq_true rfl) dX11_init_147 ⟨Nat.le_of_ble_eq_true rfl, Nat.le_of_ble_eq_true rfl⟩ ?_
  show PG _ _ _ _ _ _ _ _ _ _ _ _ _ _ _ _ _ (249) (iz_X7_init (zr (iz_X8_init (zr (iz_X2_init (zr (iz_X0_init (zr (iz_X6_init 79 (zr (iz_X6_init 64 (zr (iz_X6_init 49 (zr (iz_X6_init 34 (zr (zr (iz_X6_init 18 (zr (iz_X4_init (zr (iz_X5_init (zr (iz_X1_init (zr (iz_X9_init (zr σ 1)) 3)) 4)) 7)) 18)) 33) 34)) 49)) 64)) 79)) 94)) 216)) 224)) 240)) (ir_X7_init (zf (sf (ir_X8_init (zf (sf (ir_X2_init (zf (sf (ir_X0_init (zf (sf (ir_X6_init 79 (zf (sf (ir_X6_init 64 (zf (sf (ir_X6_init 49 (zf (sf (ir_X6_init 34 (zf (sf (zf (sf (ir_X6_init 18 (zf (sf (ir_X4_init (zf (sf (ir_X5_init (zf (sf (ir_X1_init (zf (sf (ir_X9_init (zf ρ 1)) 0 0) 3)) 0 1) 4)) 0 2) 7)) 0 3) 18)) 0 4) 33) 0 5) 34)) 33 0) 49)) 33 1) 64)) 33 2) 79)) 33 3) 94)) 0 6) 216)) 0 7) 224)) 0 8) 240)) _ _ _
  refine gs_10_9 (i := 0) C (by decide) pi_0.2 rfl hm tw_389 dX11_init_150 ?_
  exact g_vret C hr hlk dX11_init_153 rfl
-- AskedCampModel
def iz_X12_init (σ : PS) : PS := zr (zr (zr (zr (zr (zr (zr (zr (zr (zr (zr (zr (zr (zr (zr (zr (zr (psI (zr (zr (zr (zr (zr (zr (zr (zr (zr (zr σ 250) 251) 252) 253) 254) 255) 256) 257) 258) 259) 249 21 (-1)) 260) 261) 262) 263) 264) 265) 266) 267) 268) 269) 270) 271) 272) 273) 274) 275) 276
def ir_X12_init (ρ : RF) : RF := sf (zf (sf (zf (sf (zf (sf (zf (sf (zf (sf (zf (sf (zf (sf (zf (sf (zf (sf (zf (sf (zf (sf (zf (sf (zf (sf (zf (sf (zf (sf (zf (sf (zf (sf (zf (sf (zf (sf (zf (sf (zf (sf (zf (sf (zf (sf (zf (sf (zf (sf (zf (sf (zf ρ 250) 249 0) 251) 249 3) 252) 249 4) 253) 249 5) 254) 249 6) 255) 249 7) 256) 249 15) 257) 249 17) 258) 249 19) 259) 249 20) 260) 249 23) 261) 249 24) 262) 249 25) 263) 249 27) 264) 249 28) 265) 249 29) 266) 249 30) 267) 249 31) 268) 249 32) 269) 249 33) 270) 249 35) 271) 249 36) 272) 249 37) 273) 249 39) 274) 249 40) 275) 249 41) 276) 249 42
theorem gm_X12_init : gI yX12_init (Cond.code yX12_init cX12_init 1 none) 0 := ⟨by decide +kernel, tw_1050, tw_12, tw_1051⟩
set_option maxHeartbeats 8000000 in
set_option maxRecDepth 100000 in
theorem i_X12_init (l : Launch) (D : va_G) (B : Nat) (ca : Nat → ClassId) (σ : PS) (ρ : RF) : Met l yX12_init (Cond.code yX12_init cX12_init 1 none :: gw_tbl) { frames := 1, cells := 27, slots := 7320, locals := 20 } (va_Pc [.ref (pad B (249))] (gU D B ca (250) σ ρ)) (gQv D B ca (277, iz_X12_init σ, ir_X12_init ρ)) 27 7320 (fun q => B ≤ q) := by
  refine g_entry (own := "AskedCampModel") (by decide) rfl rfl (Nat.le_of_ble_eq_true rfl) (fun p e s m below meth c C hr hlk hm => ?_)
  refine g_lv [(0, .ref (pad B (249)))] rfl ?_
  refine g_aload_n C 0 dX12_init_0 rfl rfl ?_
  refine g_objInit C tw_1052 tw_28 tw_29 dX12_init_1 ⟨Nat.le_of_ble_eq_true rfl, Nat.le_of_ble_eq_true rfl⟩ ?_
  refine g_aload_n C 0 dX12_init_4 rfl rfl ?_
  refine g_sipush (v := 400) C dX12_init_5 (by decide) ?_
  refine g_newa20 C pa_250.2 tw_65 (by decide) ⟨Nat.le_of_ble_eq_true rfl, Nat.le_of_ble_eq_true rfl⟩ dX12_init_8 ?_
  refine g_n (n1 := 251) rfl ?_
  refine gs_11_0 (i := 249) C (by decide) pi_249.2 rfl hm tw_1053 dX12_init_10 ?_
  refine g_aload_n C 0 dX12_init_13 rfl rfl ?_
  refine g_sipush (v := 2400) C dX12_init_14 (by decide) ?_
  refine g_newa21 C pa_251.2 tw_109 (by decide) ⟨Nat.le_of_ble_eq_true rfl, Nat.le_of_ble_eq_true rfl⟩ dX12_init_17 ?_
  refine g_n (n1 := 252) rfl ?_
  refine gs_11_3 (i := 249) C (by decide) pi_249.2 rfl hm tw_1056 dX12_init_19 ?_
  refine g_aload_n C 0 dX12_init_22 rfl rfl ?_
  refine g_bipush (v := 7) C dX12_init_23 (by decide) ?_
  refine g_newa21 C pa_252.2 tw_109 (by decide) ⟨Nat.le_of_ble_eq_true rfl, Nat.le_of_ble_eq_true rfl⟩ dX12_init_25 ?_
  refine g_n (n1 := 253) rfl ?_
  refine gs_11_4 (i := 249) C (by decide) pi_249.2 rfl hm tw_1057 dX12_init_27 ?_
  refine g_aload_n C 0 dX12_init_30 rfl rfl ?_
  refine g_sipush (v := 288) C dX12_init_31 (by decide) ?_
  refine g_newa21 C pa_253.2 tw_109 (by decide) ⟨Nat.le_of_ble_eq_true rfl, Nat.le_of_ble_eq_true rfl⟩ dX12_init_34 ?_
  refine g_n (n1 := 254) rfl ?_
  refine gs_11_5 (i := 249) C (by decide) pi_249.2 rfl hm tw_1058 dX12_init_36 ?_
  refine g_aload_n C 0 dX12_init_39 rfl rfl ?_
  refine g_bipush (v := 6) C dX12_init_40 (by decide) ?_
  refine g_newa21 C pa_254.2 tw_109 (by decide) ⟨Nat.le_of_ble_eq_true rfl, Nat.le_of_ble_eq_true rfl⟩ dX12_init_42 ?_
  refine g_n (n1 := 255) rfl ?_
  refine gs_11_6 (i := 249) C (by decide) pi_249.2 rfl hm tw_1059 dX12_init_44 ?_
  refine g_aload_n C 0 dX12_init_47 rfl rfl ?_
  refine g_sipush (v := 158) C dX12_init_48 (by decide) ?_
  refine g_newa21 C pa_255.2 tw_109 (by decide) ⟨Nat.le_of_ble_eq_true rfl, Nat.le_of_ble_eq_true rfl⟩ dX12_init_51 ?_
  refine g_n (n1 := 256) rfl ?_
  refine gs_11_7 (i := 249) C (by decide) pi_249.2 rfl hm tw_1060 dX12_init_53 ?_
  refine g_aload_n C 0 dX12_init_56 rfl rfl ?_
  refine g_sipush (v := 400) C dX12_init_57 (by decide) ?_
  refine g_newa21 C pa_256.2 tw_109 (by decide) ⟨Nat.le_of_ble_eq_true rfl, Nat.le_of_ble_eq_true rfl⟩ dX12_init_60 ?_
  refine g_n (n1 := 257) rfl ?_
  refine gs_11_15 (i := 249) C (by decide) pi_249.2 rfl hm tw_1068 dX12_init_62 ?_
  refine g_aload_n C 0 dX12_init_65 rfl rfl ?_
  refine g_bipush (v := 64) C dX12_init_66 (by decide) ?_
  refine g_newa22 C pa_257.2 tw_143 (by decide) ⟨Nat.le_of_ble_eq_true rfl, Nat.le_of_ble_eq_true rfl⟩ dX12_init_68 ?_
  refine g_n (n1 := 258) rfl ?_
  refine gs_11_17 (i := 249) C (by decide) pi_249.2 rfl hm tw_1070 dX12_init_70 ?_
  refine g_aload_n C 0 dX12_init_73 rfl rfl ?_
  refine g_bipush (v := 11) C dX12_init_74 (by decide) ?_
  refine g_newa22 C pa_258.2 tw_143 (by decide) ⟨Nat.le_of_ble_eq_true rfl, Nat.le_of_ble_eq_true rfl⟩ dX12_init_76 ?_
  refine g_n (n1 := 259) rfl ?_
  refine gs_11_19 (i := 249) C (by decide) pi_249.2 rfl hm tw_1072 dX12_init_78 ?_
  refine g_aload_n C 0 dX12_init_81 rfl rfl ?_
  refine g_sipush (v := 179) C dX12_init_82 (by decide) ?_
  refine g_newa21 C pa_259.2 tw_109 (by decide) ⟨Nat.le_of_ble_eq_true rfl, Nat.le_of_ble_eq_true rfl⟩ dX12_init_85 ?_
  refine g_n (n1 := 260) rfl ?_
  refine gs_11_20 (i := 249) C (by decide) pi_249.2 rfl hm tw_1073 dX12_init_87 ?_
  refine g_aload_n C 0 dX12_init_90 rfl rfl ?_
  refine g_iconst (v := -1) C dX12_init_91 (by decide) ?_
  refine gi_11_21 C (by decide) pi_249.2 tw_1074 dX12_init_92 ?_
  refine g_aload_n C 0 dX12_init_95 rfl rfl ?_
  refine g_bipush (v := 36) C dX12_init_96 (by decide) ?_
  refine g_newa21 C pa_260.2 tw_109 (by decide) ⟨Nat.le_of_ble_eq_true rfl, Nat.le_of_ble_eq_true rfl⟩ dX12_init_98 ?_
  refine g_n (n1 := 261) rfl ?_
  refine gs_11_23 (i := 249) C (by decide) pi_249.2 rfl hm tw_1076 dX12_init_100 ?_
  refine g_aload_n C 0 dX12_init_103 rfl rfl ?_
  refine g_bipush (v := 36) C dX12_init_104 (by decide) ?_
  refine g_newa21 C pa_261.2 tw_109 (by decide) ⟨Nat.le_of_ble_eq_true rfl, Nat.le_of_ble_eq_true rfl⟩ dX12_init_106 ?_
  refine g_n (n1 := 262) rfl ?_
  refine gs_11_24 (i := 249) C (by decide) pi_249.2 rfl hm tw_1077 dX12_init_108 ?_
  refine g_aload_n C 0 dX12_init_111 rfl rfl ?_
  refine g_sipush (v := 1980) C dX12_init_112 (by decide) ?_
  refine g_newa21 C pa_262.2 tw_109 (by decide) ⟨Nat.le_of_ble_eq_true rfl, Nat.le_of_ble_eq_true rfl⟩ dX12_init_115 ?_
  refine g_n (n1 := 263) rfl ?_
  refine gs_11_25 (i := 249) C (by decide) pi_249.2 rfl hm tw_1078 dX12_init_117 ?_
  refine g_aload_n C 0 dX12_init_120 rfl rfl ?_
  refine g_bipush (v := 99) C dX12_init_121 (by decide) ?_
  refine g_newa21 C pa_263.2 tw_109 (by decide) ⟨Nat.le_of_ble_eq_true rfl, Nat.le_of_ble_eq_true rfl⟩ dX12_init_123 ?_
  refine g_n (n1 := 264) rfl ?_
  refine gs_11_27 (i := 249) C (by decide) pi_249.2 rfl hm tw_1080 dX12_init_125 ?_
  refine g_aload_n C 0 dX12_init_128 rfl rfl ?_
  refine g_iconst (v := 4) C dX12_init_129 (by decide) ?_
  refine g_newa21 C pa_264.2 tw_109 (by decide) ⟨Nat.le_of_ble_eq_true rfl, Nat.le_of_ble_eq_true rfl⟩ dX12_init_130 ?_
  refine g_n (n1 := 265) rfl ?_
  refine gs_11_28 (i := 249) C (by decide) pi_249.2 rfl hm tw_1081 dX12_init_132 ?_
  refine g_aload_n C 0 dX12_init_135 rfl rfl ?_
  refine g_iconst (v := 4) C dX12_init_136 (by decide) ?_
  refine g_newa23 C pa_265.2 tw_142 (by decide) ⟨Nat.le_of_ble_eq_true rfl, Nat.le_of_ble_eq_true rfl⟩ dX12_init_137 ?_
  refine g_n (n1 := 266) rfl ?_
  refine gs_11_29 (i := 249) C (by decide) pi_249.2 rfl hm tw_1082 dX12_init_139 ?_
  refine g_aload_n C 0 dX12_init_142 rfl rfl ?_
  refine g_iconst (v := 5) C dX12_init_143 (by decide) ?_
  refine g_newa21 C pa_266.2 tw_109 (by decide) ⟨Nat.le_of_ble_eq_true rfl, Nat.le_of_ble_eq_true rfl⟩ dX12_init_144 ?_
  refine g_n (n1 := 267) rfl ?_
  refine gs_11_30 (i := 249) C (by decide) pi_249.2 rfl hm tw_1083 dX12_init_146 ?_
  refine g_aload_n C 0 dX12_init_149 rfl rfl ?_
  refine g_iconst (v := 5) C dX12_init_150 (by decide) ?_
  refine g_newa21 C pa_267.2 tw_109 (by decide) ⟨Nat.le_of_ble_eq_true rfl, Nat.le_of_ble_eq_true rfl⟩ dX12_init_151 ?_
  refine g_n (n1 := 268) rfl ?_
  refine gs_11_31 (i := 249) C (by decide) pi_249.2 rfl hm tw_1084 dX12_init_153 ?_
  refine g_aload_n C 0 dX12_init_156 rfl rfl ?_
  refine g_iconst (v := 5) C dX12_init_157 (by decide) ?_
  refine g_newa21 C pa_268.2 tw_109 (by decide) ⟨Nat.le_of_ble_eq_true rfl, Nat.le_of_ble_eq_true rfl⟩ dX12_init_158 ?_
  refine g_n (n1 := 269) rfl ?_
  refine gs_11_32 (i := 249) C (by decide) pi_249.2 rfl hm tw_1085 dX12_init_160 ?_
  refine g_aload_n C 0 dX12_init_163 rfl rfl ?_
  refine g_iconst (v := 5) C dX12_init_164 (by decide) ?_
  refine g_newa21 C pa_269.2 tw_109 (by decide) ⟨Nat.le_of_ble_eq_true rfl, Nat.le_of_ble_eq_true rfl⟩ dX12_init_165 ?_
  refine g_n (n1 := 270) rfl ?_
  refine gs_11_33 (i := 249) C (by decide) pi_249.2 rfl hm tw_1086 dX12_init_167 ?_
  refine g_aload_n C 0 dX12_init_170 rfl rfl ?_
  refine g_bipush (v := 66) C dX12_init_171 (by decide) ?_
  refine g_newa21 C pa_270.2 tw_109 (by decide) ⟨Nat.le_of_ble_eq_true rfl, Nat.le_of_ble_eq_true rfl⟩ dX12_init_173 ?_
  refine g_n (n1 := 271) rfl ?_
  refine gs_11_35 (i := 249) C (by decide) pi_249.2 rfl hm tw_1088 dX12_init_175 ?_
  refine g_aload_n C 0 dX12_init_178 rfl rfl ?_
  refine g_bipush (v := 7) C dX12_init_179 (by decide) ?_
  refine g_newa23 C pa_271.2 tw_142 (by decide) ⟨Nat.le_of_ble_eq_true rfl, Nat.le_of_ble_eq_true rfl⟩ dX12_init_181 ?_
  refine g_n (n1 := 272) rfl ?_
  refine gs_11_36 (i := 249) C (by decide) pi_249.2 rfl hm tw_1089 dX12_init_183 ?_
  refine g_aload_n C 0 dX12_init_186 rfl rfl ?_
  refine g_sipush (v := 427) C dX12_init_187 (by decide) ?_
  refine g_newa21 C pa_272.2 tw_109 (by decide) ⟨Nat.le_of_ble_eq_true rfl, Nat.le_of_ble_eq_true rfl⟩ dX12_init_190 ?_
  refine g_n (n1 := 273) rfl ?_
  refine gs_11_37 (i := 249) C (by decide) pi_249.2 rfl hm tw_1090 dX12_init_192 ?_
  refine g_aload_n C 0 dX12_init_195 rfl rfl ?_
  refine g_sipush (v := 716) C dX12_init_196 (by decide) ?_
  refine g_newa21 C pa_273.2 tw_109 (by decide) ⟨Nat.le_of_ble_eq_true rfl, Nat.le_of_ble_eq_true rfl⟩ dX12_init_199 ?_
  refine g_n (n1 := 274) rfl ?_
  refine gs_11_39 (i := 249) C (by decide) pi_249.2 rfl hm tw_1092 dX12_init_201 ?_
  refine g_aload_n C 0 dX12_init_204 rfl rfl ?_
  refine g_iconst (v := 4) C dX12_init_205 (by decide) ?_
  refine g_newa21 C pa_274.2 tw_109 (by decide) ⟨Nat.le_of_ble_eq_true rfl, Nat.le_of_ble_eq_true rfl⟩ dX12_init_206 ?_
  refine g_n (n1 := 275) rfl ?_
  refine gs_11_40 (i := 249) C (by decide) pi_249.2 rfl hm tw_1093 dX12_init_208 ?_
  refine g_aload_n C 0 dX12_init_211 rfl rfl ?_
  refine g_iconst (v := 4) C dX12_init_212 (by decide) ?_
  refine g_newa21 C pa_275.2 tw_109 (by decide) ⟨Nat.le_of_ble_eq_true rfl, Nat.le_of_ble_eq_true rfl⟩ dX12_init_213 ?_
  refine g_n (n1 := 276) rfl ?_
  refine gs_11_41 (i := 249) C (by decide) pi_249.2 rfl hm tw_1094 dX12_init_215 ?_
  refine g_aload_n C 0 dX12_init_218 rfl rfl ?_
  refine g_iconst (v := 4) C dX12_init_219 (by decide) ?_
  refine g_newa23 C pa_276.2 tw_142 (by decide) ⟨Nat.le_of_ble_eq_true rfl, Nat.le_of_ble_eq_true rfl⟩ dX12_init_220 ?_
  refine g_n (n1 := 277) rfl ?_
  refine gs_11_42 (i := 249) C (by decide) pi_249.2 rfl hm tw_1095 dX12_init_222 ?_
  exact g_vret C hr hlk dX12_init_225 rfl
