abbrev gfl : List Cond := flatC (Jvm.Cond.and given_1 narrow_1)
theorem gf_sa0 : Cond.arrayOf (Term.static "AskedCamp" "UPWARDS" "[I") .int ∈ gfl := by decide +kernel
theorem gf_sl0 : Cond.eq (.length (Term.static "AskedCamp" "UPWARDS" "[I")) (.int (Int32.ofNat 4)) ∈ gfl := by decide +kernel
theorem gf_se0 : ∀ j, j < 4 → Cond.eq (.elem (Term.static "AskedCamp" "UPWARDS" "[I") (.int (Int32.ofNat j))) (.int (pTb0.getD j 0)) ∈ gfl := by decide +kernel
theorem gf_sa1 : Cond.arrayOf (Term.static "AskedCamp" "UPWARDS_OR_STAY" "[I") .int ∈ gfl := by decide +kernel
theorem gf_sl1 : Cond.eq (.length (Term.static "AskedCamp" "UPWARDS_OR_STAY" "[I")) (.int (Int32.ofNat 5)) ∈ gfl := by decide +kernel
theorem gf_se1 : ∀ j, j < 5 → Cond.eq (.elem (Term.static "AskedCamp" "UPWARDS_OR_STAY" "[I") (.int (Int32.ofNat j))) (.int (pTb1.getD j 0)) ∈ gfl := by decide +kernel
theorem gf_sa2 : Cond.arrayOf (Term.static "AskedCamp$World" "FIRST_COLUMN" "[J") .long ∈ gfl := by decide +kernel
theorem gf_sl2 : Cond.eq (.length (Term.static "AskedCamp$World" "FIRST_COLUMN" "[J")) (.int (Int32.ofNat 7)) ∈ gfl := by decide +kernel
theorem gf_se2 : ∀ j, j < 7 → Cond.eq (.elem (Term.static "AskedCamp$World" "FIRST_COLUMN" "[J") (.int (Int32.ofNat j))) (.long (pTb2.getD j 0)) ∈ gfl := by decide +kernel
theorem gf_sa3 : Cond.arrayOf (Term.static "AskedCamp$World" "ALL_CELLS" "[J") .long ∈ gfl := by decide +kernel
theorem gf_sl3 : Cond.eq (.length (Term.static "AskedCamp$World" "ALL_CELLS" "[J")) (.int (Int32.ofNat 7)) ∈ gfl := by decide +kernel
theorem gf_se3 : ∀ j, j < 7 → Cond.eq (.elem (Term.static "AskedCamp$World" "ALL_CELLS" "[J") (.int (Int32.ofNat j))) (.long (pTb3.getD j 0)) ∈ gfl := by decide +kernel
abbrev tmL : List Term := [Term.string "AskedCamp$CampReader" 36, Term.string "AskedCamp$CampReader" 42, Term.string "AskedCamp$CampReader" 44, Term.string "AskedCamp$RuleReader" 35, Term.string "AskedCamp$RuleReader" 51, Term.string "AskedCamp$RuleReader" 103, Term.string "AskedCamp$RuleReader" 114, Term.string "AskedCamp$RuleReader" 116, Term.string "AskedCamp$Op" 7, Term.string "AskedCamp$Op" 17, Term.string "AskedCamp$Op" 19, Term.string "AskedCamp$Op" 21, Term.string "AskedCamp$Op" 23, Term.string "AskedCamp$Op" 25, Term.string "AskedCamp$Op" 27, Term.string "AskedCamp$Op" 29, Term.string "AskedCamp$Op" 31, Term.string "AskedCamp$Op" 33, Term.string "AskedCamp$Op" 35]
abbrev tmS (i : Nat) : Term := tmL.getD i (.arg 0)
theorem gf_ex : ∀ i, i < 19 → Cond.exactly (tmS i) "java/lang/String" ∈ gfl := by decide +kernel
theorem gf_co : ∀ i, i < 19 → Cond.eq (.field (tmS i) "java/lang/String" "coder" "B") (.int 0) ∈ gfl := by decide +kernel
theorem gf_ar : ∀ i, i < 19 → Cond.arrayOf (.field (tmS i) "java/lang/String" "value" "[B") .byte ∈ gfl := by decide +kernel
theorem gf_le : ∀ i, i < 19 → Cond.eq (.length (.field (tmS i) "java/lang/String" "value" "[B")) (.int (Int32.ofNat (pLen.getD i 0))) ∈ gfl := by decide +kernel
theorem gf_el : ∀ i, i < 19 → ∀ j, j < pLen.getD i 0 → Cond.eq (.elem (.field (tmS i) "java/lang/String" "value" "[B") (.int (Int32.ofNat j))) (.int ((pByt.getD i []).getD j 0)) ∈ gfl := by decide +kernel
theorem gf_n_0_1 : Cond.not (Cond.eq (tmS 0) (tmS 1)) ∈ gfl := List.mem_of_getElem? (i := 84) rfl
theorem gf_n_0_2 : Cond.not (Cond.eq (tmS 0) (tmS 2)) ∈ gfl := List.mem_of_getElem? (i := 93) rfl
theorem gf_n_0_3 : Cond.not (Cond.eq (tmS 0) (tmS 3)) ∈ gfl := List.mem_of_getElem? (i := 101) rfl
theorem gf_n_0_4 : Cond.not (Cond.eq (tmS 0) (tmS 4)) ∈ gfl := List.mem_of_getElem? (i := 303) rfl
theorem gf_n_0_5 : Cond.not (Cond.eq (tmS 0) (tmS 5)) ∈ gfl := List.mem_of_getElem? (i := 325) rfl
theorem gf_n_0_6 : Cond.not (Cond.eq (tmS 0) (tmS 6)) ∈ gfl := List.mem_of_getElem? (i := 348) rfl
theorem gf_n_0_7 : Cond.not (Cond.eq (tmS 0) (tmS 7)) ∈ gfl := List.mem_of_getElem? (i := 371) rfl
theorem gf_n_0_8 : Cond.not (Cond.eq (tmS 0) (tmS 8)) ∈ gfl := List.mem_of_getElem? (i := 112) rfl
theorem gf_n_0_9 : Cond.not (Cond.eq (tmS 0) (tmS 9)) ∈ gfl := List.mem_of_getElem? (i := 123) rfl
theorem gf_n_0_10 : Cond.not (Cond.eq (tmS 0) (tmS 10)) ∈ gfl := List.mem_of_getElem? (i := 138) rfl
theorem gf_n_0_11 : Cond.not (Cond.eq (tmS 0) (tmS 11)) ∈ gfl := List.mem_of_getElem? (i := 153) rfl
theorem gf_n_0_12 : Cond.not (Cond.eq (tmS 0) (tmS 12)) ∈ gfl := List.mem_of_getElem? (i := 169) rfl
theorem gf_n_0_13 : Cond.not (Cond.eq (tmS 0) (tmS 13)) ∈ gfl := List.mem_of_getElem? (i := 185) rfl
theorem gf_n_0_14 : Cond.not (Cond.eq (tmS 0) (tmS 14)) ∈ gfl := List.mem_of_getElem? (i := 202) rfl
theorem gf_n_0_15 : Cond.not (Cond.eq (tmS 0) (tmS 15)) ∈ gfl := List.mem_of_getElem? (i := 222) rfl
theorem gf_n_0_16 : Cond.not (Cond.eq (tmS 0) (tmS 16)) ∈ gfl := List.mem_of_getElem? (i := 241) rfl
theorem gf_n_0_17 : Cond.not (Cond.eq (tmS 0) (tmS 17)) ∈ gfl := List.mem_of_getElem? (i := 262) rfl
theorem gf_n_0_18 : Cond.not (Cond.eq (tmS 0) (tmS 18)) ∈ gfl := List.mem_of_getElem? (i := 283) rfl
theorem gf_n_1_2 : Cond.not (Cond.eq (tmS 1) (tmS 2)) ∈ gfl := List.mem_of_getElem? (i := 94) rfl
theorem gf_n_1_3 : Cond.not (Cond.eq (tmS 1) (tmS 3)) ∈ gfl := List.mem_of_getElem? (i := 102) rfl
theorem gf_n_1_4 : Cond.not (Cond.eq (tmS 1) (tmS 4)) ∈ gfl := List.mem_of_getElem? (i := 304) rfl
theorem gf_n_1_5 : Cond.not (Cond.eq (tmS 1) (tmS 5)) ∈ gfl := List.mem_of_getElem? (i := 326) rfl
theorem gf_n_1_6 : Cond.not (Cond.eq (tmS 1) (tmS 6)) ∈ gfl := List.mem_of_getElem? (i := 349) rfl
theorem gf_n_1_7 : Cond.not (Cond.eq (tmS 1) (tmS 7)) ∈ gfl := List.mem_of_getElem? (i := 372) rfl
theorem gf_n_1_8 : Cond.not (Cond.eq (tmS 1) (tmS 8)) ∈ gfl := List.mem_of_getElem? (i := 113) rfl
theorem gf_n_1_9 : Cond.not (Cond.eq (tmS 1) (tmS 9)) ∈ gfl := List.mem_of_getElem? (i := 124) rfl
theorem gf_n_1_10 : Cond.not (Cond.eq (tmS 1) (tmS 10)) ∈ gfl := List.mem_of_getElem? (i := 139) rfl
theorem gf_n_1_11 : Cond.not (Cond.eq (tmS 1) (tmS 11)) ∈ gfl := List.mem_of_getElem? (i := 154) rfl
theorem gf_n_1_12 : Cond.not (Cond.eq (tmS 1) (tmS 12)) ∈ gfl := List.mem_of_getElem? (i := 170) rfl
theorem gf_n_1_13 : Cond.not (Cond.eq (tmS 1) (tmS 13)) ∈ gfl := List.mem_of_getElem? (i := 186) rfl
theorem gf_n_1_14 : Cond.not (Cond.eq (tmS 1) (tmS 14)) ∈ gfl := List.mem_of_getElem? (i := 203) rfl
theorem gf_n_1_15 : Cond.not (Cond.eq (tmS 1) (tmS 15)) ∈ gfl := List.mem_of_getElem? (i := 223) rfl
theorem gf_n_1_16 : Cond.not (Cond.eq (tmS 1) (tmS 16)) ∈ gfl := List.mem_of_getElem? (i := 242) rfl
theorem gf_n_1_17 : Cond.not (Cond.eq (tmS 1) (tmS 17)) ∈ gfl := List.mem_of_getElem? (i := 263) rfl
theorem gf_n_1_18 : Cond.not (Cond.eq (tmS 1) (tmS 18)) ∈ gfl := List.mem_of_getElem? (i := 284) rfl
theorem gf_n_2_3 : Cond.not (Cond.eq (tmS 2) (tmS 3)) ∈ gfl := List.mem_of_getElem? (i := 103) rfl
theorem gf_n_2_4 : Cond.not (Cond.eq (tmS 2) (tmS 4)) ∈ gfl := List.mem_of_getElem? (i := 305) rfl
theorem gf_n_2_5 : Cond.not (Cond.eq (tmS 2) (tmS 5)) ∈ gfl := List.mem_of_getElem? (i := 327) rfl
theorem gf_n_2_6 : Cond.not (Cond.eq (tmS 2) (tmS 6)) ∈ gfl := List.mem_of_getElem? (i := 350) rfl
theorem gf_n_2_7 : Cond.not (Cond.eq (tmS 2) (tmS 7)) ∈ gfl := List.mem_of_getElem? (i := 373) rfl
theorem gf_n_2_8 : Cond.not (Cond.eq (tmS 2) (tmS 8)) ∈ gfl := List.mem_of_getElem? (i := 114) rfl
theorem gf_n_2_9 : Cond.not (Cond.eq (tmS 2) (tmS 9)) ∈ gfl := List.mem_of_getElem? (i := 125) rfl
theorem gf_n_2_10 : Cond.not (Cond.eq (tmS 2) (tmS 10)) ∈ gfl := List.mem_of_getElem? (i := 140) rfl
theorem gf_n_2_11 : Cond.not (Cond.eq (tmS 2) (tmS 11)) ∈ gfl := List.mem_of_getElem? (i := 155) rfl
theorem gf_n_2_12 : Cond.not (Cond.eq (tmS 2) (tmS 12)) ∈ gfl := List.mem_of_getElem? (i := 171) rfl
theorem gf_n_2_13 : Cond.not (Cond.eq (tmS 2) (tmS 13)) ∈ gfl := List.mem_of_getElem? (i := 187) rfl
theorem gf_n_2_14 : Cond.not (Cond.eq (tmS 2) (tmS 14)) ∈ gfl := List.mem_of_getElem? (i := 204) rfl
theorem gf_n_2_15 : Cond.not (Cond.eq (tmS 2) (tmS 15)) ∈ gfl := List.mem_of_getElem? (i := 224) rfl
theorem gf_n_2_16 : Cond.not (Cond.eq (tmS 2) (tmS 16)) ∈ gfl := List.mem_of_getElem? (i := 243) rfl
theorem gf_n_2_17 : Cond.not (Cond.eq (tmS 2) (tmS 17)) ∈ gfl := List.mem_of_getElem? (i := 264) rfl
theorem gf_n_2_18 : Cond.not (Cond.eq (tmS 2) (tmS 18)) ∈ gfl := List.mem_of_getElem? (i := 285) rfl
theorem gf_n_3_4 : Cond.not (Cond.eq (tmS 3) (tmS 4)) ∈ gfl := List.mem_of_getElem? (i := 306) rfl
theorem gf_n_3_5 : Cond.not (Cond.eq (tmS 3) (tmS 5)) ∈ gfl := List.mem_of_getElem? (i := 328) rfl
theorem gf_n_3_6 : Cond.not (Cond.eq (tmS 3) (tmS 6)) ∈ gfl := List.mem_of_getElem? (i := 351) rfl
theorem gf_n_3_7 : Cond.not (Cond.eq (tmS 3) (tmS 7)) ∈ gfl := List.mem_of_getElem? (i := 374) rfl
theorem gf_n_3_8 : Cond.not (Cond.eq (tmS 3) (tmS 8)) ∈ gfl := List.mem_of_getElem? (i := 115) rfl
theorem gf_n_3_9 : Cond.not (Cond.eq (tmS 3) (tmS 9)) ∈ gfl := List.mem_of_getElem? (i := 126) rfl
theorem gf_n_3_10 : Cond.not (Cond.eq (tmS 3) (tmS 10)) ∈ gfl := List.mem_of_getElem? (i := 141) rfl
theorem gf_n_3_11 : Cond.not (Cond.eq (tmS 3) (tmS 11)) ∈ gfl := List.mem_of_getElem? (i := 156) rfl
theorem gf_n_3_12 : Cond.not (Cond.eq (tmS 3) (tmS 12)) ∈ gfl := List.mem_of_getElem? (i := 172) rfl
theorem gf_n_3_13 : Cond.not (Cond.eq (tmS 3) (tmS 13)) ∈ gfl := List.mem_of_getElem? (i := 188) rfl
theorem gf_n_3_14 : Cond.not (Cond.eq (tmS 3) (tmS 14)) ∈ gfl := List.mem_of_getElem? (i := 205) rfl
theorem gf_n_3_15 : Cond.not (Cond.eq (tmS 3) (tmS 15)) ∈ gfl := List.mem_of_getElem? (i := 225) rfl
theorem gf_n_3_16 : Cond.not (Cond.eq (tmS 3) (tmS 16)) ∈ gfl := List.mem_of_getElem? (i := 244) rfl
theorem gf_n_3_17 : Cond.not (Cond.eq (tmS 3) (tmS 17)) ∈ gfl := List.mem_of_getElem? (i := 265) rfl
theorem gf_n_3_18 : Cond.not (Cond.eq (tmS 3) (tmS 18)) ∈ gfl := List.mem_of_getElem? (i := 286) rfl
theorem gf_n_4_5 : Cond.not (Cond.eq (tmS 4) (tmS 5)) ∈ gfl := List.mem_of_getElem? (i := 340) rfl
theorem gf_n_4_6 : Cond.not (Cond.eq (tmS 4) (tmS 6)) ∈ gfl := List.mem_of_getElem? (i := 363) rfl
theorem gf_n_4_7 : Cond.not (Cond.eq (tmS 4) (tmS 7)) ∈ gfl := List.mem_of_getElem? (i := 386) rfl
theorem gf_n_5_6 : Cond.not (Cond.eq (tmS 5) (tmS 6)) ∈ gfl := List.mem_of_getElem? (i := 364) rfl
theorem gf_n_5_7 : Cond.not (Cond.eq (tmS 5) (tmS 7)) ∈ gfl := List.mem_of_getElem? (i := 387) rfl
theorem gf_n_6_7 : Cond.not (Cond.eq (tmS 6) (tmS 7)) ∈ gfl := List.mem_of_getElem? (i := 388) rfl
theorem gf_n_8_4 : Cond.not (Cond.eq (tmS 8) (tmS 4)) ∈ gfl := List.mem_of_getElem? (i := 307) rfl
theorem gf_n_8_5 : Cond.not (Cond.eq (tmS 8) (tmS 5)) ∈ gfl := List.mem_of_getElem? (i := 329) rfl
theorem gf_n_8_6 : Cond.not (Cond.eq (tmS 8) (tmS 6)) ∈ gfl := List.mem_of_getElem? (i := 352) rfl
theorem gf_n_8_7 : Cond.not (Cond.eq (tmS 8) (tmS 7)) ∈ gfl := List.mem_of_getElem? (i := 375) rfl
theorem gf_n_8_9 : Cond.not (Cond.eq (tmS 8) (tmS 9)) ∈ gfl := List.mem_of_getElem? (i := 127) rfl
theorem gf_n_8_10 : Cond.not (Cond.eq (tmS 8) (tmS 10)) ∈ gfl := List.mem_of_getElem? (i := 142) rfl
theorem gf_n_8_11 : Cond.not (Cond.eq (tmS 8) (tmS 11)) ∈ gfl := List.mem_of_getElem? (i := 157) rfl
theorem gf_n_8_12 : Cond.not (Cond.eq (tmS 8) (tmS 12)) ∈ gfl := List.mem_of_getElem? (i := 173) rfl
theorem gf_n_8_13 : Cond.not (Cond.eq (tmS 8) (tmS 13)) ∈ gfl := List.mem_of_getElem? (i := 189) rfl
theorem gf_n_8_14 : Cond.not (Cond.eq (tmS 8) (tmS 14)) ∈ gfl := List.mem_of_getElem? (i := 206) rfl
theorem gf_n_8_15 : Cond.not (Cond.eq (tmS 8) (tmS 15)) ∈ gfl := List.mem_of_getElem? (i := 226) rfl
theorem gf_n_8_16 : Cond.not (Cond.eq (tmS 8) (tmS 16)) ∈ gfl := List.mem_of_getElem? (i := 245) rfl
theorem gf_n_8_17 : Cond.not (Cond.eq (tmS 8) (tmS 17)) ∈ gfl := List.mem_of_getElem? (i := 266) rfl
theorem gf_n_8_18 : Cond.not (Cond.eq (tmS 8) (tmS 18)) ∈ gfl := List.mem_of_getElem? (i := 287) rfl
theorem gf_n_9_4 : Cond.not (Cond.eq (tmS 9) (tmS 4)) ∈ gfl := List.mem_of_getElem? (i := 308) rfl
theorem gf_n_9_5 : Cond.not (Cond.eq (tmS 9) (tmS 5)) ∈ gfl := List.mem_of_getElem? (i := 330) rfl
theorem gf_n_9_6 : Cond.not (Cond.eq (tmS 9) (tmS 6)) ∈ gfl := List.mem_of_getElem? (i := 353) rfl
theorem gf_n_9_7 : Cond.not (Cond.eq (tmS 9) (tmS 7)) ∈ gfl := List.mem_of_getElem? (i := 376) rfl
theorem gf_n_9_10 : Cond.not (Cond.eq (tmS 9) (tmS 10)) ∈ gfl := List.mem_of_getElem? (i := 143) rfl
theorem gf_n_9_11 : Cond.not (Cond.eq (tmS 9) (tmS 11)) ∈ gfl := List.mem_of_getElem? (i := 158) rfl
theorem gf_n_9_12 : Cond.not (Cond.eq (tmS 9) (tmS 12)) ∈ gfl := List.mem_of_getElem? (i := 174) rfl
theorem gf_n_9_13 : Cond.not (Cond.eq (tmS 9) (tmS 13)) ∈ gfl := List.mem_of_getElem? (i := 190) rfl
theorem gf_n_9_14 : Cond.not (Cond.eq (tmS 9) (tmS 14)) ∈ gfl := List.mem_of_getElem? (i := 207) rfl
theorem gf_n_9_15 : Cond.not (Cond.eq (tmS 9) (tmS 15)) ∈ gfl := List.mem_of_getElem? (i := 227) rfl
theorem gf_n_9_16 : Cond.not (Cond.eq (tmS 9) (tmS 16)) ∈ gfl := List.mem_of_getElem? (i := 246) rfl
theorem gf_n_9_17 : Cond.not (Cond.eq (tmS 9) (tmS 17)) ∈ gfl := List.mem_of_getElem? (i := 267) rfl
theorem gf_n_9_18 : Cond.not (Cond.eq (tmS 9) (tmS 18)) ∈ gfl := List.mem_of_getElem? (i := 288) rfl
theorem gf_n_10_4 : Cond.not (Cond.eq (tmS 10) (tmS 4)) ∈ gfl := List.mem_of_getElem? (i := 309) rfl
theorem gf_n_10_5 : Cond.not (Cond.eq (tmS 10) (tmS 5)) ∈ gfl := List.mem_of_getElem? (i := 331) rfl
theorem gf_n_10_6 : Cond.not (Cond.eq (tmS 10) (tmS 6)) ∈ gfl := List.mem_of_getElem? (i := 354) rfl
theorem gf_n_10_7 : Cond.not (Cond.eq (tmS 10) (tmS 7)) ∈ gfl := List.mem_of_getElem? (i := 377) rfl
theorem gf_n_10_11 : Cond.not (Cond.eq (tmS 10) (tmS 11)) ∈ gfl := List.mem_of_getElem? (i := 159) rfl
theorem gf_n_10_12 : Cond.not (Cond.eq (tmS 10) (tmS 12)) ∈ gfl := List.mem_of_getElem? (i := 175) rfl
theorem gf_n_10_13 : Cond.not (Cond.eq (tmS 10) (tmS 13)) ∈ gfl := List.mem_of_getElem? (i := 191) rfl
theorem gf_n_10_14 : Cond.not (Cond.eq (tmS 10) (tmS 14)) ∈ gfl := List.mem_of_getElem? (i := 208) rfl
theorem gf_n_10_15 : Cond.not (Cond.eq (tmS 10) (tmS 15)) ∈ gfl := List.mem_of_getElem? (i := 228) rfl
theorem gf_n_10_16 : Cond.not (Cond.eq (tmS 10) (tmS 16)) ∈ gfl := List.mem_of_getElem? (i := 247) rfl
theorem gf_n_10_17 : Cond.not (Cond.eq (tmS 10) (tmS 17)) ∈ gfl := List.mem_of_getElem? (i := 268) rfl
theorem gf_n_10_18 : Cond.not (Cond.eq (tmS 10) (tmS 18)) ∈ gfl := List.mem_of_getElem? (i := 289) rfl
theorem gf_n_11_4 : Cond.not (Cond.eq (tmS 11) (tmS 4)) ∈ gfl := List.mem_of_getElem? (i := 310) rfl
theorem gf_n_11_5 : Cond.not (Cond.eq (tmS 11) (tmS 5)) ∈ gfl := List.mem_of_getElem? (i := 332) rfl
theorem gf_n_11_6 : Cond.not (Cond.eq (tmS 11) (tmS 6)) ∈ gfl := List.mem_of_getElem? (i := 355) rfl
theorem gf_n_11_7 : Cond.not (Cond.eq (tmS 11) (tmS 7)) ∈ gfl := List.mem_of_getElem? (i := 378) rfl
theorem gf_n_11_12 : Cond.not (Cond.eq (tmS 11) (tmS 12)) ∈ gfl := List.mem_of_getElem? (i := 176) rfl
theorem gf_n_11_13 : Cond.not (Cond.eq (tmS 11) (tmS 13)) ∈ gfl := List.mem_of_getElem? (i := 192) rfl
theorem gf_n_11_14 : Cond.not (Cond.eq (tmS 11) (tmS 14)) ∈ gfl := List.mem_of_getElem? (i := 209) rfl
theorem gf_n_11_15 : Cond.not (Cond.eq (tmS 11) (tmS 15)) ∈ gfl := List.mem_of_getElem? (i := 229) rfl
theorem gf_n_11_16 : Cond.not (Cond.eq (tmS 11) (tmS 16)) ∈ gfl := List.mem_of_getElem? (i := 248) rfl
theorem gf_n_11_17 : Cond.not (Cond.eq (tmS 11) (tmS 17)) ∈ gfl := List.mem_of_getElem? (i := 269) rfl
theorem gf_n_11_18 : Cond.not (Cond.eq (tmS 11) (tmS 18)) ∈ gfl := List.mem_of_getElem? (i := 290) rfl
theorem gf_n_12_4 : Cond.not (Cond.eq (tmS 12) (tmS 4)) ∈ gfl := List.mem_of_getElem? (i := 311) rfl
theorem gf_n_12_5 : Cond.not (Cond.eq (tmS 12) (tmS 5)) ∈ gfl := List.mem_of_getElem? (i := 333) rfl
theorem gf_n_12_6 : Cond.not (Cond.eq (tmS 12) (tmS 6)) ∈ gfl := List.mem_of_getElem? (i := 356) rfl
theorem gf_n_12_7 : Cond.not (Cond.eq (tmS 12) (tmS 7)) ∈ gfl := List.mem_of_getElem? (i := 379) rfl
theorem gf_n_12_13 : Cond.not (Cond.eq (tmS 12) (tmS 13)) ∈ gfl := List.mem_of_getElem? (i := 193) rfl
theorem gf_n_12_14 : Cond.not (Cond.eq (tmS 12) (tmS 14)) ∈ gfl := List.mem_of_getElem? (i := 210) rfl
theorem gf_n_12_15 : Cond.not (Cond.eq (tmS 12) (tmS 15)) ∈ gfl := List.mem_of_getElem? (i := 230) rfl
theorem gf_n_12_16 : Cond.not (Cond.eq (tmS 12) (tmS 16)) ∈ gfl := List.mem_of_getElem? (i := 249) rfl
theorem gf_n_12_17 : Cond.not (Cond.eq (tmS 12) (tmS 17)) ∈ gfl := List.mem_of_getElem? (i := 270) rfl
theorem gf_n_12_18 : Cond.not (Cond.eq (tmS 12) (tmS 18)) ∈ gfl := List.mem_of_getElem? (i := 291) rfl
theorem gf_n_13_4 : Cond.not (Cond.eq (tmS 13) (tmS 4)) ∈ gfl := List.mem_of_getElem? (i := 312) rfl
theorem gf_n_13_5 : Cond.not (Cond.eq (tmS 13) (tmS 5)) ∈ gfl := List.mem_of_getElem? (i := 334) rfl
theorem gf_n_13_6 : Cond.not (Cond.eq (tmS 13) (tmS 6)) ∈ gfl := List.mem_of_getElem? (i := 357) rfl
theorem gf_n_13_7 : Cond.not (Cond.eq (tmS 13) (tmS 7)) ∈ gfl := List.mem_of_getElem? (i := 380) rfl
theorem gf_n_13_14 : Cond.not (Cond.eq (tmS 13) (tmS 14)) ∈ gfl := List.mem_of_getElem? (i := 211) rfl
theorem gf_n_13_15 : Cond.not (Cond.eq (tmS 13) (tmS 15)) ∈ gfl := List.mem_of_getElem? (i := 231) rfl
theorem gf_n_13_16 : Cond.not (Cond.eq (tmS 13) (tmS 16)) ∈ gfl := List.mem_of_getElem? (i := 250) rfl
theorem gf_n_13_17 : Cond.not (Cond.eq (tmS 13) (tmS 17)) ∈ gfl := List.mem_of_getElem? (i := 271) rfl
theorem gf_n_13_18 : Cond.not (Cond.eq (tmS 13) (tmS 18)) ∈ gfl := List.mem_of_getElem? (i := 292) rfl
theorem gf_n_14_4 : Cond.not (Cond.eq (tmS 14) (tmS 4)) ∈ gfl := List.mem_of_getElem? (i := 313) rfl
theorem gf_n_14_5 : Cond.not (Cond.eq (tmS 14) (tmS 5)) ∈ gfl := List.mem_of_getElem? (i := 335) rfl
theorem gf_n_14_6 : Cond.not (Cond.eq (tmS 14) (tmS 6)) ∈ gfl := List.mem_of_getElem? (i := 358) rfl
theorem gf_n_14_7 : Cond.not (Cond.eq (tmS 14) (tmS 7)) ∈ gfl := List.mem_of_getElem? (i := 381) rfl
theorem gf_n_14_15 : Cond.not (Cond.eq (tmS 14) (tmS 15)) ∈ gfl := List.mem_of_getElem? (i := 232) rfl
theorem gf_n_14_16 : Cond.not (Cond.eq (tmS 14) (tmS 16)) ∈ gfl := List.mem_of_getElem? (i := 251) rfl
theorem gf_n_14_17 : Cond.not (Cond.eq (tmS 14) (tmS 17)) ∈ gfl := List.mem_of_getElem? (i := 272) rfl
theorem gf_n_14_18 : Cond.not (Cond.eq (tmS 14) (tmS 18)) ∈ gfl := List.mem_of_getElem? (i := 293) rfl
theorem gf_n_15_4 : Cond.not (Cond.eq (tmS 15) (tmS 4)) ∈ gfl := List.mem_of_getElem? (i := 314) rfl
theorem gf_n_15_5 : Cond.not (Cond.eq (tmS 15) (tmS 5)) ∈ gfl := List.mem_of_getElem? (i := 336) rfl
theorem gf_n_15_6 : Cond.not (Cond.eq (tmS 15) (tmS 6)) ∈ gfl := List.mem_of_getElem? (i := 359) rfl
theorem gf_n_15_7 : Cond.not (Cond.eq (tmS 15) (tmS 7)) ∈ gfl := List.mem_of_getElem? (i := 382) rfl
theorem gf_n_15_16 : Cond.not (Cond.eq (tmS 15) (tmS 16)) ∈ gfl := List.mem_of_getElem? (i := 252) rfl
theorem gf_n_15_17 : Cond.not (Cond.eq (tmS 15) (tmS 17)) ∈ gfl := List.mem_of_getElem? (i := 273) rfl
theorem gf_n_15_18 : Cond.not (Cond.eq (tmS 15) (tmS 18)) ∈ gfl := List.mem_of_getElem? (i := 294) rfl
theorem gf_n_16_4 : Cond.not (Cond.eq (tmS 16) (tmS 4)) ∈ gfl := List.mem_of_getElem? (i := 315) rfl
theorem gf_n_16_5 : Cond.not (Cond.eq (tmS 16) (tmS 5)) ∈ gfl := List.mem_of_getElem? (i := 337) rfl
theorem gf_n_16_6 : Cond.not (Cond.eq (tmS 16) (tmS 6)) ∈ gfl := List.mem_of_getElem? (i := 360) rfl
theorem gf_n_16_7 : Cond.not (Cond.eq (tmS 16) (tmS 7)) ∈ gfl := List.mem_of_getElem? (i := 383) rfl
theorem gf_n_16_17 : Cond.not (Cond.eq (tmS 16) (tmS 17)) ∈ gfl := List.mem_of_getElem? (i := 274) rfl
theorem gf_n_16_18 : Cond.not (Cond.eq (tmS 16) (tmS 18)) ∈ gfl := List.mem_of_getElem? (i := 295) rfl
theorem gf_n_17_4 : Cond.not (Cond.eq (tmS 17) (tmS 4)) ∈ gfl := List.mem_of_getElem? (i := 316) rfl
theorem gf_n_17_5 : Cond.not (Cond.eq (tmS 17) (tmS 5)) ∈ gfl := List.mem_of_getElem? (i := 338) rfl
theorem gf_n_17_6 : Cond.not (Cond.eq (tmS 17) (tmS 6)) ∈ gfl := List.mem_of_getElem? (i := 361) rfl
theorem gf_n_17_7 : Cond.not (Cond.eq (tmS 17) (tmS 7)) ∈ gfl := List.mem_of_getElem? (i := 384) rfl
theorem gf_n_17_18 : Cond.not (Cond.eq (tmS 17) (tmS 18)) ∈ gfl := List.mem_of_getElem? (i := 296) rfl
theorem gf_n_18_4 : Cond.not (Cond.eq (tmS 18) (tmS 4)) ∈ gfl := List.mem_of_getElem? (i := 317) rfl
theorem gf_n_18_5 : Cond.not (Cond.eq (tmS 18) (tmS 5)) ∈ gfl := List.mem_of_getElem? (i := 339) rfl
theorem gf_n_18_6 : Cond.not (Cond.eq (tmS 18) (tmS 6)) ∈ gfl := List.mem_of_getElem? (i := 362) rfl
theorem gf_n_18_7 : Cond.not (Cond.eq (tmS 18) (tmS 7)) ∈ gfl := List.mem_of_getElem? (i := 385) rfl
theorem gf_ne_0 : ∀ j, j < 19 → 0 ≠ j → Cond.not (Cond.eq (tmS 0) (tmS j)) ∈ gfl ∨ Cond.not (Cond.eq (tmS j) (tmS 0)) ∈ gfl
  | 0, _, h => absurd rfl h
  | 1, _, _ => Or.inl gf_n_0_1
  | 2, _, _ => Or.inl gf_n_0_2
  | 3, _, _ => Or.inl gf_n_0_3
  | 4, _, _ => Or.inl gf_n_0_4
  | 5, _, _ => Or.inl gf_n_0_5
  | 6, _, _ => Or.inl gf_n_0_6
  | 7, _, _ => Or.inl gf_n_0_7
  | 8, _, _ => Or.inl gf_n_0_8
  | 9, _, _ => Or.inl gf_n_0_9
  | 10, _, _ => Or.inl gf_n_0_10
  | 11, _, _ => Or.inl gf_n_0_11
  | 12, _, _ => Or.inl gf_n_0_12
  | 13, _, _ => Or.inl gf_n_0_13
  | 14, _, _ => Or.inl gf_n_0_14
  | 15, _, _ => Or.inl gf_n_0_15
  | 16, _, _ => Or.inl gf_n_0_16
  | 17, _, _ => Or.inl gf_n_0_17
  | 18, _, _ => Or.inl gf_n_0_18
  | j + 19, h, _ => absurd h (by omega)
theorem gf_ne_1 : ∀ j, j < 19 → 1 ≠ j → Cond.not (Cond.eq (tmS 1) (tmS j)) ∈ gfl ∨ Cond.not (Cond.eq (tmS j) (tmS 1)) ∈ gfl
  | 0, _, _ => Or.inr gf_n_0_1
  | 1, _, h => absurd rfl h
  | 2, _, _ => Or.inl gf_n_1_2
  | 3, _, _ => Or.inl gf_n_1_3
  | 4, _, _ => Or.inl gf_n_1_4
  | 5, _, _ => Or.inl gf_n_1_5
  | 6, _, _ => Or.inl gf_n_1_6
  | 7, _, _ => Or.inl gf_n_1_7
  | 8, _, _ => Or.inl gf_n_1_8
  | 9, _, _ => Or.inl gf_n_1_9
  | 10, _, _ => Or.inl gf_n_1_10
  | 11, _, _ => Or.inl gf_n_1_11
  | 12, _, _ => Or.inl gf_n_1_12
  | 13, _, _ => Or.inl gf_n_1_13
  | 14, _, _ => Or.inl gf_n_1_14
  | 15, _, _ => Or.inl gf_n_1_15
  | 16, _, _ => Or.inl gf_n_1_16
  | 17, _, _ => Or.inl gf_n_1_17
  | 18, _, _ => Or.inl gf_n_1_18
  | j + 19, h, _ => absurd h (by omega)
theorem gf_ne_2 : ∀ j, j < 19 → 2 ≠ j → Cond.not (Cond.eq (tmS 2) (tmS j)) ∈ gfl ∨ Cond.not (Cond.eq (tmS j) (tmS 2)) ∈ gfl
  | 0, _, _ => Or.inr gf_n_0_2
  | 1, _, _ => Or.inr gf_n_1_2
  | 2, _, h => absurd rfl h
  | 3, _, _ => Or.inl gf_n_2_3
  | 4, _, _ => Or.inl gf_n_2_4
  | 5, _, _ => Or.inl gf_n_2_5
  | 6, _, _ => Or.inl gf_n_2_6
  | 7, _, _ => Or.inl gf_n_2_7
  | 8, _, _ => Or.inl gf_n_2_8
  | 9, _, _ => Or.inl gf_n_2_9
  | 10, _, _ => Or.inl gf_n_2_10
  | 11, _, _ => Or.inl gf_n_2_11
  | 12, _, _ => Or.inl gf_n_2_12
  | 13, _, _ => Or.inl gf_n_2_13
  | 14, _, _ => Or.inl gf_n_2_14
  | 15, _, _ => Or.inl gf_n_2_15
  | 16, _, _ => Or.inl gf_n_2_16
  | 17, _, _ => Or.inl gf_n_2_17
  | 18, _, _ => Or.inl gf_n_2_18
  | j + 19, h, _ => absurd h (by omega)
theorem gf_ne_3 : ∀ j, j < 19 → 3 ≠ j → Cond.not (Cond.eq (tmS 3) (tmS j)) ∈ gfl ∨ Cond.not (Cond.eq (tmS j) (tmS 3)) ∈ gfl
  | 0, _, _ => Or.inr gf_n_0_3
  | 1, _, _ => Or.inr gf_n_1_3
  | 2, _, _ => Or.inr gf_n_2_3
  | 3, _, h => absurd rfl h
  | 4, _, _ => Or.inl gf_n_3_4
  | 5, _, _ => Or.inl gf_n_3_5
  | 6, _, _ => Or.inl gf_n_3_6
  | 7, _, _ => Or.inl gf_n_3_7
  | 8, _, _ => Or.inl gf_n_3_8
  | 9, _, _ => Or.inl gf_n_3_9
  | 10, _, _ => Or.inl gf_n_3_10
  | 11, _, _ => Or.inl gf_n_3_11
  | 12, _, _ => Or.inl gf_n_3_12
  | 13, _, _ => Or.inl gf_n_3_13
  | 14, _, _ => Or.inl gf_n_3_14
  | 15, _, _ => Or.inl gf_n_3_15
  | 16, _, _ => Or.inl gf_n_3_16
  | 17, _, _ => Or.inl gf_n_3_17
  | 18, _, _ => Or.inl gf_n_3_18
  | j + 19, h, _ => absurd h (by omega)
theorem gf_ne_4 : ∀ j, j < 19 → 4 ≠ j → Cond.not (Cond.eq (tmS 4) (tmS j)) ∈ gfl ∨ Cond.not (Cond.eq (tmS j) (tmS 4)) ∈ gfl
  | 0, _, _ => Or.inr gf_n_0_4
  | 1, _, _ => Or.inr gf_n_1_4
  | 2, _, _ => Or.inr gf_n_2_4
  | 3, _, _ => Or.inr gf_n_3_4
  | 4, _, h => absurd rfl h
  | 5, _, _ => Or.inl gf_n_4_5
  | 6, _, _ => Or.inl gf_n_4_6
  | 7, _, _ => Or.inl gf_n_4_7
  | 8, _, _ => Or.inr gf_n_8_4
  | 9, _, _ => Or.inr gf_n_9_4
  | 10, _, _ => Or.inr gf_n_10_4
  | 11, _, _ => Or.inr gf_n_11_4
  | 12, _, _ => Or.inr gf_n_12_4
  | 13, _, _ => Or.inr gf_n_13_4
  | 14, _, _ => Or.inr gf_n_14_4
  | 15, _, _ => Or.inr gf_n_15_4
  | 16, _, _ => Or.inr gf_n_16_4
  | 17, _, _ => Or.inr gf_n_17_4
  | 18, _, _ => Or.inr gf_n_18_4
  | j + 19, h, _ => absurd h (by omega)
theorem gf_ne_5 : ∀ j, j < 19 → 5 ≠ j → Cond.not (Cond.eq (tmS 5) (tmS j)) ∈ gfl ∨ Cond.not (Cond.eq (tmS j) (tmS 5)) ∈ gfl
  | 0, _, _ => Or.inr gf_n_0_5
  | 1, _, _ => Or.inr gf_n_1_5
  | 2, _, _ => Or.inr gf_n_2_5
  | 3, _, _ => Or.inr gf_n_3_5
  | 4, _, _ => Or.inr gf_n_4_5
  | 5, _, h => absurd rfl h
  | 6, _, _ => Or.inl gf_n_5_6
  | 7, _, _ => Or.inl gf_n_5_7
  | 8, _, _ => Or.inr gf_n_8_5
  | 9, _, _ => Or.inr gf_n_9_5
  | 10, _, _ => Or.inr gf_n_10_5
  | 11, _, _ => Or.inr gf_n_11_5
  | 12, _, _ => Or.inr gf_n_12_5
  | 13, _, _ => Or.inr gf_n_13_5
  | 14, _, _ => Or.inr gf_n_14_5
  | 15, _, _ => Or.inr gf_n_15_5
  | 16, _, _ => Or.inr gf_n_16_5
  | 17, _, _ => Or.inr gf_n_17_5
  | 18, _, _ => Or.inr gf_n_18_5
  | j + 19, h, _ => absurd h (by omega)
theorem gf_ne_6 : ∀ j, j < 19 → 6 ≠ j → Cond.not (Cond.eq (tmS 6) (tmS j)) ∈ gfl ∨ Cond.not (Cond.eq (tmS j) (tmS 6)) ∈ gfl
  | 0, _, _ => Or.inr gf_n_0_6
  | 1, _, _ => Or.inr gf_n_1_6
  | 2, _, _ => Or.inr gf_n_2_6
  | 3, _, _ => Or.inr gf_n_3_6
  | 4, _, _ => Or.inr gf_n_4_6
  | 5, _, _ => Or.inr gf_n_5_6
  | 6, _, h => absurd rfl h
  | 7, _, _ => Or.inl gf_n_6_7
  | 8, _, _ => Or.inr gf_n_8_6
  | 9, _, _ => Or.inr gf_n_9_6
  | 10, _, _ => Or.inr gf_n_10_6
  | 11, _, _ => Or.inr gf_n_11_6
  | 12, _, _ => Or.inr gf_n_12_6
  | 13, _, _ => Or.inr gf_n_13_6
  | 14, _, _ => Or.inr gf_n_14_6
  | 15, _, _ => Or.inr gf_n_15_6
  | 16, _, _ => Or.inr gf_n_16_6
  | 17, _, _ => Or.inr gf_n_17_6
  | 18, _, _ => Or.inr gf_n_18_6
  | j + 19, h, _ => absurd h (by omega)
theorem gf_ne_7 : ∀ j, j < 19 → 7 ≠ j → Cond.not (Cond.eq (tmS 7) (tmS j)) ∈ gfl ∨ Cond.not (Cond.eq (tmS j) (tmS 7)) ∈ gfl
  | 0, _, _ => Or.inr gf_n_0_7
  | 1, _, _ => Or.inr gf_n_1_7
  | 2, _, _ => Or.inr gf_n_2_7
  | 3, _, _ => Or.inr gf_n_3_7
  | 4, _, _ => Or.inr gf_n_4_7
  | 5, _, _ => Or.inr gf_n_5_7
  | 6, _, _ => Or.inr gf_n_6_7
  | 7, _, h => absurd rfl h
  | 8, _, _ => Or.inr gf_n_8_7
  | 9, _, _ => Or.inr gf_n_9_7
  | 10, _, _ => Or.inr gf_n_10_7
  | 11, _, _ => Or.inr gf_n_11_7
  | 12, _, _ => Or.inr gf_n_12_7
  | 13, _, _ => Or.inr gf_n_13_7
  | 14, _, _ => Or.inr gf_n_14_7
  | 15, _, _ => Or.inr gf_n_15_7
  | 16, _, _ => Or.inr gf_n_16_7
  | 17, _, _ => Or.inr gf_n_17_7
  | 18, _, _ => Or.inr gf_n_18_7
  | j + 19, h, _ => absurd h (by omega)
theorem gf_ne_8 : ∀ j, j < 19 → 8 ≠ j → Cond.not (Cond.eq (tmS 8) (tmS j)) ∈ gfl ∨ Cond.not (Cond.eq (tmS j) (tmS 8)) ∈ gfl
  | 0, _, _ => Or.inr gf_n_0_8
  | 1, _, _ => Or.inr gf_n_1_8
  | 2, _, _ => Or.inr gf_n_2_8
  | 3, _, _ => Or.inr gf_n_3_8
  | 4, _, _ => Or.inl gf_n_8_4
  | 5, _, _ => Or.inl gf_n_8_5
  | 6, _, _ => Or.inl gf_n_8_6
  | 7, _, _ => Or.inl gf_n_8_7
  | 8, _, h => absurd rfl h
  | 9, _, _ => Or.inl gf_n_8_9
  | 10, _, _ => Or.inl gf_n_8_10
  | 11, _, _ => Or.inl gf_n_8_11
  | 12, _, _ => Or.inl gf_n_8_12
  | 13, _, _ => Or.inl gf_n_8_13
  | 14, _, _ => Or.inl gf_n_8_14
  | 15, _, _ => Or.inl gf_n_8_15
  | 16, _, _ => Or.inl gf_n_8_16
  | 17, _, _ => Or.inl gf_n_8_17
  | 18, _, _ => Or.inl gf_n_8_18
  | j + 19, h, _ => absurd h (by omega)
theorem gf_ne_9 : ∀ j, j < 19 → 9 ≠ j → Cond.not (Cond.eq (tmS 9) (tmS j)) ∈ gfl ∨ Cond.not (Cond.eq (tmS j) (tmS 9)) ∈ gfl
  | 0, _, _ => Or.inr gf_n_0_9
  | 1, _, _ => Or.inr gf_n_1_9
  | 2, _, _ => Or.inr gf_n_2_9
  | 3, _, _ => Or.inr gf_n_3_9
  | 4, _, _ => Or.inl gf_n_9_4
  | 5, _, _ => Or.inl gf_n_9_5
  | 6, _, _ => Or.inl gf_n_9_6
  | 7, _, _ => Or.inl gf_n_9_7
  | 8, _, _ => Or.inr gf_n_8_9
  | 9, _, h => absurd rfl h
  | 10, _, _ => Or.inl gf_n_9_10
  | 11, _, _ => Or.inl gf_n_9_11
  | 12, _, _ => Or.inl gf_n_9_12
  | 13, _, _ => Or.inl gf_n_9_13
  | 14, _, _ => Or.inl gf_n_9_14
  | 15, _, _ => Or.inl gf_n_9_15
  | 16, _, _ => Or.inl gf_n_9_16
  | 17, _, _ => Or.inl gf_n_9_17
  | 18, _, _ => Or.inl gf_n_9_18
  | j + 19, h, _ => absurd h (by omega)
theorem gf_ne_10 : ∀ j, j < 19 → 10 ≠ j → Cond.not (Cond.eq (tmS 10) (tmS j)) ∈ gfl ∨ Cond.not (Cond.eq (tmS j) (tmS 10)) ∈ gfl
  | 0, _, _ => Or.inr gf_n_0_10
  | 1, _, _ => Or.inr gf_n_1_10
  | 2, _, _ => Or.inr gf_n_2_10
  | 3, _, _ => Or.inr gf_n_3_10
  | 4, _, _ => Or.inl gf_n_10_4
  | 5, _, _ => Or.inl gf_n_10_5
  | 6, _, _ => Or.inl gf_n_10_6
  | 7, _, _ => Or.inl gf_n_10_7
  | 8, _, _ => Or.inr gf_n_8_10
  | 9, _, _ => Or.inr gf_n_9_10
  | 10, _, h => absurd rfl h
  | 11, _, _ => Or.inl gf_n_10_11
  | 12, _, _ => Or.inl gf_n_10_12
  | 13, _, _ => Or.inl gf_n_10_13
  | 14, _, _ => Or.inl gf_n_10_14
  | 15, _, _ => Or.inl gf_n_10_15
  | 16, _, _ => Or.inl gf_n_10_16
  | 17, _, _ => Or.inl gf_n_10_17
  | 18, _, _ => Or.inl gf_n_10_18
  | j + 19, h, _ => absurd h (by omega)
theorem gf_ne_11 : ∀ j, j < 19 → 11 ≠ j → Cond.not (Cond.eq (tmS 11) (tmS j)) ∈ gfl ∨ Cond.not (Cond.eq (tmS j) (tmS 11)) ∈ gfl
  | 0, _, _ => Or.inr gf_n_0_11
  | 1, _, _ => Or.inr gf_n_1_11
  | 2, _, _ => Or.inr gf_n_2_11
  | 3, _, _ => Or.inr gf_n_3_11
  | 4, _, _ => Or.inl gf_n_11_4
  | 5, _, _ => Or.inl gf_n_11_5
  | 6, _, _ => Or.inl gf_n_11_6
  | 7, _, _ => Or.inl gf_n_11_7
  | 8, _, _ => Or.inr gf_n_8_11
  | 9, _, _ => Or.inr gf_n_9_11
  | 10, _, _ => Or.inr gf_n_10_11
  | 11, _, h => absurd rfl h
  | 12, _, _ => Or.inl gf_n_11_12
  | 13, _, _ => Or.inl gf_n_11_13
  | 14, _, _ => Or.inl gf_n_11_14
  | 15, _, _ => Or.inl gf_n_11_15
  | 16, _, _ => Or.inl gf_n_11_16
  | 17, _, _ => Or.inl gf_n_11_17
  | 18, _, _ => Or.inl gf_n_11_18
  | j + 19, h, _ => absurd h (by omega)
theorem gf_ne_12 : ∀ j, j < 19 → 12 ≠ j → Cond.not (Cond.eq (tmS 12) (tmS j)) ∈ gfl ∨ Cond.not (Cond.eq (tmS j) (tmS 12)) ∈ gfl
  | 0, _, _ => Or.inr gf_n_0_12
  | 1, _, _ => Or.inr gf_n_1_12
  | 2, _, _ => Or.inr gf_n_2_12
  | 3, _, _ => Or.inr gf_n_3_12
  | 4, _, _ => Or.inl gf_n_12_4
  | 5, _, _ => Or.inl gf_n_12_5
  | 6, _, _ => Or.inl gf_n_12_6
  | 7, _, _ => Or.inl gf_n_12_7
  | 8, _, _ => Or.inr gf_n_8_12
  | 9, _, _ => Or.inr gf_n_9_12
  | 10, _, _ => Or.inr gf_n_10_12
  | 11, _, _ => Or.inr gf_n_11_12
  | 12, _, h => absurd rfl h
  | 13, _, _ => Or.inl gf_n_12_13
  | 14, _, _ => Or.inl gf_n_12_14
  | 15, _, _ => Or.inl gf_n_12_15
  | 16, _, _ => Or.inl gf_n_12_16
  | 17, _, _ => Or.inl gf_n_12_17
  | 18, _, _ => Or.inl gf_n_12_18
  | j + 19, h, _ => absurd h (by omega)
theorem gf_ne_13 : ∀ j, j < 19 → 13 ≠ j → Cond.not (Cond.eq (tmS 13) (tmS j)) ∈ gfl ∨ Cond.not (Cond.eq (tmS j) (tmS 13)) ∈ gfl
  | 0, _, _ => Or.inr gf_n_0_13
  | 1, _, _ => Or.inr gf_n_1_13
  | 2, _, _ => Or.inr gf_n_2_13
  | 3, _, _ => Or.inr gf_n_3_13
  | 4, _, _ => Or.inl gf_n_13_4
  | 5, _, _ => Or.inl gf_n_13_5
  | 6, _, _ => Or.inl gf_n_13_6
  | 7, _, _ => Or.inl gf_n_13_7
  | 8, _, _ => Or.inr gf_n_8_13
  | 9, _, _ => Or.inr gf_n_9_13
  | 10, _, _ => Or.inr gf_n_10_13
  | 11, _, _ => Or.inr gf_n_11_13
  | 12, _, _ => Or.inr gf_n_12_13
  | 13, _, h => absurd rfl h
  | 14, _, _ => Or.inl gf_n_13_14
  | 15, _, _ => Or.inl gf_n_13_15
  | 16, _, _ => Or.inl gf_n_13_16
  | 17, _, _ => Or.inl gf_n_13_17
  | 18, _, _ => Or.inl gf_n_13_18
  | j + 19, h, _ => absurd h (by omega)
theorem gf_ne_14 : ∀ j, j < 19 → 14 ≠ j → Cond.not (Cond.eq (tmS 14) (tmS j)) ∈ gfl ∨ Cond.not (Cond.eq (tmS j) (tmS 14)) ∈ gfl
  | 0, _, _ => Or.inr gf_n_0_14
  | 1, _, _ => Or.inr gf_n_1_14
  | 2, _, _ => Or.inr gf_n_2_14
  | 3, _, _ => Or.inr gf_n_3_14
  | 4, _, _ => Or.inl gf_n_14_4
  | 5, _, _ => Or.inl gf_n_14_5
  | 6, _, _ => Or.inl gf_n_14_6
  | 7, _, _ => Or.inl gf_n_14_7
  | 8, _, _ => Or.inr gf_n_8_14
  | 9, _, _ => Or.inr gf_n_9_14
  | 10, _, _ => Or.inr gf_n_10_14
  | 11, _, _ => Or.inr gf_n_11_14
  | 12, _, _ => Or.inr gf_n_12_14
  | 13, _, _ => Or.inr gf_n_13_14
  | 14, _, h => absurd rfl h
  | 15, _, _ => Or.inl gf_n_14_15
  | 16, _, _ => Or.inl gf_n_14_16
  | 17, _, _ => Or.inl gf_n_14_17
  | 18, _, _ => Or.inl gf_n_14_18
  | j + 19, h, _ => absurd h (by omega)
theorem gf_ne_15 : ∀ j, j < 19 → 15 ≠ j → Cond.not (Cond.eq (tmS 15) (tmS j)) ∈ gfl ∨ Cond.not (Cond.eq (tmS j) (tmS 15)) ∈ gfl
  | 0, _, _ => Or.inr gf_n_0_15
  | 1, _, _ => Or.inr gf_n_1_15
  | 2, _, _ => Or.inr gf_n_2_15
  | 3, _, _ => Or.inr gf_n_3_15
  | 4, _, _ => Or.inl gf_n_15_4
  | 5, _, _ => Or.inl gf_n_15_5
  | 6, _, _ => Or.inl gf_n_15_6
  | 7, _, _ => Or.inl gf_n_15_7
  | 8, _, _ => Or.inr gf_n_8_15
  | 9, _, _ => Or.inr gf_n_9_15
  | 10, _, _ => Or.inr gf_n_10_15
  | 11, _, _ => Or.inr gf_n_11_15
  | 12, _, _ => Or.inr gf_n_12_15
  | 13, _, _ => Or.inr gf_n_13_15
  | 14, _, _ => Or.inr gf_n_14_15
  | 15, _, h => absurd rfl h
  | 16, _, _ => Or.inl gf_n_15_16
  | 17, _, _ => Or.inl gf_n_15_17
  | 18, _, _ => Or.inl gf_n_15_18
  | j + 19, h, _ => absurd h (by omega)
theorem gf_ne_16 : ∀ j, j < 19 → 16 ≠ j → Cond.not (Cond.eq (tmS 16) (tmS j)) ∈ gfl ∨ Cond.not (Cond.eq (tmS j) (tmS 16)) ∈ gfl
  | 0, _, _ => Or.inr gf_n_0_16
  | 1, _, _ => Or.inr gf_n_1_16
  | 2, _, _ => Or.inr gf_n_2_16
  | 3, _, _ => Or.inr gf_n_3_16
  | 4, _, _ => Or.inl gf_n_16_4
  | 5, _, _ => Or.inl gf_n_16_5
  | 6, _, _ => Or.inl gf_n_16_6
  | 7, _, _ => Or.inl gf_n_16_7
  | 8, _, _ => Or.inr gf_n_8_16
  | 9, _, _ => Or.inr gf_n_9_16
  | 10, _, _ => Or.inr gf_n_10_16
  | 11, _, _ => Or.inr gf_n_11_16
  | 12, _, _ => Or.inr gf_n_12_16
  | 13, _, _ => Or.inr gf_n_13_16
  | 14, _, _ => Or.inr gf_n_14_16
  | 15, _, _ => Or.inr gf_n_15_16
  | 16, _, h => absurd rfl h
  | 17, _, _ => Or.inl gf_n_16_17
  | 18, _, _ => Or.inl gf_n_16_18
  | j + 19, h, _ => absurd h (by omega)
theorem gf_ne_17 : ∀ j, j < 19 → 17 ≠ j → Cond.not (Cond.eq (tmS 17) (tmS j)) ∈ gfl ∨ Cond.not (Cond.eq (tmS j) (tmS 17)) ∈ gfl
  | 0, _, _ => Or.inr gf_n_0_17
  | 1, _, _ => Or.inr gf_n_1_17
  | 2, _, _ => Or.inr gf_n_2_17
  | 3, _, _ => Or.inr gf_n_3_17
  | 4, _, _ => Or.inl gf_n_17_4
  | 5, _, _ => Or.inl gf_n_17_5
  | 6, _, _ => Or.inl gf_n_17_6
  | 7, _, _ => Or.inl gf_n_17_7
  | 8, _, _ => Or.inr gf_n_8_17
  | 9, _, _ => Or.inr gf_n_9_17
  | 10, _, _ => Or.inr gf_n_10_17
  | 11, _, _ => Or.inr gf_n_11_17
  | 12, _, _ => Or.inr gf_n_12_17
  | 13, _, _ => Or.inr gf_n_13_17
  | 14, _, _ => Or.inr gf_n_14_17
  | 15, _, _ => Or.inr gf_n_15_17
  | 16, _, _ => Or.inr gf_n_16_17
  | 17, _, h => absurd rfl h
  | 18, _, _ => Or.inl gf_n_17_18
  | j + 19, h, _ => absurd h (by omega)
theorem gf_ne_18 : ∀ j, j < 19 → 18 ≠ j → Cond.not (Cond.eq (tmS 18) (tmS j)) ∈ gfl ∨ Cond.not (Cond.eq (tmS j) (tmS 18)) ∈ gfl
  | 0, _, _ => Or.inr gf_n_0_18
  | 1, _, _ => Or.inr gf_n_1_18
  | 2, _, _ => Or.inr gf_n_2_18
  | 3, _, _ => Or.inr gf_n_3_18
  | 4, _, _ => Or.inl gf_n_18_4
  | 5, _, _ => Or.inl gf_n_18_5
  | 6, _, _ => Or.inl gf_n_18_6
  | 7, _, _ => Or.inl gf_n_18_7
  | 8, _, _ => Or.inr gf_n_8_18
  | 9, _, _ => Or.inr gf_n_9_18
  | 10, _, _ => Or.inr gf_n_10_18
  | 11, _, _ => Or.inr gf_n_11_18
  | 12, _, _ => Or.inr gf_n_12_18
  | 13, _, _ => Or.inr gf_n_13_18
  | 14, _, _ => Or.inr gf_n_14_18
  | 15, _, _ => Or.inr gf_n_15_18
  | 16, _, _ => Or.inr gf_n_16_18
  | 17, _, _ => Or.inr gf_n_17_18
  | 18, _, h => absurd rfl h
  | j + 19, h, _ => absurd h (by omega)
theorem gf_ne : ∀ i, i < 19 → ∀ j, j < 19 → i ≠ j → Cond.not (Cond.eq (tmS i) (tmS j)) ∈ gfl ∨ Cond.not (Cond.eq (tmS j) (tmS i)) ∈ gfl
  | 0, _ => gf_ne_0
  | 1, _ => gf_ne_1
  | 2, _ => gf_ne_2
  | 3, _ => gf_ne_3
  | 4, _ => gf_ne_4
  | 5, _ => gf_ne_5
  | 6, _ => gf_ne_6
  | 7, _ => gf_ne_7
  | 8, _ => gf_ne_8
  | 9, _ => gf_ne_9
  | 10, _ => gf_ne_10
  | 11, _ => gf_ne_11
  | 12, _ => gf_ne_12
  | 13, _ => gf_ne_13
  | 14, _ => gf_ne_14
  | 15, _ => gf_ne_15
  | 16, _ => gf_ne_16
  | 17, _ => gf_ne_17
  | 18, _ => gf_ne_18
  | i + 19, h => absurd h (by omega)
theorem gf_cs : Cond.eq (.static "java/lang/String" "COMPACT_STRINGS" "Z") (.int 1) ∈ gfl := by decide +kernel
theorem gf_fm : Cond.isRef (.static "jdk/internal/util/Preconditions" "SIOOBE_FORMATTER" "Ljava/util/function/BiFunction;") ∈ gfl := by decide +kernel
set_option maxHeartbeats 4000000 in
theorem pZ_start {args : Array Value} {s : State} {ad : Nat → Nat} (hts : ∀ w ∈ lw_tbl, w.before args s = true) (hgv : (Jvm.Cond.and given_1 narrow_1).before args s = true) (hA : ∀ a : Nat, a < s.heap.size → ¬ pAD ad a) : ∃ kz : Nat → Nat, pZ ad kz s s.heap := by
  have hs := flat_of_before _ hgv
  obtain ⟨t0, e0, hT0⟩ := va_Tof (f := fun j => .int (pTb0.getD j 0)) (A := pAD ad) (N := 4) (by decide) (hs _ gf_sa0) (va_eqt (hs _ gf_sl0)) (fun j hj => va_eqt (hs _ (gf_se0 j hj))) hA
  obtain ⟨t1, e1, hT1⟩ := va_Tof (f := fun j => .int (pTb1.getD j 0)) (A := pAD ad) (N := 5) (by decide) (hs _ gf_sa1) (va_eqt (hs _ gf_sl1)) (fun j hj => va_eqt (hs _ (gf_se1 j hj))) hA
  obtain ⟨t2, e2, hT2⟩ := va_Tof (f := fun j => .long (pTb2.getD j 0)) (A := pAD ad) (N := 7) (by decide) (hs _ gf_sa2) (va_eqt (hs _ gf_sl2)) (fun j hj => va_eqtl (hs _ (gf_se2 j hj))) hA
  obtain ⟨t3, e3, hT3⟩ := va_Tof (f := fun j => .long (pTb3.getD j 0)) (A := pAD ad) (N := 7) (by decide) (hs _ gf_sa3) (va_eqt (hs _ gf_sl3)) (fun j hj => va_eqtl (hs _ (gf_se3 j hj))) hA
  obtain ⟨adK, adV, hVS, hev⟩ := vk_Sof (tm := tmS) (N := 19) (len := pLen) (byt := pByt) (A := pAD ad) (by decide) (fun i hi => hs _ (gf_ex i hi)) (fun i hi => hs _ (gf_co i hi)) (fun i hi => hs _ (gf_ar i hi)) (fun i hi => hs _ (gf_le i hi)) (fun i hi j hj => hs _ (gf_el i hi j hj)) (fun i j hi hj hij => (gf_ne i hi j hj hij).elim (fun h => Or.inl (hs _ h)) (fun h => Or.inr (hs _ h))) hA
  refine ⟨fun q => if q = 0 then t0 else if q = 1 then t1 else if q = 2 then t2 else if q = 3 then t3 else if q < 40 then adK (q - 10) else adV (q - 40), ?_⟩
  have kK : ∀ i, i < 19 → (if 10 + i = 0 then t0 else if 10 + i = 1 then t1 else if 10 + i = 2 then t2 else if 10 + i = 3 then t3 else if 10 + i < 40 then adK (10 + i - 10) else adV (10 + i - 40)) = adK i := fun i hi => by
    rw [if_neg (by omega), if_neg (by omega), if_neg (by omega), if_neg (by omega), if_pos (by omega), Nat.add_sub_cancel_left]
  have kV : ∀ i, i < 19 → (if 40 + i = 0 then t0 else if 40 + i = 1 then t1 else if 40 + i = 2 then t2 else if 40 + i = 3 then t3 else if 40 + i < 40 then adK (40 + i - 10) else adV (40 + i - 40)) = adV i := fun i hi => by
    rw [if_neg (by omega), if_neg (by omega), if_neg (by omega), if_neg (by omega), if_neg (by omega), Nat.add_sub_cancel_left]
  exact ⟨⟨va_Zref (hts _ tw_732) (hts _ (gw_in _ tw_1)) e0 hA, hT0⟩, ⟨va_Zref (hts _ tw_967) (hts _ (gw_in _ tw_1)) e1 hA, hT1⟩, ⟨va_Zref (hts _ tw_751) (hts _ (gw_in _ tw_7)) e2 hA, hT2⟩, ⟨va_Zref (hts _ tw_754) (hts _ (gw_in _ tw_7)) e3 hA, hT3⟩, ⟨fun i hi => by dsimp only; rw [kK i hi, kV i hi]; exact hVS.1 i hi, fun i j hi hj h => hVS.2 i j hi hj (by dsimp only at h; rw [kK i hi, kK j hj] at h; exact h)⟩, ⟨vk_R.of (hts _ tw_455) (hev 0 (by decide)), vk_R.of (hts _ tw_508) (hev 1 (by decide)), vk_R.of (hts _ tw_509) (hev 2 (by decide)), vk_R.of (hts _ tw_560) (hev 3 (by decide)), vk_R.of (hts _ tw_574) (hev 8 (by decide)), vk_R.of (hts _ tw_576) (hev 9 (by decide)), vk_R.of (hts _ tw_577) (hev 10 (by decide)), vk_R.of (hts _ tw_578) (hev 11 (by decide)), vk_R.of (hts _ tw_579) (hev 12 (by decide)), vk_R.of (hts _ tw_580) (hev 13 (by decide)), vk_R.of (hts _ tw_581) (hev 14 (by decide)), vk_R.of (hts _ tw_582) (hev 15 (by decide)), vk_R.of (hts _ tw_583) (hev 16 (by decide)), vk_R.of (hts _ tw_584) (hev 17 (by decide)), vk_R.of (hts _ tw_585) (hev 18 (by decide)), vk_R.of (hts _ tw_607) (hev 4 (by decide)), vk_R.of (hts _ tw_620) (hev 5 (by decide)), vk_R.of (hts _ tw_643) (hev 6 (by decide)), vk_R.of (hts _ tw_644) (hev 7 (by decide))⟩, va_Zof (hts _ tw_469) (hts _ (gw_in _ tw_13)) (va_eqi (hs _ gf_cs)) hA, va_Zqof (hts _ tw_485) (hts _ (gw_in _ tw_15)) (hs _ gf_fm) hA, ⟨va_Nw.of rfl (hts _ tw_731), va_Nw.of rfl (hts _ tw_801), va_Nw.of rfl (hts _ tw_966)⟩⟩
set_option maxHeartbeats 4000000 in
theorem pK_start {args : Array Value} {s : State} (hts : ∀ w ∈ lw_tbl, w.before args s = true) : ∃ (D : va_G) (ca : Nat → ClassId), va_K D vwCl (pty ca) s := by
  have hg : ∀ w ∈ gw_tbl, w.before args s = true := fun w h => hts w (gw_in w h)
  obtain ⟨c0, iS0, hKn0⟩ := u_known (C := RX0) (T := TX0) (N := 3) (n := 3) hg inC_0 (hg _ tw_266)
  obtain ⟨c1, iS1, hKn1⟩ := u_known (C := RX1) (T := TX1) (N := 1) (n := 1) hg inC_1 (hg _ tw_67)
  obtain ⟨c2, iS2, hKn2⟩ := u_known (C := RX2) (T := TX2) (N := 7) (n := 7) hg inC_2 (hg _ tw_286)
  obtain ⟨c3, iS3, hKn3⟩ := u_known (C := RX4) (T := TX4) (N := 7) (n := 7) hg inC_3 (hg _ tw_111)
  obtain ⟨c4, iS4, hKn4⟩ := u_known (C := RX5) (T := TX5) (N := 8) (n := 8) hg inC_4 (hg _ tw_77)
  obtain ⟨c5, iS5, hKn5⟩ := u_known (C := RX6) (T := TX6) (N := 8) (n := 8) hg inC_5 (hg _ tw_145)
  obtain ⟨c6, iS6, hKn6⟩ := u_known (C := RX7) (T := TX7) (N := 6) (n := 6) hg inC_6 (hg _ tw_350)
  obtain ⟨c7, iS7, hKn7⟩ := u_known (C := RX8) (T := TX8) (N := 6) (n := 6) hg inC_7 (hg _ tw_320)
  obtain ⟨c8, iS8, hKn8⟩ := u_known (C := RX9) (T := TX9) (N := 6) (n := 6) hg inC_8 (hg _ tw_31)
  obtain ⟨c9, iS9, hKn9⟩ := u_known (C := RX10) (T := TX10) (N := 12) (n := 12) hg inC_9 (hg _ tw_151)
  obtain ⟨c10, iS10, hKn10⟩ := u_known (C := RX11) (T := TX11) (N := 10) (n := 10) hg inC_10 (hg _ tw_23)
  obtain ⟨c11, iS11, hKn11⟩ := u_known (C := RX12) (T := TX12) (N := 43) (n := 43) hg inC_11 (hg _ tw_1048)
  obtain ⟨a0, ka0, co0, fa0, fb0, fc0⟩ := Cond.arrayClass_spec (hg _ tw_65)
  obtain ⟨a1, ka1, co1, fa1, fb1, fc1⟩ := Cond.arrayClass_spec (hg _ tw_109)
  obtain ⟨a2, ka2, co2, fa2, fb2, fc2⟩ := Cond.arrayClass_spec (hg _ tw_143)
  obtain ⟨a3, ka3, co3, fa3, fb3, fc3⟩ := Cond.arrayClass_spec (hg _ tw_142)
  obtain ⟨co4, a4, ka4, fd4, -, fb4, fc4, fa4⟩ := Cond.arrayOver_spec (hts _ tw_272)
  obtain ⟨co5, a5, ka5, fd5, -, fb5, fc5, fa5⟩ := Cond.arrayOver_spec (hts _ tw_264)
  obtain ⟨co6, a6, ka6, fd6, -, fb6, fc6, fa6⟩ := arrayOverA_spec (hts _ tw_117)
  refine ⟨(fun k => if k = 0 then c0 else if k = 1 then c1 else if k = 2 then c2 else if k = 3 then c3 else if k = 4 then c4 else if k = 5 then c5 else if k = 6 then c6 else if k = 7 then c7 else if k = 8 then c8 else if k = 9 then c9 else if k = 10 then c10 else c11, fun k => if k = 0 then iS0 else if k = 1 then iS1 else if k = 2 then iS2 else if k = 3 then iS3 else if k = 4 then iS4 else if k = 5 then iS5 else if k = 6 then iS6 else if k = 7 then iS7 else if k = 8 then iS8 else if k = 9 then iS9 else if k = 10 then iS10 else iS11), fun k => if k = 0 then a0 else if k = 1 then a1 else if k = 2 then a2 else if k = 3 then a3 else if k = 4 then a4 else if k = 5 then a5 else a6, ?_, ?_⟩
  · intro k q hq
    match k, hq with
    | 0, hq => cases hq; exact hKn0
    | 1, hq => cases hq; exact hKn1
    | 2, hq => cases hq; exact hKn2
    | 3, hq => cases hq; exact hKn3
    | 4, hq => cases hq; exact hKn4
    | 5, hq => cases hq; exact hKn5
    | 6, hq => cases hq; exact hKn6
    | 7, hq => cases hq; exact hKn7
    | 8, hq => cases hq; exact hKn8
    | 9, hq => cases hq; exact hKn9
    | 10, hq => cases hq; exact hKn10
    | 11, hq => cases hq; exact hKn11
    | k + 12, hq => simp [vwCl] at hq
  · intro k q hq
    match k, hq with
    | 0, hq => cases hq; exact ⟨fun n z => ⟨fun k h => (by cases h), ka0, fb0, co0, fc0⟩, fa0⟩
    | 1, hq => cases hq; exact ⟨fun n z => ⟨fun k h => (by cases h), ka1, fb1, co1, fc1⟩, fa1⟩
    | 2, hq => cases hq; exact ⟨fun n z => ⟨fun k h => (by cases h), ka2, fb2, co2, fc2⟩, fa2⟩
    | 3, hq => cases hq; exact ⟨fun n z => ⟨fun k h => (by cases h), ka3, fb3, co3, fc3⟩, fa3⟩
    | 4, hq => cases hq; exact ⟨fun n z => ⟨fun k h => (by cases h), ka4, fb4, co4, fc4⟩, ka4, co4, fb4, fc4, fd4, fa4⟩
    | 5, hq => cases hq; exact ⟨fun n z => ⟨fun k h => (by cases h), ka5, fb5, co5, fc5⟩, ka5, co5, fb5, fc5, fd5, fa5⟩
    | 6, hq => cases hq; exact ⟨fun n z => ⟨fun k h => (by cases h), ka6, fb6, co6, fc6⟩, fa6⟩
    | k + 7, hq => simp at hq
theorem gO_start {args : Array Value} {s : State} (hts : ∀ w ∈ lw_tbl, w.before args s = true) : gO s := ⟨va_AO.of (hts _ tw_272), va_AO.of (hts _ tw_264), over_moved (Vm.Alike.refl s.vm) (hts _ tw_117)⟩
