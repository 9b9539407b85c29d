-- X10_rowOf
def F_X10_rowOf (n : Nat) (i : Nat) (a1 : Int32) (σ : PS) : Option (Int32 × PS) := (if (σ.1 i 0) ≤ 0 then some ((0 : Int32), σ) else (if (σ.1 i 0) = 0 then none else some ((a1 / (σ.1 i 0)), σ)))
theorem gm_X10_rowOf : gM "AskedCamp$World" yX10_rowOf (Cond.code yX10_rowOf cX10_rowOf 2 (Option.some Jvm.ClassFile.FieldType.int)) 1 := ⟨by decide +kernel, tw_764, tw_765, tw_7, tw_766⟩
set_option maxHeartbeats 4000000 in
set_option maxRecDepth 100000 in
theorem c_X10_rowOf (l : Launch) (D : va_G) (ad : Nat → Nat) (ca : Nat → ClassId) (kz : Nat → Nat) (hJ : pInj ad) (n : Nat) {i : Nat} (hi : pis i 9) (a1 : Int32) (σ : PS) (out : Int32 × PS) (hF : F_X10_rowOf n i a1 σ = some out) : Met l yX10_rowOf (Cond.code yX10_rowOf cX10_rowOf 2 (Option.some Jvm.ClassFile.FieldType.int) :: gw_tbl) { frames := 0, cells := 0, slots := 0, locals := 0 } (va_Pc [.ref (ad (i)), .int a1] (pU D ad ca kz σ)) (pQi D ad ca out) 0 0 (pAD ad) := by
  refine q_entry (own := "AskedCamp$World") hJ (by decide) rfl (Nat.le_of_ble_eq_true rfl) (fun p e s m below meth c C hr hlk => ?_)
  refine q_lv [(0, .ref (ad (i))), (1, .int a1)] rfl ?_
  rw [F_X10_rowOf] at hF
  refine q_aload_n C 0 dX10_rowOf_0 rfl rfl ?_
  refine qg_9_0 C hi tw_156 dX10_rowOf_1 ?_
  refine q_if_le (tgt := 16) C dX10_rowOf_4 (by decide) (fun c1 => ?_) (fun c1 => ?_)
  · replace hF := ift c1 hF
    refine q_iconst (v := 0) C dX10_rowOf_16 (by decide) ?_
    exact q_iret C hr hlk dX10_rowOf_17 hF
  · replace hF := ife c1 hF
    refine q_iload_n C 1 dX10_rowOf_7 rfl rfl ?_
    refine q_aload_n C 0 dX10_rowOf_8 rfl rfl ?_
    refine qg_9_0 C hi tw_156 dX10_rowOf_9 ?_
    obtain ⟨g2, hF⟩ := grn hF
    refine q_idiv C dX10_rowOf_12 g2 ?_
    refine q_goto (tgt := 17) C dX10_rowOf_13 (by decide) ?_
    exact q_iret C hr hlk dX10_rowOf_17 hF
-- X10_gapBetween
def F_X10_gapBetween (n : Nat) (i : Nat) (a1 : Int32) (a2 : Int32) (σ : PS) : Option (Int32 × PS) := (F_X10_rowOf n i a1 σ).bind (fun q1 => (F_X10_rowOf n i a2 q1.2).bind (fun q3 => (F_X10_columnOf n i a1 q3.2).bind (fun q5 => (F_X10_columnOf n i a2 q5.2).bind (fun q7 => some (((if 0 ≤ (q1.1 - q3.1) then (q1.1 - q3.1) else 0 - (q1.1 - q3.1)) + (if 0 ≤ (q5.1 - q7.1) then (q5.1 - q7.1) else 0 - (q5.1 - q7.1))), q7.2)))))
theorem gm_X10_gapBetween : gM "AskedCamp$World" yX10_gapBetween (Cond.code yX10_gapBetween cX10_gapBetween 3 (Option.some Jvm.ClassFile.FieldType.int)) 2 := ⟨by decide +kernel, tw_973, tw_974, tw_7, tw_975⟩
set_option maxHeartbeats 4000000 in
set_option maxRecDepth 100000 in
theorem c_X10_gapBetween (l : Launch) (D : va_G) (ad : Nat → Nat) (ca : Nat → ClassId) (kz : Nat → Nat) (hJ : pInj ad) (n : Nat) {i : Nat} (hi : pis i 9) (a1 : Int32) (a2 : Int32) (σ : PS) (out : Int32 × PS) (hF : F_X10_gapBetween n i a1 a2 σ = some out) : Met l yX10_gapBetween (Cond.code yX10_gapBetween cX10_gapBetween 3 (Option.some Jvm.ClassFile.FieldType.int) :: gw_tbl) { frames := 1, cells := 0, slots := 0, locals := 24 } (va_Pc [.ref (ad (i)), .int a1, .int a2] (pU D ad ca kz σ)) (pQi D ad ca out) 0 0 (pAD ad) := by
  refine q_entry (own := "AskedCamp$World") hJ (by decide) rfl (Nat.le_of_ble_eq_true rfl) (fun p e s m below meth c C hr hlk => ?_)
  refine q_lv [(0, .ref (ad (i))), (1, .int a1), (2, .int a2)] rfl ?_
  rw [F_X10_gapBetween] at hF
  refine q_aload_n C 0 dX10_gapBetween_0 rfl rfl ?_
  refine q_iload_n C 1 dX10_gapBetween_1 rfl rfl ?_
  obtain ⟨q1, h2, hF⟩ := bnd hF
  try dsimp only at hF
  refine q_callVi C [.int a1] (c_X10_rowOf l D ad ca kz C.2.2.2.2.2.2.1 _ hi _ _ _ h2) tw_976 gm_X10_rowOf hi.1 (pe_9 hi.2) rfl ⟨rfl, rfl⟩ ⟨Nat.le_of_ble_eq_true rfl, Nat.le_of_ble_eq_true rfl⟩ rfl (Nat.le_of_ble_eq_true rfl) dX10_gapBetween_2 q00 ?_
  refine q_aload_n C 0 dX10_gapBetween_5 rfl rfl ?_
  refine q_iload_n C 2 dX10_gapBetween_6 rfl rfl ?_
  obtain ⟨q3, h4, hF⟩ := bnd hF
  try dsimp only at hF
  refine q_callVi C [.int a2] (c_X10_rowOf l D ad ca kz C.2.2.2.2.2.2.1 _ hi _ _ _ h4) tw_976 gm_X10_rowOf hi.1 (pe_9 hi.2) rfl ⟨rfl, rfl⟩ ⟨Nat.le_of_ble_eq_true rfl, Nat.le_of_ble_eq_true rfl⟩ rfl (Nat.le_of_ble_eq_true rfl) dX10_gapBetween_7 q00 ?_
  refine q_isub C dX10_gapBetween_10 ?_
  refine q_mabs C tw_977 ⟨Nat.le_of_ble_eq_true rfl, Nat.le_of_ble_eq_true rfl⟩ dX10_gapBetween_11 ?_
  refine q_aload_n C 0 dX10_gapBetween_14 rfl rfl ?_
  refine q_iload_n C 1 dX10_gapBetween_15 rfl rfl ?_
  obtain ⟨q5, h6, hF⟩ := bnd hF
  try dsimp only at hF
  refine q_callVi C [.int a1] (c_X10_columnOf l D ad ca kz C.2.2.2.2.2.2.1 _ hi _ _ _ h6) tw_980 gm_X10_columnOf hi.1 (pe_9 hi.2) rfl ⟨rfl, rfl⟩ ⟨Nat.le_of_ble_eq_true rfl, Nat.le_of_ble_eq_true rfl⟩ rfl (Nat.le_of_ble_eq_true rfl) dX10_gapBetween_16 q00 ?_
  refine q_aload_n C 0 dX10_gapBetween_19 rfl rfl ?_
  refine q_iload_n C 2 dX10_gapBetween_20 rfl rfl ?_
  obtain ⟨q7, h8, hF⟩ := bnd hF
  try dsimp only at hF
  refine q_callVi C [.int a2] (c_X10_columnOf l D ad ca kz C.2.2.2.2.2.2.1 _ hi _ _ _ h8) tw_980 gm_X10_columnOf hi.1 (pe_9 hi.2) rfl ⟨rfl, rfl⟩ ⟨Nat.le_of_ble_eq_true rfl, Nat.le_of_ble_eq_true rfl⟩ rfl (Nat.le_of_ble_eq_true rfl) dX10_gapBetween_21 q00 ?_
  refine q_isub C dX10_gapBetween_24 ?_
  refine q_mabs C tw_977 ⟨Nat.le_of_ble_eq_true rfl, Nat.le_of_ble_eq_true rfl⟩ dX10_gapBetween_25 ?_
  refine q_iadd C dX10_gapBetween_28 ?_
  exact q_iret C hr hlk dX10_gapBetween_29 hF
-- X10_hasCell
def F_X10_hasCell (n : Nat) (i : Nat) (a1 : Int32) (σ : PS) : Option (Int32 × PS) := (if a1 < 0 then some ((0 : Int32), σ) else (if (σ.1 i 1) ≤ a1 then some ((0 : Int32), σ) else some ((1 : Int32), σ)))
theorem gm_X10_hasCell : gM "AskedCamp$World" yX10_hasCell (Cond.code yX10_hasCell cX10_hasCell 2 (Option.some Jvm.ClassFile.FieldType.boolean)) 1 := ⟨by decide +kernel, tw_672, tw_673, tw_7, tw_674⟩
set_option maxHeartbeats 4000000 in
set_option maxRecDepth 100000 in
theorem c_X10_hasCell (l : Launch) (D : va_G) (ad : Nat → Nat) (ca : Nat → ClassId) (kz : Nat → Nat) (hJ : pInj ad) (n : Nat) {i : Nat} (hi : pis i 9) (a1 : Int32) (σ : PS) (out : Int32 × PS) (hF : F_X10_hasCell n i a1 σ = some out) : Met l yX10_hasCell (Cond.code yX10_hasCell cX10_hasCell 2 (Option.some Jvm.ClassFile.FieldType.boolean) :: gw_tbl) { frames := 0, cells := 0, slots := 0, locals := 0 } (va_Pc [.ref (ad (i)), .int a1] (pU D ad ca kz σ)) (pQi D ad ca out) 0 0 (pAD ad) := by
  refine q_entry (own := "AskedCamp$World") hJ (by decide) rfl (Nat.le_of_ble_eq_true rfl) (fun p e s m below meth c C hr hlk => ?_)
  refine q_lv [(0, .ref (ad (i))), (1, .int a1)] rfl ?_
  rw [F_X10_hasCell] at hF
  refine q_iload_n C 1 dX10_hasCell_0 rfl rfl ?_
  refine q_if_lt (tgt := 16) C dX10_hasCell_1 (by decide) (fun c1 => ?_) (fun c1 => ?_)
  · replace hF := ift c1 hF
    refine q_iconst (v := 0) C dX10_hasCell_16 (by decide) ?_
    exact q_zret C hr hlk dX10_hasCell_17 (by decide) hF
  · replace hF := ife c1 hF
    refine q_iload_n C 1 dX10_hasCell_4 rfl rfl ?_
    refine q_aload_n C 0 dX10_hasCell_5 rfl rfl ?_
    refine qg_9_1 C hi tw_159 dX10_hasCell_6 ?_
    refine q_icmp_ge (tgt := 16) C dX10_hasCell_9 (by decide) (fun c2 => ?_) (fun c2 => ?_)
    · replace hF := ift c2 hF
      refine q_iconst (v := 0) C dX10_hasCell_16 (by decide) ?_
      exact q_zret C hr hlk dX10_hasCell_17 (by decide) hF
    · replace hF := ife c2 hF
      refine q_iconst (v := 1) C dX10_hasCell_12 (by decide) ?_
      refine q_goto (tgt := 17) C dX10_hasCell_13 (by decide) ?_
      exact q_zret C hr hlk dX10_hasCell_17 (by decide) hF
-- X10_hasTent
def F_X10_hasTent (n : Nat) (i : Nat) (a1 : Int32) (σ : PS) : Option (Int32 × PS) := (if a1 < 0 then some ((0 : Int32), σ) else (if (σ.1 i 5) ≤ a1 then some ((0 : Int32), σ) else some ((1 : Int32), σ)))
theorem gm_X10_hasTent : gM "AskedCamp$World" yX10_hasTent (Cond.code yX10_hasTent cX10_hasTent 2 (Option.some Jvm.ClassFile.FieldType.boolean)) 1 := ⟨by decide +kernel, tw_664, tw_665, tw_7, tw_666⟩
set_option maxHeartbeats 4000000 in
set_option maxRecDepth 100000 in
theorem c_X10_hasTent (l : Launch) (D : va_G) (ad : Nat → Nat) (ca : Nat → ClassId) (kz : Nat → Nat) (hJ : pInj ad) (n : Nat) {i : Nat} (hi : pis i 9) (a1 : Int32) (σ : PS) (out : Int32 × PS) (hF : F_X10_hasTent n i a1 σ = some out) : Met l yX10_hasTent (Cond.code yX10_hasTent cX10_hasTent 2 (Option.some Jvm.ClassFile.FieldType.boolean) :: gw_tbl) { frames := 0, cells := 0, slots := 0, locals := 0 } (va_Pc [.ref (ad (i)), .int a1] (pU D ad ca kz σ)) (pQi D ad ca out) 0 0 (pAD ad) := by
  refine q_entry (own := "AskedCamp$World") hJ (by decide) rfl (Nat.le_of_ble_eq_true rfl) (fun p e s m below meth c C hr hlk => ?_)
  refine q_lv [(0, .ref (ad (i))), (1, .int a1)] rfl ?_
  rw [F_X10_hasTent] at hF
  refine q_iload_n C 1 dX10_hasTent_0 rfl rfl ?_
  refine q_if_lt (tgt := 16) C dX10_hasTent_1 (by decide) (fun c1 => ?_) (fun c1 => ?_)
  · replace hF := ift c1 hF
    refine q_iconst (v := 0) C dX10_hasTent_16 (by decide) ?_
    exact q_zret C hr hlk dX10_hasTent_17 (by decide) hF
  · replace hF := ife c1 hF
    refine q_iload_n C 1 dX10_hasTent_4 rfl rfl ?_
    refine q_aload_n C 0 dX10_hasTent_5 rfl rfl ?_
    refine qg_9_5 C hi tw_178 dX10_hasTent_6 ?_
    refine q_icmp_ge (tgt := 16) C dX10_hasTent_9 (by decide) (fun c2 => ?_) (fun c2 => ?_)
    · replace hF := ift c2 hF
      refine q_iconst (v := 0) C dX10_hasTent_16 (by decide) ?_
      exact q_zret C hr hlk dX10_hasTent_17 (by decide) hF
    · replace hF := ife c2 hF
      refine q_iconst (v := 1) C dX10_hasTent_12 (by decide) ?_
      refine q_goto (tgt := 17) C dX10_hasTent_13 (by decide) ?_
      exact q_zret C hr hlk dX10_hasTent_17 (by decide) hF
-- X10_isFree
def F_X10_isFree (n : Nat) (i : Nat) (a1 : Int32) (σ : PS) : Option (Int32 × PS) := (if (lg_cmp ((((σ.2 i 6).toUInt64 >>> (a1.toInt64.toUInt64 &&& Int64.toUInt64 63)).toInt64) &&& (1 : Int64)) (0 : Int64)) = 0 then some ((1 : Int32), σ) else some ((0 : Int32), σ))
theorem gm_X10_isFree : gM "AskedCamp$World" yX10_isFree (Cond.code yX10_isFree cX10_isFree 2 (Option.some Jvm.ClassFile.FieldType.boolean)) 1 := ⟨by decide +kernel, tw_676, tw_677, tw_7, tw_678⟩
set_option maxHeartbeats 4000000 in
set_option maxRecDepth 100000 in
theorem c_X10_isFree (l : Launch) (D : va_G) (ad : Nat → Nat) (ca : Nat → ClassId) (kz : Nat → Nat) (hJ : pInj ad) (n : Nat) {i : Nat} (hi : pis i 9) (a1 : Int32) (σ : PS) (out : Int32 × PS) (hF : F_X10_isFree n i a1 σ = some out) : Met l yX10_isFree (Cond.code yX10_isFree cX10_isFree 2 (Option.some Jvm.ClassFile.FieldType.boolean) :: gw_tbl) { frames := 0, cells := 0, slots := 0, locals := 0 } (va_Pc [.ref (ad (i)), .int a1] (pU D ad ca kz σ)) (pQi D ad ca out) 0 0 (pAD ad) := by
  refine q_entry (own := "AskedCamp$World") hJ (by decide) rfl (Nat.le_of_ble_eq_true rfl) (fun p e s m below meth c C hr hlk => ?_)
  refine q_lv [(0, .ref (ad (i))), (1, .int a1)] rfl ?_
  rw [F_X10_isFree] at hF
  refine q_aload_n C 0 dX10_isFree_0 rfl rfl ?_
  refine qg_9_6 C hi tw_182 dX10_isFree_1 ?_
  refine q_iload_n C 1 dX10_isFree_4 rfl rfl ?_
  refine q_lushr C dX10_isFree_5 ?_
  refine q_lconst (v := 1) C dX10_isFree_6 (by decide) ?_
  refine q_land C dX10_isFree_7 ?_
  refine q_lconst (v := 0) C dX10_isFree_8 (by decide) ?_
  refine q_lcmp C dX10_isFree_9 ?_
  refine q_if_ne (tgt := 17) C dX10_isFree_10 (by decide) (fun c1 => ?_) (fun c1 => ?_)
  · replace hF := ife c1 hF
    refine q_iconst (v := 0) C dX10_isFree_17 (by decide) ?_
    exact q_zret C hr hlk dX10_isFree_18 (by decide) hF
  · replace hF := ift c1 hF
    refine q_iconst (v := 1) C dX10_isFree_13 (by decide) ?_
    refine q_goto (tgt := 18) C dX10_isFree_14 (by decide) ?_
    exact q_zret C hr hlk dX10_isFree_18 (by decide) hF
-- X10_isPitched
def F_X10_isPitched (n : Nat) (i : Nat) (σ : PS) : Option (Int32 × PS) := (if (σ.1 i 0) ≤ 0 then some ((0 : Int32), σ) else some ((1 : Int32), σ))
theorem gm_X10_isPitched : gM "AskedCamp$World" yX10_isPitched (Cond.code yX10_isPitched cX10_isPitched 1 (Option.some Jvm.ClassFile.FieldType.boolean)) 0 := ⟨by decide +kernel, tw_688, tw_689, tw_7, tw_690⟩
set_option maxHeartbeats 4000000 in
set_option maxRecDepth 100000 in
theorem c_X10_isPitched (l : Launch) (D : va_G) (ad : Nat → Nat) (ca : Nat → ClassId) (kz : Nat → Nat) (hJ : pInj ad) (n : Nat) {i : Nat} (hi : pis i 9) (σ : PS) (out : Int32 × PS) (hF : F_X10_isPitched n i σ = some out) : Met l yX10_isPitched (Cond.code yX10_isPitched cX10_isPitched 1 (Option.some Jvm.ClassFile.FieldType.boolean) :: gw_tbl) { frames := 0, cells := 0, slots := 0, locals := 0 } (va_Pc [.ref (ad (i))] (pU D ad ca kz σ)) (pQi D ad ca out) 0 0 (pAD ad) := by
  refine q_entry (own := "AskedCamp$World") hJ (by decide) rfl (Nat.le_of_ble_eq_true rfl) (fun p e s m below meth c C hr hlk => ?_)
  refine q_lv [(0, .ref (ad (i)))] rfl ?_
  rw [F_X10_isPitched] at hF
  refine q_aload_n C 0 dX10_isPitched_0 rfl rfl ?_
  refine qg_9_0 C hi tw_156 dX10_isPitched_1 ?_
  refine q_if_le (tgt := 11) C dX10_isPitched_4 (by decide) (fun c1 => ?_) (fun c1 => ?_)
  · replace hF := ift c1 hF
    refine q_iconst (v := 0) C dX10_isPitched_11 (by decide) ?_
    exact q_zret C hr hlk dX10_isPitched_12 (by decide) hF
  · replace hF := ife c1 hF
    refine q_iconst (v := 1) C dX10_isPitched_7 (by decide) ?_
    refine q_goto (tgt := 12) C dX10_isPitched_8 (by decide) ?_
    exact q_zret C hr hlk dX10_isPitched_12 (by decide) hF
-- X10_leastNerveOn
def L_X10_leastNerveOn_5 (n : Nat) (i : Nat) : Nat → Int32 → Int32 → Int32 → PS → Option (Int32 × PS)
  | 0, _, _, _, _ => none
  | k + 1, x1, x2, x3, σ => (if (σ.1 i 5) ≤ x3 then some (x2, σ) else (if 0 ≤ x3 ∧ x3.toNatClampNeg < 6 then (if (σ.1 (i + 1) x3.toNatClampNeg) = x1 then L_X10_leastNerveOn_5 n i k x1 (if (σ.1 (i + 2) x3.toNatClampNeg) < x2 then (σ.1 (i + 2) x3.toNatClampNeg) else x2) (x3 + 1) σ else L_X10_leastNerveOn_5 n i k x1 x2 (x3 + 1) σ) else none))
def F_X10_leastNerveOn (n : Nat) (i : Nat) (a1 : Int32) (σ : PS) : Option (Int32 × PS) := (L_X10_leastNerveOn_5 n i n a1 (99 : Int32) (0 : Int32) σ).bind (fun o4 => some (o4.1, o4.2))
theorem gm_X10_leastNerveOn : gM "AskedCamp$World" yX10_leastNerveOn (Cond.code yX10_leastNerveOn cX10_leastNerveOn 4 (Option.some Jvm.ClassFile.FieldType.int)) 1 := ⟨by decide +kernel, tw_779, tw_780, tw_7, tw_781⟩
set_option maxHeartbeats 4000000 in
set_option maxRecDepth 100000 in
theorem l_X10_leastNerveOn_5 {p : Program} {l : Launch} {e : Env} {R : Room} {s : State} {m : MethodId} {args : Array Value} {below : List Frame} {meth : Method} {c : Code} {D : va_G} {ad : Nat → Nat} {ca : Nat → ClassId} {kz : Nat → Nat} {Q : State → Prop} (C : pC p s m args c cX10_leastNerveOn "AskedCamp$World" 4 D ad ca kz) (hR : 1 ≤ R.frames ∧ 24 ≤ R.locals) {n : Nat} {i : Nat} (hi : pis i 9) (o : Int32 × PS) (hx0 : PW p l e R s m args below meth c 4 D ad ca 0 0 Q (o.2) 40 [(2, .int o.1)] []) : ∀ (k : Nat) (x1 : Int32) (x2 : Int32) (x3 : Int32) (σ : PS), L_X10_leastNerveOn_5 n i k x1 x2 x3 σ = some o → PW p l e R s m args below meth c 4 D ad ca 0 0 Q σ 5 [(0, .ref (ad (i))), (1, .int x1), (2, .int x2), (3, .int x3)] [] := by
  intro k
  induction k with
  | zero => intro x1 x2 x3 σ hF; exact nomatch (show (none : Option (Int32 × PS)) = some o from hF)
  | succ k ih =>
    intro x1 x2 x3 σ hF
    rw [L_X10_leastNerveOn_5] at hF
    refine q_iload_n C 3 dX10_leastNerveOn_5 rfl rfl ?_
    refine q_aload_n C 0 dX10_leastNerveOn_6 rfl rfl ?_
    refine qg_9_5 C hi tw_178 dX10_leastNerveOn_7 ?_
    refine q_icmp_ge (tgt := 40) C dX10_leastNerveOn_10 (by decide) (fun c1 => ?_) (fun c1 => ?_)
    · replace hF := ift c1 hF
      cases hF
      refine q_sub [2] rfl ?_
      exact hx0
    · replace hF := ife c1 hF
      refine q_aload_n C 0 dX10_leastNerveOn_13 rfl rfl ?_
      refine qg_9_7 C hi tw_187 dX10_leastNerveOn_14 ?_
      refine q_iload_n C 3 dX10_leastNerveOn_17 rfl rfl ?_
      obtain ⟨g2, hF⟩ := grd hF
      refine q_iald C (pkW hi).1 (vp_of g2) dX10_leastNerveOn_18 ?_
      refine q_iload_n C 1 dX10_leastNerveOn_19 rfl rfl ?_
      refine q_icmp_ne (tgt := 34) C dX10_leastNerveOn_20 (by decide) (fun c3 => ?_) (fun c3 => ?_)
      · replace hF := ife c3 hF
        refine q_iinc C 3 [(3, .int (x3 + 1)), (0, .ref (ad (i))), (1, .int x1), (2, .int x2)] dX10_leastNerveOn_34 rfl rfl (by decide) rfl ?_
        refine q_goto (tgt := 5) C dX10_leastNerveOn_37 (by decide) ?_
        refine q_sub [1, 2, 3, 0] rfl ?_
        exact ih _ _ _ _ hF
      · replace hF := ift c3 hF
        refine q_iload_n C 2 dX10_leastNerveOn_23 rfl rfl ?_
        refine q_aload_n C 0 dX10_leastNerveOn_24 rfl rfl ?_
        refine qg_9_8 C hi tw_191 dX10_leastNerveOn_25 ?_
        refine q_iload_n C 3 dX10_leastNerveOn_28 rfl rfl ?_
        refine q_iald C (pkW hi).2.1 (vp_of g2) dX10_leastNerveOn_29 ?_
        refine q_mmin C tw_782 ⟨Nat.le_trans (Nat.le_of_ble_eq_true rfl) hR.1, Nat.le_trans (Nat.le_of_ble_eq_true rfl) hR.2⟩ dX10_leastNerveOn_30 ?_
        refine q_istore_n C [(2, .int (if (σ.1 (i + 2) x3.toNatClampNeg) < x2 then (σ.1 (i + 2) x3.toNatClampNeg) else x2)), (0, .ref (ad (i))), (1, .int x1), (3, .int x3)] dX10_leastNerveOn_33 rfl (by decide) rfl ?_
        refine q_iinc C 3 [(3, .int (x3 + 1)), (2, .int (if (σ.1 (i + 2) x3.toNatClampNeg) < x2 then (σ.1 (i + 2) x3.toNatClampNeg) else x2)), (0, .ref (ad (i))), (1, .int x1)] dX10_leastNerveOn_34 rfl rfl (by decide) rfl ?_
        refine q_goto (tgt := 5) C dX10_leastNerveOn_37 (by decide) ?_
        refine q_sub [2, 3, 1, 0] rfl ?_
        exact ih _ _ _ _ hF
set_option maxHeartbeats 4000000 in
set_option maxRecDepth 100000 in
theorem c_X10_leastNerveOn (l : Launch) (D : va_G) (ad : Nat → Nat) (ca : Nat → ClassId) (kz : Nat → Nat) (hJ : pInj ad) (n : Nat) {i : Nat} (hi : pis i 9) (a1 : Int32) (σ : PS) (out : Int32 × PS) (hF : F_X10_leastNerveOn n i a1 σ = some out) : Met l yX10_leastNerveOn (Cond.code yX10_leastNerveOn cX10_leastNerveOn 4 (Option.some Jvm.ClassFile.FieldType.int) :: gw_tbl) { frames := 1, cells := 0, slots := 0, locals := 24 } (va_Pc [.ref (ad (i)), .int a1] (pU D ad ca kz σ)) (pQi D ad ca out) 0 0 (pAD ad) := by
  refine q_entry (own := "AskedCamp$World") hJ (by decide) rfl (Nat.le_of_ble_eq_true rfl) (fun p e s m below meth c C hr hlk => ?_)
  refine q_lv [(0, .ref (ad (i))), (1, .int a1)] rfl ?_
  rw [F_X10_leastNerveOn] at hF
  refine q_bipush (v := 99) C dX10_leastNerveOn_0 (by decide) ?_
  refine q_istore_n C [(2, .int 99), (0, .ref (ad (i))), (1, .int a1)] dX10_leastNerveOn_2 rfl (by decide) rfl ?_
  refine q_iconst (v := 0) C dX10_leastNerveOn_3 (by decide) ?_
  refine q_istore_n C [(3, .int 0), (2, .int 99), (0, .ref (ad (i))), (1, .int a1)] dX10_leastNerveOn_4 rfl (by decide) rfl ?_
  obtain ⟨o4, h5, hF⟩ := bnd hF
  try dsimp only at hF
  refine q_sub [2, 3, 1, 0] rfl ?_
  refine l_X10_leastNerveOn_5 C ⟨Nat.le_of_ble_eq_true rfl, Nat.le_of_ble_eq_true rfl⟩ hi o4 ?_ n _ _ _ _ h5
  refine q_iload_n C 0 dX10_leastNerveOn_40 rfl rfl ?_
  exact q_iret C hr hlk dX10_leastNerveOn_41 hF
-- X10_passable
def F_X10_passable (n : Nat) (i : Nat) (a1 : Int32) (a2 : Int32) (σ : PS) : Option (Int32 × PS) := (F_X10_beside n i a1 a2 σ).bind (fun q1 => (if q1.1 = (-1 : Int32) then some (q1.1, q1.2) else (F_X10_isFree n i q1.1 q1.2).bind (fun q4 => (if q4.1 = 0 then (if a2 = (4 : Int32) then some (q1.1, q4.2) else some ((-1 : Int32), q4.2)) else some (q1.1, q4.2)))))
theorem gm_X10_passable : gM "AskedCamp$World" yX10_passable (Cond.code yX10_passable cX10_passable 4 (Option.some Jvm.ClassFile.FieldType.int)) 2 := ⟨by decide +kernel, tw_734, tw_735, tw_7, tw_736⟩
set_option maxHeartbeats 4000000 in
set_option maxRecDepth 100000 in
theorem c_X10_passable (l : Launch) (D : va_G) (ad : Nat → Nat) (ca : Nat → ClassId) (kz : Nat → Nat) (hJ : pInj ad) (n : Nat) {i : Nat} (hi : pis i 9) (a1 : Int32) (a2 : Int32) (σ : PS) (out : Int32 × PS) (hF : F_X10_passable n i a1 a2 σ = some out) : Met l yX10_passable (Cond.code yX10_passable cX10_passable 4 (Option.some Jvm.ClassFile.FieldType.int) :: gw_tbl) { frames := 1, cells := 0, slots := 0, locals := 23 } (va_Pc [.ref (ad (i)), .int a1, .int a2] (pU D ad ca kz σ)) (pQi D ad ca out) 0 0 (pAD ad) := by
  refine q_entry (own := "AskedCamp$World") hJ (by decide) rfl (Nat.le_of_ble_eq_true rfl) (fun p e s m below meth c C hr hlk => ?_)
  refine q_lv [(0, .ref (ad (i))), (1, .int a1), (2, .int a2)] rfl ?_
  rw [F_X10_passable] at hF
  refine q_aload_n C 0 dX10_passable_0 rfl rfl ?_
  refine q_iload_n C 1 dX10_passable_1 rfl rfl ?_
  refine q_iload_n C 2 dX10_passable_2 rfl rfl ?_
  obtain ⟨q1, h2, hF⟩ := bnd hF
  try dsimp only at hF
  refine q_callVi C [.int a1, .int a2] (c_X10_beside l D ad ca kz C.2.2.2.2.2.2.1 _ hi _ _ _ _ h2) tw_737 gm_X10_beside hi.1 (pe_9 hi.2) rfl ⟨rfl, rfl⟩ ⟨Nat.le_of_ble_eq_true rfl, Nat.le_of_ble_eq_true rfl⟩ rfl (Nat.le_of_ble_eq_true rfl) dX10_passable_3 q00 ?_
  refine q_istore_n C [(3, .int q1.1), (0, .ref (ad (i))), (1, .int a1), (2, .int a2)] dX10_passable_6 rfl (by decide) rfl ?_
  refine q_iload_n C 0 dX10_passable_7 rfl rfl ?_
  refine q_iconst (v := -1) C dX10_passable_8 (by decide) ?_
  refine q_icmp_eq (tgt := 25) C dX10_passable_9 (by decide) (fun c3 => ?_) (fun c3 => ?_)
  · replace hF := ift c3 hF
    refine q_iload_n C 0 dX10_passable_25 rfl rfl ?_
    refine q_goto (tgt := 30) C dX10_passable_26 (by decide) ?_
    exact q_iret C hr hlk dX10_passable_30 hF
  · replace hF := ife c3 hF
    refine q_aload_n C 1 dX10_passable_12 rfl rfl ?_
    refine q_iload_n C 0 dX10_passable_13 rfl rfl ?_
    obtain ⟨q4, h5, hF⟩ := bnd hF
    try dsimp only at hF
    refine q_callVi C [.int q1.1] (c_X10_isFree l D ad ca kz C.2.2.2.2.2.2.1 _ hi _ _ _ h5) tw_741 gm_X10_isFree hi.1 (pe_9 hi.2) rfl ⟨rfl, rfl⟩ ⟨Nat.le_of_ble_eq_true rfl, Nat.le_of_ble_eq_true rfl⟩ rfl (Nat.le_of_ble_eq_true rfl) dX10_passable_14 q00 ?_
    refine q_if_ne (tgt := 25) C dX10_passable_17 (by decide) (fun c6 => ?_) (fun c6 => ?_)
    · replace hF := ife c6 hF
      refine q_iload_n C 0 dX10_passable_25 rfl rfl ?_
      refine q_goto (tgt := 30) C dX10_passable_26 (by decide) ?_
      exact q_iret C hr hlk dX10_passable_30 hF
    · replace hF := ift c6 hF
      refine q_iload_n C 3 dX10_passable_20 rfl rfl ?_
      refine q_iconst (v := 4) C dX10_passable_21 (by decide) ?_
      refine q_icmp_ne (tgt := 29) C dX10_passable_22 (by decide) (fun c7 => ?_) (fun c7 => ?_)
      · replace hF := ife c7 hF
        refine q_iconst (v := -1) C dX10_passable_29 (by decide) ?_
        exact q_iret C hr hlk dX10_passable_30 hF
      · replace hF := ift c7 hF
        refine q_iload_n C 0 dX10_passable_25 rfl rfl ?_
        refine q_goto (tgt := 30) C dX10_passable_26 (by decide) ?_
        exact q_iret C hr hlk dX10_passable_30 hF
-- X10_penceOf
def L_X10_penceOf_32 (n : Nat) (i : Nat) : Nat → Int32 → Int32 → Int32 → Int32 → Int32 → Int32 → Int32 → PS → Option (Int32 × Int32 × Int32 × Int32 × Int32 × PS)
  | 0, _, _, _, _, _, _, _, _ => none
  | k + 1, x1, x2, x3, x4, x5, x6, x7, σ => (if (σ.1 i 5) ≤ x7 then some (x1, x2, x3, x4, x5, σ) else (if 0 ≤ x7 ∧ x7.toNatClampNeg < 6 then (if x3 = 0 then none else (if x6 < ((x1 * (σ.1 (i + 3) x7.toNatClampNeg)) - (x1 * (σ.1 (i + 3) x7.toNatClampNeg)) / x3 * x3) then L_X10_penceOf_32 n i k x1 x2 x3 (x4 - ((x1 * (σ.1 (i + 3) x7.toNatClampNeg)) / x3)) (x5 + 1) x6 (x7 + 1) σ else (if ((x1 * (σ.1 (i + 3) x7.toNatClampNeg)) - (x1 * (σ.1 (i + 3) x7.toNatClampNeg)) / x3 * x3) = x6 then (if x2 ≤ x7 then L_X10_penceOf_32 n i k x1 x2 x3 (x4 - ((x1 * (σ.1 (i + 3) x7.toNatClampNeg)) / x3)) x5 x6 (x7 + 1) σ else L_X10_penceOf_32 n i k x1 x2 x3 (x4 - ((x1 * (σ.1 (i + 3) x7.toNatClampNeg)) / x3)) (x5 + 1) x6 (x7 + 1) σ) else L_X10_penceOf_32 n i k x1 x2 x3 (x4 - ((x1 * (σ.1 (i + 3) x7.toNatClampNeg)) / x3)) x5 x6 (x7 + 1) σ))) else none))
def F_X10_penceOf (n : Nat) (i : Nat) (a1 : Int32) (a2 : Int32) (σ : PS) : Option (Int32 × PS) := (F_X10_askedInAll n i σ).bind (fun q1 => (if q1.1 = 0 then some ((0 : Int32), q1.2) else (if 0 ≤ a2 ∧ a2.toNatClampNeg < 6 then (if q1.1 = 0 then none else (L_X10_penceOf_32 n i n a1 a2 q1.1 a1 (0 : Int32) ((a1 * (q1.2.1 (i + 3) a2.toNatClampNeg)) - (a1 * (q1.2.1 (i + 3) a2.toNatClampNeg)) / q1.1 * q1.1) (0 : Int32) q1.2).bind (fun o12 => (if 0 ≤ o12.2.1 ∧ o12.2.1.toNatClampNeg < 6 then (if o12.2.2.1 = 0 then none else (if o12.2.2.2.1 ≤ o12.2.2.2.2.1 then some ((((o12.1 * (o12.2.2.2.2.2.1 (i + 3) o12.2.1.toNatClampNeg)) / o12.2.2.1) + (0 : Int32)), o12.2.2.2.2.2) else some ((((o12.1 * (o12.2.2.2.2.2.1 (i + 3) o12.2.1.toNatClampNeg)) / o12.2.2.1) + (1 : Int32)), o12.2.2.2.2.2))) else none))) else none)))
theorem gm_X10_penceOf : gM "AskedCamp$World" yX10_penceOf (Cond.code yX10_penceOf cX10_penceOf 9 (Option.some Jvm.ClassFile.FieldType.int)) 2 := ⟨by decide +kernel, tw_987, tw_988, tw_7, tw_989⟩
set_option maxHeartbeats 4000000 in
set_option maxRecDepth 100000 in
theorem l_X10_penceOf_32 {p : Program} {l : Launch} {e : Env} {R : Room} {s : State} {m : MethodId} {args : Array Value} {below : List Frame} {meth : Method} {c : Code} {D : va_G} {ad : Nat → Nat} {ca : Nat → ClassId} {kz : Nat → Nat} {Q : State → Prop} (C : pC p s m args c cX10_penceOf "AskedCamp$World" 9 D ad ca kz) (hR : 1 ≤ R.frames ∧ 22 ≤ R.locals) {n : Nat} {i : Nat} (hi : pis i 9) (o : Int32 × Int32 × Int32 × Int32 × Int32 × PS) (hx0 : PW p l e R s m args below meth c 9 D ad ca 0 0 Q (o.2.2.2.2.2) 99 [(0, .ref (ad (i))), (1, .int o.1), (2, .int o.2.1), (3, .int o.2.2.1), (4, .int o.2.2.2.1), (5, .int o.2.2.2.2.1)] []) : ∀ (k : Nat) (x1 : Int32) (x2 : Int32) (x3 : Int32) (x4 : Int32) (x5 : Int32) (x6 : Int32) (x7 : Int32) (σ : PS), L_X10_penceOf_32 n i k x1 x2 x3 x4 x5 x6 x7 σ = some o → PW p l e R s m args below meth c 9 D ad ca 0 0 Q σ 32 [(0, .ref (ad (i))), (1, .int x1), (2, .int x2), (3, .int x3), (4, .int x4), (5, .int x5), (6, .int x6), (7, .int x7)] [] := by
  intro k
  induction k with
  | zero => intro x1 x2 x3 x4 x5 x6 x7 σ hF; exact nomatch (show (none : Option (Int32 × Int32 × Int32 × Int32 × Int32 × PS)) = some o from hF)
  | succ k ih =>
    intro x1 x2 x3 x4 x5 x6 x7 σ hF
    rw [L_X10_penceOf_32] at hF
    refine q_iload C 7 dX10_penceOf_32 rfl ?_
    refine q_aload_n C 0 dX10_penceOf_34 rfl rfl ?_
    refine qg_9_5 C hi tw_178 dX10_penceOf_35 ?_
    refine q_icmp_ge (tgt := 99) C dX10_penceOf_38 (by decide) (fun c6 => ?_) (fun c6 => ?_)
    · replace hF := ift c6 hF
      cases hF
      refine q_sub [0, 1, 2, 3, 4, 5] rfl ?_
      exact hx0
    · replace hF := ife c6 hF
      refine q_iload C 4 dX10_penceOf_41 rfl ?_
      refine q_iload_n C 1 dX10_penceOf_43 rfl rfl ?_
      refine q_aload_n C 0 dX10_penceOf_44 rfl rfl ?_
      refine qg_9_9 C hi tw_193 dX10_penceOf_45 ?_
      refine q_iload C 7 dX10_penceOf_48 rfl ?_
      obtain ⟨g7, hF⟩ := grd hF
      refine q_iald C (pkW hi).2.2.1 (vp_of g7) dX10_penceOf_50 ?_
      refine q_imul C dX10_penceOf_51 ?_
      refine q_iload_n C 3 dX10_penceOf_52 rfl rfl ?_
      obtain ⟨g8, hF⟩ := grn hF
      refine q_idiv C dX10_penceOf_53 g8 ?_
      refine q_isub C dX10_penceOf_54 ?_
      refine q_istore C [(4, .int (x4 - ((x1 * (σ.1 (i + 3) x7.toNatClampNeg)) / x3))), (0, .ref (ad (i))), (1, .int x1), (2, .int x2), (3, .int x3), (5, .int x5), (6, .int x6), (7, .int x7)] dX10_penceOf_55 (by decide) rfl ?_
      refine q_iload_n C 2 dX10_penceOf_57 rfl rfl ?_
      refine q_aload_n C 1 dX10_penceOf_58 rfl rfl ?_
      refine qg_9_9 C hi tw_193 dX10_penceOf_59 ?_
      refine q_iload C 7 dX10_penceOf_62 rfl ?_
      refine q_iald C (pkW hi).2.2.1 (vp_of g7) dX10_penceOf_64 ?_
      refine q_imul C dX10_penceOf_65 ?_
      refine q_iload_n C 4 dX10_penceOf_66 rfl rfl ?_
      refine q_irem C dX10_penceOf_67 g8 ?_
      refine q_istore C [(8, .int ((x1 * (σ.1 (i + 3) x7.toNatClampNeg)) - (x1 * (σ.1 (i + 3) x7.toNatClampNeg)) / x3 * x3)), (4, .int (x4 - ((x1 * (σ.1 (i + 3) x7.toNatClampNeg)) / x3))), (0, .ref (ad (i))), (1, .int x1), (2, .int x2), (3, .int x3), (5, .int x5), (6, .int x6), (7, .int x7)] dX10_penceOf_68 (by decide) rfl ?_
      refine q_iload C 0 dX10_penceOf_70 rfl ?_
      refine q_iload C 7 dX10_penceOf_72 rfl ?_
      refine q_icmp_gt (tgt := 90) C dX10_penceOf_74 (by decide) (fun c9 => ?_) (fun c9 => ?_)
      · replace hF := ift c9 hF
        refine q_iinc C 6 [(5, .int (x5 + 1)), (8, .int ((x1 * (σ.1 (i + 3) x7.toNatClampNeg)) - (x1 * (σ.1 (i + 3) x7.toNatClampNeg)) / x3 * x3)), (4, .int (x4 - ((x1 * (σ.1 (i + 3) x7.toNatClampNeg)) / x3))), (0, .ref (ad (i))), (1, .int x1), (2, .int x2), (3, .int x3), (6, .int x6), (7, .int x7)] dX10_penceOf_90 rfl rfl (by decide) rfl ?_
        refine q_iinc C 8 [(7, .int (x7 + 1)), (5, .int (x5 + 1)), (8, .int ((x1 * (σ.1 (i + 3) x7.toNatClampNeg)) - (x1 * (σ.1 (i + 3) x7.toNatClampNeg)) / x3 * x3)), (4, .int (x4 - ((x1 * (σ.1 (i + 3) x7.toNatClampNeg)) / x3))), (0, .ref (ad (i))), (1, .int x1), (2, .int x2), (3, .int x3), (6, .int x6)] dX10_penceOf_93 rfl rfl (by decide) rfl ?_
        refine q_goto (tgt := 32) C dX10_penceOf_96 (by decide) ?_
        refine q_sub [4, 5, 6, 7, 3, 1, 8, 0] rfl ?_
        exact ih _ _ _ _ _ _ _ _ hF
      · replace hF := ife c9 hF
        refine q_iload C 0 dX10_penceOf_77 rfl ?_
        refine q_iload C 7 dX10_penceOf_79 rfl ?_
        refine q_icmp_ne (tgt := 93) C dX10_penceOf_81 (by decide) (fun c10 => ?_) (fun c10 => ?_)
        · replace hF := ife c10 hF
          refine q_iinc C 8 [(7, .int (x7 + 1)), (8, .int ((x1 * (σ.1 (i + 3) x7.toNatClampNeg)) - (x1 * (σ.1 (i + 3) x7.toNatClampNeg)) / x3 * x3)), (4, .int (x4 - ((x1 * (σ.1 (i + 3) x7.toNatClampNeg)) / x3))), (0, .ref (ad (i))), (1, .int x1), (2, .int x2), (3, .int x3), (5, .int x5), (6, .int x6)] dX10_penceOf_93 rfl rfl (by decide) rfl ?_
          refine q_goto (tgt := 32) C dX10_penceOf_96 (by decide) ?_
          refine q_sub [3, 4, 5, 6, 2, 7, 8, 0] rfl ?_
          exact ih _ _ _ _ _ _ _ _ hF
        · replace hF := ift c10 hF
          refine q_iload C 8 dX10_penceOf_84 rfl ?_
          refine q_iload_n C 4 dX10_penceOf_86 rfl rfl ?_
          refine q_icmp_ge (tgt := 93) C dX10_penceOf_87 (by decide) (fun c11 => ?_) (fun c11 => ?_)
          · replace hF := ift c11 hF
            refine q_iinc C 8 [(7, .int (x7 + 1)), (8, .int ((x1 * (σ.1 (i + 3) x7.toNatClampNeg)) - (x1 * (σ.1 (i + 3) x7.toNatClampNeg)) / x3 * x3)), (4, .int (x4 - ((x1 * (σ.1 (i + 3) x7.toNatClampNeg)) / x3))), (0, .ref (ad (i))), (1, .int x1), (2, .int x2), (3, .int x3), (5, .int x5), (6, .int x6)] dX10_penceOf_93 rfl rfl (by decide) rfl ?_
            refine q_goto (tgt := 32) C dX10_penceOf_96 (by decide) ?_
            refine q_sub [3, 4, 5, 6, 2, 7, 8, 0] rfl ?_
            exact ih _ _ _ _ _ _ _ _ hF
          · replace hF := ife c11 hF
            refine q_iinc C 6 [(5, .int (x5 + 1)), (8, .int ((x1 * (σ.1 (i + 3) x7.toNatClampNeg)) - (x1 * (σ.1 (i + 3) x7.toNatClampNeg)) / x3 * x3)), (4, .int (x4 - ((x1 * (σ.1 (i + 3) x7.toNatClampNeg)) / x3))), (0, .ref (ad (i))), (1, .int x1), (2, .int x2), (3, .int x3), (6, .int x6), (7, .int x7)] dX10_penceOf_90 rfl rfl (by decide) rfl ?_
            refine q_iinc C 8 [(7, .int (x7 + 1)), (5, .int (x5 + 1)), (8, .int ((x1 * (σ.1 (i + 3) x7.toNatClampNeg)) - (x1 * (σ.1 (i + 3) x7.toNatClampNeg)) / x3 * x3)), (4, .int (x4 - ((x1 * (σ.1 (i + 3) x7.toNatClampNeg)) / x3))), (0, .ref (ad (i))), (1, .int x1), (2, .int x2), (3, .int x3), (6, .int x6)] dX10_penceOf_93 rfl rfl (by decide) rfl ?_
            refine q_goto (tgt := 32) C dX10_penceOf_96 (by decide) ?_
            refine q_sub [4, 5, 6, 7, 3, 1, 8, 0] rfl ?_
            exact ih _ _ _ _ _ _ _ _ hF
set_option maxHeartbeats 4000000 in
set_option maxRecDepth 100000 in
theorem c_X10_penceOf (l : Launch) (D : va_G) (ad : Nat → Nat) (ca : Nat → ClassId) (kz : Nat → Nat) (hJ : pInj ad) (n : Nat) {i : Nat} (hi : pis i 9) (a1 : Int32) (a2 : Int32) (σ : PS) (out : Int32 × PS) (hF : F_X10_penceOf n i a1 a2 σ = some out) : Met l yX10_penceOf (Cond.code yX10_penceOf cX10_penceOf 9 (Option.some Jvm.ClassFile.FieldType.int) :: gw_tbl) { frames := 1, cells := 0, slots := 0, locals := 22 } (va_Pc [.ref (ad (i)), .int a1, .int a2] (pU D ad ca kz σ)) (pQi D ad ca out) 0 0 (pAD ad) := by
  refine q_entry (own := "AskedCamp$World") hJ (by decide) rfl (Nat.le_of_ble_eq_true rfl) (fun p e s m below meth c C hr hlk => ?_)
  refine q_lv [(0, .ref (ad (i))), (1, .int a1), (2, .int a2)] rfl ?_
  rw [F_X10_penceOf] at hF
  refine q_aload_n C 0 dX10_penceOf_0 rfl rfl ?_
  obtain ⟨q1, h2, hF⟩ := bnd hF
  try dsimp only at hF
  refine q_callVi C [] (c_X10_askedInAll l D ad ca kz C.2.2.2.2.2.2.1 _ hi _ _ h2) tw_990 gm_X10_askedInAll hi.1 (pe_9 hi.2) rfl ⟨rfl, rfl⟩ ⟨Nat.le_of_ble_eq_true rfl, Nat.le_of_ble_eq_true rfl⟩ rfl (Nat.le_of_ble_eq_true rfl) dX10_penceOf_1 q00 ?_
  refine q_istore_n C [(3, .int q1.1), (0, .ref (ad (i))), (1, .int a1), (2, .int a2)] dX10_penceOf_4 rfl (by decide) rfl ?_
  refine q_iload_n C 0 dX10_penceOf_5 rfl rfl ?_
  refine q_if_ne (tgt := 11) C dX10_penceOf_6 (by decide) (fun c3 => ?_) (fun c3 => ?_)
  · replace hF := ife c3 hF
    refine q_iload_n C 2 dX10_penceOf_11 rfl rfl ?_
    refine q_istore C [(4, .int a1), (3, .int q1.1), (0, .ref (ad (i))), (1, .int a1), (2, .int a2)] dX10_penceOf_12 (by decide) rfl ?_
    refine q_iconst (v := 0) C dX10_penceOf_14 (by decide) ?_
    refine q_istore C [(5, .int 0), (4, .int a1), (3, .int q1.1), (0, .ref (ad (i))), (1, .int a1), (2, .int a2)] dX10_penceOf_15 (by decide) rfl ?_
    refine q_iload_n C 4 dX10_penceOf_17 rfl rfl ?_
    refine q_aload_n C 3 dX10_penceOf_18 rfl rfl ?_
    refine qg_9_9 C hi tw_193 dX10_penceOf_19 ?_
    refine q_iload_n C 5 dX10_penceOf_22 rfl rfl ?_
    obtain ⟨g4, hF⟩ := grd hF
    refine q_iald C (pkW hi).2.2.1 (vp_of g4) dX10_penceOf_23 ?_
    refine q_imul C dX10_penceOf_24 ?_
    refine q_iload_n C 2 dX10_penceOf_25 rfl rfl ?_
    obtain ⟨g5, hF⟩ := grn hF
    refine q_irem C dX10_penceOf_26 g5 ?_
    refine q_istore C [(6, .int ((a1 * (q1.2.1 (i + 3) a2.toNatClampNeg)) - (a1 * (q1.2.1 (i + 3) a2.toNatClampNeg)) / q1.1 * q1.1)), (5, .int 0), (4, .int a1), (3, .int q1.1), (0, .ref (ad (i))), (1, .int a1), (2, .int a2)] dX10_penceOf_27 (by decide) rfl ?_
    refine q_iconst (v := 0) C dX10_penceOf_29 (by decide) ?_
    refine q_istore C [(7, .int 0), (6, .int ((a1 * (q1.2.1 (i + 3) a2.toNatClampNeg)) - (a1 * (q1.2.1 (i + 3) a2.toNatClampNeg)) / q1.1 * q1.1)), (5, .int 0), (4, .int a1), (3, .int q1.1), (0, .ref (ad (i))), (1, .int a1), (2, .int a2)] dX10_penceOf_30 (by decide) rfl ?_
    obtain ⟨o12, h13, hF⟩ := bnd hF
    try dsimp only at hF
    refine q_sub [5, 6, 7, 4, 3, 2, 1, 0] rfl ?_
    refine l_X10_penceOf_32 C ⟨Nat.le_of_ble_eq_true rfl, Nat.le_of_ble_eq_true rfl⟩ hi o12 ?_ n _ _ _ _ _ _ _ _ h13
    refine q_iload_n C 1 dX10_penceOf_99 rfl rfl ?_
    refine q_aload_n C 0 dX10_penceOf_100 rfl rfl ?_
    refine qg_9_9 C hi tw_193 dX10_penceOf_101 ?_
    refine q_iload_n C 2 dX10_penceOf_104 rfl rfl ?_
    obtain ⟨g14, hF⟩ := grd hF
    refine q_iald C (pkW hi).2.2.1 (vp_of g14) dX10_penceOf_105 ?_
    refine q_imul C dX10_penceOf_106 ?_
    refine q_iload_n C 3 dX10_penceOf_107 rfl rfl ?_
    obtain ⟨g15, hF⟩ := grn hF
    refine q_idiv C dX10_penceOf_108 g15 ?_
    refine q_iload C 5 dX10_penceOf_109 rfl ?_
    refine q_iload C 4 dX10_penceOf_111 rfl ?_
    refine q_icmp_ge (tgt := 120) C dX10_penceOf_113 (by decide) (fun c16 => ?_) (fun c16 => ?_)
    · replace hF := ift c16 hF
      refine q_iconst (v := 0) C dX10_penceOf_120 (by decide) ?_
      refine q_iadd C dX10_penceOf_121 ?_
      exact q_iret C hr hlk dX10_penceOf_122 hF
    · replace hF := ife c16 hF
      refine q_iconst (v := 1) C dX10_penceOf_116 (by decide) ?_
      refine q_goto (tgt := 121) C dX10_penceOf_117 (by decide) ?_
      refine q_iadd C dX10_penceOf_121 ?_
      exact q_iret C hr hlk dX10_penceOf_122 hF
  · replace hF := ift c3 hF
    refine q_iconst (v := 0) C dX10_penceOf_9 (by decide) ?_
    exact q_iret C hr hlk dX10_penceOf_10 hF
-- X10_reachedIn
def L_X10_reachedIn_10 (n : Nat) (i : Nat) : Nat → Int32 → Int64 → Int32 → PS → Option (Int64 × PS)
  | 0, _, _, _, _ => none
  | k + 1, x1, x2, x4, σ => (if x1 ≤ x4 then some (x2, σ) else (F_X10_spread n i x2 σ).bind (fun q2 => L_X10_reachedIn_10 n i k x1 (x2 ||| (q2.1 &&& ((q2.2.2 i 6) ^^^ (-1 : Int64)))) (x4 + 1) q2.2))
def F_X10_reachedIn (n : Nat) (i : Nat) (a1 : Int32) (σ : PS) : Option (Int64 × PS) := (L_X10_reachedIn_10 n i n a1 ((1 : Int64) <<< ((σ.1 i 2).toInt64 &&& 63)) (0 : Int32) σ).bind (fun o4 => some (o4.1, o4.2))
theorem gm_X10_reachedIn : gM "AskedCamp$World" yX10_reachedIn (Cond.code yX10_reachedIn cX10_reachedIn 5 (Option.some Jvm.ClassFile.FieldType.long)) 1 := ⟨by decide +kernel, tw_935, tw_936, tw_7, tw_937⟩
set_option maxHeartbeats 4000000 in
set_option maxRecDepth 100000 in
theorem l_X10_reachedIn_10 {p : Program} {l : Launch} {e : Env} {R : Room} {s : State} {m : MethodId} {args : Array Value} {below : List Frame} {meth : Method} {c : Code} {D : va_G} {ad : Nat → Nat} {ca : Nat → ClassId} {kz : Nat → Nat} {Q : State → Prop} (C : pC p s m args c cX10_reachedIn "AskedCamp$World" 5 D ad ca kz) (hR : 1 ≤ R.frames ∧ 28 ≤ R.locals) {n : Nat} {i : Nat} (hi : pis i 9) (o : Int64 × PS) (hx0 : PW p l e R s m args below meth c 5 D ad ca 0 0 Q (o.2) 39 [(2, .long o.1)] []) : ∀ (k : Nat) (x1 : Int32) (x2 : Int64) (x4 : Int32) (σ : PS), L_X10_reachedIn_10 n i k x1 x2 x4 σ = some o → PW p l e R s m args below meth c 5 D ad ca 0 0 Q σ 10 [(0, .ref (ad (i))), (1, .int x1), (2, .long x2), (4, .int x4)] [] := by
  intro k
  induction k with
  | zero => intro x1 x2 x4 σ hF; exact nomatch (show (none : Option (Int64 × PS)) = some o from hF)
  | succ k ih =>
    intro x1 x2 x4 σ hF
    rw [L_X10_reachedIn_10] at hF
    refine q_iload C 3 dX10_reachedIn_10 rfl ?_
    refine q_iload_n C 1 dX10_reachedIn_12 rfl rfl ?_
    refine q_icmp_ge (tgt := 39) C dX10_reachedIn_13 (by decide) (fun c1 => ?_) (fun c1 => ?_)
    · replace hF := ift c1 hF
      cases hF
      refine q_sub [2] rfl ?_
      exact hx0
    · replace hF := ife c1 hF
      refine q_lload_n C 2 dX10_reachedIn_16 rfl rfl ?_
      refine q_aload_n C 0 dX10_reachedIn_17 rfl rfl ?_
      refine q_lload_n C 2 dX10_reachedIn_18 rfl rfl ?_
      obtain ⟨q2, h3, hF⟩ := bnd hF
      try dsimp only at hF
      refine q_callVl C [.long x2] (c_X10_spread l D ad ca kz C.2.2.2.2.2.2.1 _ hi _ _ _ h3) tw_746 gm_X10_spread hi.1 (pe_9 hi.2) rfl ⟨rfl, rfl⟩ ⟨Nat.le_trans (Nat.le_of_ble_eq_true rfl) hR.1, Nat.le_trans (Nat.le_of_ble_eq_true rfl) hR.2⟩ rfl (Nat.le_of_ble_eq_true rfl) dX10_reachedIn_19 q00 ?_
      refine q_aload_n C 0 dX10_reachedIn_22 rfl rfl ?_
      refine qg_9_6 C hi tw_182 dX10_reachedIn_23 ?_
      refine q_ldc2 C dX10_reachedIn_26 tw_752 ?_
      refine q_lxor C dX10_reachedIn_29 ?_
      refine q_land C dX10_reachedIn_30 ?_
      refine q_lor C dX10_reachedIn_31 ?_
      refine q_lstore_n C [(2, .long (x2 ||| (q2.1 &&& ((q2.2.2 i 6) ^^^ (-1 : Int64))))), (0, .ref (ad (i))), (1, .int x1), (4, .int x4)] dX10_reachedIn_32 rfl (by decide) rfl ?_
      refine q_iinc C 3 [(4, .int (x4 + 1)), (2, .long (x2 ||| (q2.1 &&& ((q2.2.2 i 6) ^^^ (-1 : Int64))))), (0, .ref (ad (i))), (1, .int x1)] dX10_reachedIn_33 rfl rfl (by decide) rfl ?_
      refine q_goto (tgt := 10) C dX10_reachedIn_36 (by decide) ?_
      refine q_sub [2, 3, 1, 0] rfl ?_
      exact ih _ _ _ _ hF
set_option maxHeartbeats 4000000 in
set_option maxRecDepth 100000 in
theorem c_X10_reachedIn (l : Launch) (D : va_G) (ad : Nat → Nat) (ca : Nat → ClassId) (kz : Nat → Nat) (hJ : pInj ad) (n : Nat) {i : Nat} (hi : pis i 9) (a1 : Int32) (σ : PS) (out : Int64 × PS) (hF : F_X10_reachedIn n i a1 σ = some out) : Met l yX10_reachedIn (Cond.code yX10_reachedIn cX10_reachedIn 5 (Option.some Jvm.ClassFile.FieldType.long) :: gw_tbl) { frames := 1, cells := 0, slots := 0, locals := 28 } (va_Pc [.ref (ad (i)), .int a1] (pU D ad ca kz σ)) (pQl D ad ca out) 0 0 (pAD ad) := by
  refine q_entry (own := "AskedCamp$World") hJ (by decide) rfl (Nat.le_of_ble_eq_true rfl) (fun p e s m below meth c C hr hlk => ?_)
  refine q_lv [(0, .ref (ad (i))), (1, .int a1)] rfl ?_
  rw [F_X10_reachedIn] at hF
  refine q_lconst (v := 1) C dX10_reachedIn_0 (by decide) ?_
  refine q_aload_n C 0 dX10_reachedIn_1 rfl rfl ?_
  refine qg_9_2 C hi tw_163 dX10_reachedIn_2 ?_
  refine q_lshl C dX10_reachedIn_5 ?_
  refine q_lstore_n C [(2, .long ((1 : Int64) <<< ((σ.1 i 2).toInt64 &&& 63))), (0, .ref (ad (i))), (1, .int a1)] dX10_reachedIn_6 rfl (by decide) rfl ?_
  refine q_iconst (v := 0) C dX10_reachedIn_7 (by decide) ?_
  refine q_istore C [(4, .int 0), (2, .long ((1 : Int64) <<< ((σ.1 i 2).toInt64 &&& 63))), (0, .ref (ad (i))), (1, .int a1)] dX10_reachedIn_8 (by decide) rfl ?_
  obtain ⟨o4, h5, hF⟩ := bnd hF
  try dsimp only at hF
  refine q_sub [2, 3, 1, 0] rfl ?_
  refine l_X10_reachedIn_10 C ⟨Nat.le_of_ble_eq_true rfl, Nat.le_of_ble_eq_true rfl⟩ hi o4 ?_ n _ _ _ _ h5
  refine q_lload_n C 0 dX10_reachedIn_39 rfl rfl ?_
  exact q_lret C hr hlk dX10_reachedIn_40 hF
-- X10_tentsOn
def L_X10_tentsOn_4 (n : Nat) (i : Nat) : Nat → Int32 → Int32 → Int32 → PS → Option (Int32 × PS)
  | 0, _, _, _, _ => none
  | k + 1, x1, x2, x3, σ => (if (σ.1 i 5) ≤ x3 then some (x2, σ) else (if 0 ≤ x3 ∧ x3.toNatClampNeg < 6 then (if (σ.1 (i + 1) x3.toNatClampNeg) = x1 then L_X10_tentsOn_4 n i k x1 (x2 ||| ((1 : Int32) <<< (x3 &&& 31))) (x3 + 1) σ else L_X10_tentsOn_4 n i k x1 x2 (x3 + 1) σ) else none))
def F_X10_tentsOn (n : Nat) (i : Nat) (a1 : Int32) (σ : PS) : Option (Int32 × PS) := (L_X10_tentsOn_4 n i n a1 (0 : Int32) (0 : Int32) σ).bind (fun o4 => some (o4.1, o4.2))
theorem gm_X10_tentsOn : gM "AskedCamp$World" yX10_tentsOn (Cond.code yX10_tentsOn cX10_tentsOn 4 (Option.some Jvm.ClassFile.FieldType.int)) 1 := ⟨by decide +kernel, tw_680, tw_681, tw_7, tw_682⟩
set_option maxHeartbeats 4000000 in
set_option maxRecDepth 100000 in
theorem l_X10_tentsOn_4 {p : Program} {l : Launch} {e : Env} {R : Room} {s : State} {m : MethodId} {args : Array Value} {below : List Frame} {meth : Method} {c : Code} {D : va_G} {ad : Nat → Nat} {ca : Nat → ClassId} {kz : Nat → Nat} {Q : State → Prop} (C : pC p s m args c cX10_tentsOn "AskedCamp$World" 4 D ad ca kz) (hR : 0 ≤ R.frames ∧ 0 ≤ R.locals) {n : Nat} {i : Nat} (hi : pis i 9) (o : Int32 × PS) (hx0 : PW p l e R s m args below meth c 4 D ad ca 0 0 Q (o.2) 34 [(2, .int o.1)] []) : ∀ (k : Nat) (x1 : Int32) (x2 : Int32) (x3 : Int32) (σ : PS), L_X10_tentsOn_4 n i k x1 x2 x3 σ = some o → PW p l e R s m args below meth c 4 D ad ca 0 0 Q σ 4 [(0, .ref (ad (i))), (1, .int x1), (2, .int x2), (3, .int x3)] [] := by
  intro k
  induction k with
  | zero => intro x1 x2 x3 σ hF; exact nomatch (show (none : Option (Int32 × PS)) = some o from hF)
  | succ k ih =>
    intro x1 x2 x3 σ hF
    rw [L_X10_tentsOn_4] at hF
    refine q_iload_n C 3 dX10_tentsOn_4 rfl rfl ?_
    refine q_aload_n C 0 dX10_tentsOn_5 rfl rfl ?_
    refine qg_9_5 C hi tw_178 dX10_tentsOn_6 ?_
    refine q_icmp_ge (tgt := 34) C dX10_tentsOn_9 (by decide) (fun c1 => ?_) (fun c1 => ?_)
    · replace hF := ift c1 hF
      cases hF
      refine q_sub [2] rfl ?_
      exact hx0
    · replace hF := ife c1 hF
      refine q_aload_n C 0 dX10_tentsOn_12 rfl rfl ?_
      refine qg_9_7 C hi tw_187 dX10_tentsOn_13 ?_
      refine q_iload_n C 3 dX10_tentsOn_16 rfl rfl ?_
      obtain ⟨g2, hF⟩ := grd hF
      refine q_iald C (pkW hi).1 (vp_of g2) dX10_tentsOn_17 ?_
      refine q_iload_n C 1 dX10_tentsOn_18 rfl rfl ?_
      refine q_icmp_ne (tgt := 28) C dX10_tentsOn_19 (by decide) (fun c3 => ?_) (fun c3 => ?_)
      · replace hF := ife c3 hF
        refine q_iinc C 3 [(3, .int (x3 + 1)), (0, .ref (ad (i))), (1, .int x1), (2, .int x2)] dX10_tentsOn_28 rfl rfl (by decide) rfl ?_
        refine q_goto (tgt := 4) C dX10_tentsOn_31 (by decide) ?_
        refine q_sub [1, 2, 3, 0] rfl ?_
        exact ih _ _ _ _ hF
      · replace hF := ift c3 hF
        refine q_iload_n C 2 dX10_tentsOn_22 rfl rfl ?_
        refine q_iconst (v := 1) C dX10_tentsOn_23 (by decide) ?_
        refine q_iload_n C 3 dX10_tentsOn_24 rfl rfl ?_
        refine q_ishl C dX10_tentsOn_25 ?_
        refine q_ior C dX10_tentsOn_26 ?_
        refine q_istore_n C [(2, .int (x2 ||| ((1 : Int32) <<< (x3 &&& 31)))), (0, .ref (ad (i))), (1, .int x1), (3, .int x3)] dX10_tentsOn_27 rfl (by decide) rfl ?_
        refine q_iinc C 3 [(3, .int (x3 + 1)), (2, .int (x2 ||| ((1 : Int32) <<< (x3 &&& 31)))), (0, .ref (ad (i))), (1, .int x1)] dX10_tentsOn_28 rfl rfl (by decide) rfl ?_
        refine q_goto (tgt := 4) C dX10_tentsOn_31 (by decide) ?_
        refine q_sub [2, 3, 1, 0] rfl ?_
        exact ih _ _ _ _ hF
set_option maxHeartbeats 4000000 in
set_option maxRecDepth 100000 in
theorem c_X10_tentsOn (l : Launch) (D : va_G) (ad : Nat → Nat) (ca : Nat → ClassId) (kz : Nat → Nat) (hJ : pInj ad) (n : Nat) {i : Nat} (hi : pis i 9) (a1 : Int32) (σ : PS) (out : Int32 × PS) (hF : F_X10_tentsOn n i a1 σ = some out) : Met l yX10_tentsOn (Cond.code yX10_tentsOn cX10_tentsOn 4 (Option.some Jvm.ClassFile.FieldType.int) :: gw_tbl) { frames := 0, cells := 0, slots := 0, locals := 0 } (va_Pc [.ref (ad (i)), .int a1] (pU D ad ca kz σ)) (pQi D ad ca out) 0 0 (pAD ad) := by
  refine q_entry (own := "AskedCamp$World") hJ (by decide) rfl (Nat.le_of_ble_eq_true rfl) (fun p e s m below meth c C hr hlk => ?_)
  refine q_lv [(0, .ref (ad (i))), (1, .int a1)] rfl ?_
  rw [F_X10_tentsOn] at hF
  refine q_iconst (v := 0) C dX10_tentsOn_0 (by decide) ?_
  refine q_istore_n C [(2, .int 0), (0, .ref (ad (i))), (1, .int a1)] dX10_tentsOn_1 rfl (by decide) rfl ?_
  refine q_iconst (v := 0) C dX10_tentsOn_2 (by decide) ?_
  refine q_istore_n C [(3, .int 0), (2, .int 0), (0, .ref (ad (i))), (1, .int a1)] dX10_tentsOn_3 rfl (by decide) rfl ?_
  obtain ⟨o4, h5, hF⟩ := bnd hF
  try dsimp only at hF
  refine q_sub [2, 3, 1, 0] rfl ?_
  refine l_X10_tentsOn_4 C ⟨Nat.le_of_ble_eq_true rfl, Nat.le_of_ble_eq_true rfl⟩ hi o4 ?_ n _ _ _ _ h5
  refine q_iload_n C 0 dX10_tentsOn_34 rfl rfl ?_
  exact q_iret C hr hlk dX10_tentsOn_35 hF
-- X10_towards
def L_X10_towards_30 (n : Nat) (i : Nat) : Nat → Int64 → Int32 → Int32 → Int32 → PS → Option (Int32 × PS)
  | 0, _, _, _, _, _ => none
  | k + 1, x1, x3, x4, x5, σ => (if (4 : Int32) ≤ x5 then some (x3, σ) else (if 0 ≤ x5 ∧ x5.toNatClampNeg < 4 then (F_X10_passable n i (σ.1 i 2) (pTb0.getD x5.toNatClampNeg 0) σ).bind (fun q4 => (if q4.1 = (-1 : Int32) then (if (-1 : Int32) = (-1 : Int32) then L_X10_towards_30 n i k x1 x3 x4 (x5 + 1) q4.2 else (if x4 ≤ (-1 : Int32) then L_X10_towards_30 n i k x1 x3 x4 (x5 + 1) q4.2 else L_X10_towards_30 n i k x1 q4.1 (-1 : Int32) (x5 + 1) q4.2)) else (F_X10_distance n i q4.1 x1 q4.2).bind (fun q7 => (if q7.1 = (-1 : Int32) then L_X10_towards_30 n i k x1 x3 x4 (x5 + 1) q7.2 else (if x4 ≤ q7.1 then L_X10_towards_30 n i k x1 x3 x4 (x5 + 1) q7.2 else L_X10_towards_30 n i k x1 q4.1 q7.1 (x5 + 1) q7.2))))) else none))
def F_X10_towards (n : Nat) (i : Nat) (a1 : Int64) (σ : PS) : Option (Int32 × PS) := (if (lg_cmp (((1 : Int64) <<< ((σ.1 i 2).toInt64 &&& 63)) &&& a1) (0 : Int64)) = 0 then (L_X10_towards_30 n i n a1 (σ.1 i 2) (36 : Int32) (0 : Int32) σ).bind (fun o13 => some (o13.1, o13.2)) else some ((σ.1 i 2), σ))
theorem gm_X10_towards : gM "AskedCamp$World" yX10_towards (Cond.code yX10_towards cX10_towards 8 (Option.some Jvm.ClassFile.FieldType.int)) 1 := ⟨by decide +kernel, tw_798, tw_799, tw_7, tw_800⟩
set_option maxHeartbeats 4000000 in
set_option maxRecDepth 100000 in
theorem l_X10_towards_30 {p : Program} {l : Launch} {e : Env} {R : Room} {s : State} {m : MethodId} {args : Array Value} {below : List Frame} {meth : Method} {c : Code} {D : va_G} {ad : Nat → Nat} {ca : Nat → ClassId} {kz : Nat → Nat} {Q : State → Prop} (C : pC p s m args c cX10_towards "AskedCamp$World" 8 D ad ca kz) (hR : 2 ≤ R.frames ∧ 56 ≤ R.locals) {n : Nat} {i : Nat} (hi : pis i 9) (o : Int32 × PS) (hx0 : PW p l e R s m args below meth c 8 D ad ca 0 0 Q (o.2) 100 [(3, .int o.1)] []) : ∀ (k : Nat) (x1 : Int64) (x3 : Int32) (x4 : Int32) (x5 : Int32) (σ : PS), L_X10_towards_30 n i k x1 x3 x4 x5 σ = some o → PW p l e R s m args below meth c 8 D ad ca 0 0 Q σ 30 [(0, .ref (ad (i))), (1, .long x1), (3, .int x3), (4, .int x4), (5, .int x5)] [] := by
  intro k
  induction k with
  | zero => intro x1 x3 x4 x5 σ hF; exact nomatch (show (none : Option (Int32 × PS)) = some o from hF)
  | succ k ih =>
    intro x1 x3 x4 x5 σ hF
    rw [L_X10_towards_30] at hF
    refine q_iload C 4 dX10_towards_30 rfl ?_
    refine q_sn1 C dX10_towards_32 ?_
    refine q_stlen0 C dX10_towards_35 ?_
    refine q_icmp_ge (tgt := 100) C dX10_towards_36 (by decide) (fun c2 => ?_) (fun c2 => ?_)
    · replace hF := ift c2 hF
      cases hF
      refine q_sub [2] rfl ?_
      exact hx0
    · replace hF := ife c2 hF
      refine q_aload_n C 0 dX10_towards_39 rfl rfl ?_
      refine q_aload_n C 0 dX10_towards_40 rfl rfl ?_
      refine qg_9_2 C hi tw_163 dX10_towards_41 ?_
      refine q_sn1 C dX10_towards_44 ?_
      refine q_iload C 4 dX10_towards_47 rfl ?_
      obtain ⟨g3, hF⟩ := grd hF
      refine q_stald0 C (vp_of g3) dX10_towards_49 ?_
      obtain ⟨q4, h5, hF⟩ := bnd hF
      try dsimp only at hF
      refine q_callVi C [.int (σ.1 i 2), .int (pTb0.getD x5.toNatClampNeg 0)] (c_X10_passable l D ad ca kz C.2.2.2.2.2.2.1 _ hi _ _ _ _ h5) tw_802 gm_X10_passable hi.1 (pe_9 hi.2) rfl ⟨rfl, rfl⟩ ⟨Nat.le_trans (Nat.le_of_ble_eq_true rfl) hR.1, Nat.le_trans (Nat.le_of_ble_eq_true rfl) hR.2⟩ rfl (Nat.le_of_ble_eq_true rfl) dX10_towards_50 q00 ?_
      refine q_istore C [(6, .int q4.1), (0, .ref (ad (i))), (1, .long x1), (3, .int x3), (4, .int x4), (5, .int x5)] dX10_towards_53 (by decide) rfl ?_
      refine q_iload C 0 dX10_towards_55 rfl ?_
      refine q_iconst (v := -1) C dX10_towards_57 (by decide) ?_
      refine q_icmp_ne (tgt := 65) C dX10_towards_58 (by decide) (fun c6 => ?_) (fun c6 => ?_)
      · replace hF := ife c6 hF
        refine q_aload_n C 1 dX10_towards_65 rfl rfl ?_
        refine q_iload C 0 dX10_towards_66 rfl ?_
        refine q_lload_n C 2 dX10_towards_68 rfl rfl ?_
        obtain ⟨q7, h8, hF⟩ := bnd hF
        try dsimp only at hF
        refine q_callVi C [.int q4.1, .long x1] (c_X10_distance l D ad ca kz C.2.2.2.2.2.2.1 _ hi _ _ _ _ h8) tw_803 gm_X10_distance hi.1 (pe_9 hi.2) rfl ⟨rfl, rfl⟩ ⟨Nat.le_trans (Nat.le_of_ble_eq_true rfl) hR.1, Nat.le_trans (Nat.le_of_ble_eq_true rfl) hR.2⟩ rfl (Nat.le_of_ble_eq_true rfl) dX10_towards_69 q00 ?_
        refine q_istore C [(7, .int q7.1), (6, .int q4.1), (0, .ref (ad (i))), (1, .long x1), (3, .int x3), (4, .int x4), (5, .int x5)] dX10_towards_72 (by decide) rfl ?_
        refine q_iload C 0 dX10_towards_74 rfl ?_
        refine q_iconst (v := -1) C dX10_towards_76 (by decide) ?_
        refine q_icmp_eq (tgt := 94) C dX10_towards_77 (by decide) (fun c9 => ?_) (fun c9 => ?_)
        · replace hF := ift c9 hF
          refine q_iinc C 6 [(5, .int (x5 + 1)), (7, .int q7.1), (6, .int q4.1), (0, .ref (ad (i))), (1, .long x1), (3, .int x3), (4, .int x4)] dX10_towards_94 rfl rfl (by decide) rfl ?_
          refine q_goto (tgt := 30) C dX10_towards_97 (by decide) ?_
          refine q_sub [3, 4, 5, 6, 0] rfl ?_
          exact ih _ _ _ _ _ hF
        · replace hF := ife c9 hF
          refine q_iload C 0 dX10_towards_80 rfl ?_
          refine q_iload C 5 dX10_towards_82 rfl ?_
          refine q_icmp_ge (tgt := 94) C dX10_towards_84 (by decide) (fun c10 => ?_) (fun c10 => ?_)
          · replace hF := ift c10 hF
            refine q_iinc C 6 [(5, .int (x5 + 1)), (7, .int q7.1), (6, .int q4.1), (0, .ref (ad (i))), (1, .long x1), (3, .int x3), (4, .int x4)] dX10_towards_94 rfl rfl (by decide) rfl ?_
            refine q_goto (tgt := 30) C dX10_towards_97 (by decide) ?_
            refine q_sub [3, 4, 5, 6, 0] rfl ?_
            exact ih _ _ _ _ _ hF
          · replace hF := ife c10 hF
            refine q_iload C 0 dX10_towards_87 rfl ?_
            refine q_istore C [(4, .int q7.1), (7, .int q7.1), (6, .int q4.1), (0, .ref (ad (i))), (1, .long x1), (3, .int x3), (5, .int x5)] dX10_towards_89 (by decide) rfl ?_
            refine q_iload C 2 dX10_towards_91 rfl ?_
            refine q_istore_n C [(3, .int q4.1), (4, .int q7.1), (7, .int q7.1), (6, .int q4.1), (0, .ref (ad (i))), (1, .long x1), (5, .int x5)] dX10_towards_93 rfl (by decide) rfl ?_
            refine q_iinc C 6 [(5, .int (x5 + 1)), (3, .int q4.1), (4, .int q7.1), (7, .int q7.1), (6, .int q4.1), (0, .ref (ad (i))), (1, .long x1)] dX10_towards_94 rfl rfl (by decide) rfl ?_
            refine q_goto (tgt := 30) C dX10_towards_97 (by decide) ?_
            refine q_sub [5, 6, 1, 2, 0] rfl ?_
            exact ih _ _ _ _ _ hF
      · replace hF := ift c6 hF
        refine q_iconst (v := -1) C dX10_towards_61 (by decide) ?_
        refine q_goto (tgt := 72) C dX10_towards_62 (by decide) ?_
        refine q_istore C [(7, .int (-1)), (6, .int q4.1), (0, .ref (ad (i))), (1, .long x1), (3, .int x3), (4, .int x4), (5, .int x5)] dX10_towards_72 (by decide) rfl ?_
        refine q_iload C 0 dX10_towards_74 rfl ?_
        refine q_iconst (v := -1) C dX10_towards_76 (by decide) ?_
        refine q_icmp_eq (tgt := 94) C dX10_towards_77 (by decide) (fun c11 => ?_) (fun c11 => ?_)
        · replace hF := ift c11 hF
          refine q_iinc C 6 [(5, .int (x5 + 1)), (7, .int (-1)), (6, .int q4.1), (0, .ref (ad (i))), (1, .long x1), (3, .int x3), (4, .int x4)] dX10_towards_94 rfl rfl (by decide) rfl ?_
          refine q_goto (tgt := 30) C dX10_towards_97 (by decide) ?_
          refine q_sub [3, 4, 5, 6, 0] rfl ?_
          exact ih _ _ _ _ _ hF
        · replace hF := ife c11 hF
          refine q_iload C 0 dX10_towards_80 rfl ?_
          refine q_iload C 5 dX10_towards_82 rfl ?_
          refine q_icmp_ge (tgt := 94) C dX10_towards_84 (by decide) (fun c12 => ?_) (fun c12 => ?_)
          · replace hF := ift c12 hF
            refine q_iinc C 6 [(5, .int (x5 + 1)), (7, .int (-1)), (6, .int q4.1), (0, .ref (ad (i))), (1, .long x1), (3, .int x3), (4, .int x4)] dX10_towards_94 rfl rfl (by decide) rfl ?_
            refine q_goto (tgt := 30) C dX10_towards_97 (by decide) ?_
            refine q_sub [3, 4, 5, 6, 0] rfl ?_
            exact ih _ _ _ _ _ hF
          · replace hF := ife c12 hF
            refine q_iload C 0 dX10_towards_87 rfl ?_
            refine q_istore C [(4, .int (-1)), (7, .int (-1)), (6, .int q4.1), (0, .ref (ad (i))), (1, .long x1), (3, .int x3), (5, .int x5)] dX10_towards_89 (by decide) rfl ?_
            refine q_iload C 2 dX10_towards_91 rfl ?_
            refine q_istore_n C [(3, .int q4.1), (4, .int (-1)), (7, .int (-1)), (6, .int q4.1), (0, .ref (ad (i))), (1, .long x1), (5, .int x5)] dX10_towards_93 rfl (by decide) rfl ?_
            refine q_iinc C 6 [(5, .int (x5 + 1)), (3, .int q4.1), (4, .int (-1)), (7, .int (-1)), (6, .int q4.1), (0, .ref (ad (i))), (1, .long x1)] dX10_towards_94 rfl rfl (by decide) rfl ?_
            refine q_goto (tgt := 30) C dX10_towards_97 (by decide) ?_
            refine q_sub [5, 6, 1, 2, 0] rfl ?_
            exact ih _ _ _ _ _ hF
set_option maxHeartbeats 4000000 in
set_option maxRecDepth 100000 in
theorem c_X10_towards (l : Launch) (D : va_G) (ad : Nat → Nat) (ca : Nat → ClassId) (kz : Nat → Nat) (hJ : pInj ad) (n : Nat) {i : Nat} (hi : pis i 9) (a1 : Int64) (σ : PS) (out : Int32 × PS) (hF : F_X10_towards n i a1 σ = some out) : Met l yX10_towards (Cond.code yX10_towards cX10_towards 8 (Option.some Jvm.ClassFile.FieldType.int) :: gw_tbl) { frames := 2, cells := 0, slots := 0, locals := 56 } (va_Pc [.ref (ad (i)), .long a1] (pU D ad ca kz σ)) (pQi D ad ca out) 0 0 (pAD ad) := by
  refine q_entry (own := "AskedCamp$World") hJ (by decide) rfl (Nat.le_of_ble_eq_true rfl) (fun p e s m below meth c C hr hlk => ?_)
  refine q_lv [(0, .ref (ad (i))), (1, .long a1)] rfl ?_
  rw [F_X10_towards] at hF
  refine q_lconst (v := 1) C dX10_towards_0 (by decide) ?_
  refine q_aload_n C 0 dX10_towards_1 rfl rfl ?_
  refine qg_9_2 C hi tw_163 dX10_towards_2 ?_
  refine q_lshl C dX10_towards_5 ?_
  refine q_lload_n C 1 dX10_towards_6 rfl rfl ?_
  refine q_land C dX10_towards_7 ?_
  refine q_lconst (v := 0) C dX10_towards_8 (by decide) ?_
  refine q_lcmp C dX10_towards_9 ?_
  refine q_if_eq (tgt := 18) C dX10_towards_10 (by decide) (fun c1 => ?_) (fun c1 => ?_)
  · replace hF := ift c1 hF
    refine q_aload_n C 0 dX10_towards_18 rfl rfl ?_
    refine qg_9_2 C hi tw_163 dX10_towards_19 ?_
    refine q_istore_n C [(3, .int (σ.1 i 2)), (0, .ref (ad (i))), (1, .long a1)] dX10_towards_22 rfl (by decide) rfl ?_
    refine q_bipush (v := 36) C dX10_towards_23 (by decide) ?_
    refine q_istore C [(4, .int 36), (3, .int (σ.1 i 2)), (0, .ref (ad (i))), (1, .long a1)] dX10_towards_25 (by decide) rfl ?_
    refine q_iconst (v := 0) C dX10_towards_27 (by decide) ?_
    refine q_istore C [(5, .int 0), (4, .int 36), (3, .int (σ.1 i 2)), (0, .ref (ad (i))), (1, .long a1)] dX10_towards_28 (by decide) rfl ?_
    obtain ⟨o13, h14, hF⟩ := bnd hF
    try dsimp only at hF
    refine q_sub [3, 4, 2, 1, 0] rfl ?_
    refine l_X10_towards_30 C ⟨Nat.le_of_ble_eq_true rfl, Nat.le_of_ble_eq_true rfl⟩ hi o13 ?_ n _ _ _ _ _ h14
    refine q_iload_n C 0 dX10_towards_100 rfl rfl ?_
    exact q_iret C hr hlk dX10_towards_101 hF
  · replace hF := ife c1 hF
    refine q_aload_n C 0 dX10_towards_13 rfl rfl ?_
    refine qg_9_2 C hi tw_163 dX10_towards_14 ?_
    exact q_iret C hr hlk dX10_towards_17 hF
-- X4_joined
def F_X4_joined (n : Nat) (a0 : Int32) (a1 : Int64) (a3 : Int64) (σ : PS) : Option (Int64 × PS) := (if a0 = (-35 : Int32) then some ((a1 &&& a3), σ) else (if a0 = (-34 : Int32) then some ((a1 ||| a3), σ) else (if a0 = (-29 : Int32) then (if (lg_cmp a1 a3) ≤ 0 then some ((0 : Int64), σ) else some ((1 : Int64), σ)) else (if a0 = (-28 : Int32) then (if (lg_cmp a1 a3) < 0 then some ((0 : Int64), σ) else some ((1 : Int64), σ)) else (if a0 = (-27 : Int32) then (if (lg_cmp a1 a3) = 0 then some ((1 : Int64), σ) else some ((0 : Int64), σ)) else (if a0 = (-26 : Int32) then (if 0 < (lg_cmp a1 a3) then some ((0 : Int64), σ) else some ((1 : Int64), σ)) else (if a0 = (-25 : Int32) then (if 0 ≤ (lg_cmp a1 a3) then some ((0 : Int64), σ) else some ((1 : Int64), σ)) else (if a0 = (-24 : Int32) then (if (lg_cmp a3 (0 : Int64)) = 0 then some ((0 : Int64), σ) else (if a3 = 0 then none else some ((a1 - a1 / a3 * a3), σ))) else (if a0 = (-23 : Int32) then (if (lg_cmp a3 (0 : Int64)) = 0 then some ((0 : Int64), σ) else (if a3 = 0 then none else some ((a1 / a3), σ))) else (if a0 = (-22 : Int32) then some ((a1 * a3), σ) else (if a0 = (-21 : Int32) then some ((a1 - a3), σ) else (if a0 = (-20 : Int32) then some ((a1 + a3), σ) else some ((0 : Int64), σ)))))))))))))
theorem gm_X4_joined : gS yX4_joined (Cond.code yX4_joined cX4_joined 5 (Option.some Jvm.ClassFile.FieldType.long)) 3 := ⟨by decide +kernel, tw_795, tw_5, tw_796⟩
set_option maxHeartbeats 4000000 in
set_option maxRecDepth 100000 in
theorem c_X4_joined (l : Launch) (D : va_G) (ad : Nat → Nat) (ca : Nat → ClassId) (kz : Nat → Nat) (hJ : pInj ad) (n : Nat) (a0 : Int32) (a1 : Int64) (a3 : Int64) (σ : PS) (out : Int64 × PS) (hF : F_X4_joined n a0 a1 a3 σ = some out) : Met l yX4_joined (Cond.code yX4_joined cX4_joined 5 (Option.some Jvm.ClassFile.FieldType.long) :: gw_tbl) { frames := 0, cells := 0, slots := 0, locals := 0 } (va_Pc [.int a0, .long a1, .long a3] (pU D ad ca kz σ)) (pQl D ad ca out) 0 0 (pAD ad) := by
  refine q_entry (own := "AskedCamp$RuleBook") hJ (by decide) rfl (Nat.le_of_ble_eq_true rfl) (fun p e s m below meth c C hr hlk => ?_)
  refine q_lv [(0, .int a0), (1, .long a1), (3, .long a3)] rfl ?_
  rw [F_X4_joined] at hF
  refine q_iload_n C 0 dX4_joined_0 rfl rfl ?_
  by_cases c1 : a0 = (-35 : Int32)
  · replace hF := ift c1 hF
    refine q_tableIn (off := 179) (tgt := 180) C dX4_joined_1 (by rw [c1]; decide) (by rw [c1]; decide) (by rw [c1] <;> rfl) (by decide) ?_
    refine q_lload_n C 1 dX4_joined_180 rfl rfl ?_
    refine q_lload_n C 2 dX4_joined_181 rfl rfl ?_
    refine q_land C dX4_joined_182 ?_
    exact q_lret C hr hlk dX4_joined_183 hF
  replace hF := ife c1 hF
  by_cases c2 : a0 = (-34 : Int32)
  · replace hF := ift c2 hF
    refine q_tableIn (off := 183) (tgt := 184) C dX4_joined_1 (by rw [c2]; decide) (by rw [c2]; decide) (by rw [c2] <;> rfl) (by decide) ?_
    refine q_lload_n C 1 dX4_joined_184 rfl rfl ?_
    refine q_lload_n C 2 dX4_joined_185 rfl rfl ?_
    refine q_lor C dX4_joined_186 ?_
    exact q_lret C hr hlk dX4_joined_187 hF
  replace hF := ife c2 hF
  by_cases c3 : a0 = (-29 : Int32)
  · replace hF := ift c3 hF
    refine q_tableIn (off := 167) (tgt := 168) C dX4_joined_1 (by rw [c3]; decide) (by rw [c3]; decide) (by rw [c3] <;> rfl) (by decide) ?_
    refine q_lload_n C 1 dX4_joined_168 rfl rfl ?_
    refine q_lload_n C 2 dX4_joined_169 rfl rfl ?_
    refine q_lcmp C dX4_joined_170 ?_
    refine q_if_le (tgt := 178) C dX4_joined_171 (by decide) (fun c4 => ?_) (fun c4 => ?_)
    · replace hF := ift c4 hF
      refine q_lconst (v := 0) C dX4_joined_178 (by decide) ?_
      exact q_lret C hr hlk dX4_joined_179 hF
    · replace hF := ife c4 hF
      refine q_lconst (v := 1) C dX4_joined_174 (by decide) ?_
      refine q_goto (tgt := 179) C dX4_joined_175 (by decide) ?_
      exact q_lret C hr hlk dX4_joined_179 hF
  replace hF := ife c3 hF
  by_cases c5 : a0 = (-28 : Int32)
  · replace hF := ift c5 hF
    refine q_tableIn (off := 155) (tgt := 156) C dX4_joined_1 (by rw [c5]; decide) (by rw [c5]; decide) (by rw [c5] <;> rfl) (by decide) ?_
    refine q_lload_n C 1 dX4_joined_156 rfl rfl ?_
    refine q_lload_n C 2 dX4_joined_157 rfl rfl ?_
    refine q_lcmp C dX4_joined_158 ?_
    refine q_if_lt (tgt := 166) C dX4_joined_159 (by decide) (fun c6 => ?_) (fun c6 => ?_)
    · replace hF := ift c6 hF
      refine q_lconst (v := 0) C dX4_joined_166 (by decide) ?_
      exact q_lret C hr hlk dX4_joined_167 hF
    · replace hF := ife c6 hF
      refine q_lconst (v := 1) C dX4_joined_162 (by decide) ?_
      refine q_goto (tgt := 167) C dX4_joined_163 (by decide) ?_
      exact q_lret C hr hlk dX4_joined_167 hF
  replace hF := ife c5 hF
  by_cases c7 : a0 = (-27 : Int32)
  · replace hF := ift c7 hF
    refine q_tableIn (off := 143) (tgt := 144) C dX4_joined_1 (by rw [c7]; decide) (by rw [c7]; decide) (by rw [c7] <;> rfl) (by decide) ?_
    refine q_lload_n C 1 dX4_joined_144 rfl rfl ?_
    refine q_lload_n C 2 dX4_joined_145 rfl rfl ?_
    refine q_lcmp C dX4_joined_146 ?_
    refine q_if_ne (tgt := 154) C dX4_joined_147 (by decide) (fun c8 => ?_) (fun c8 => ?_)
    · replace hF := ife c8 hF
      refine q_lconst (v := 0) C dX4_joined_154 (by decide) ?_
      exact q_lret C hr hlk dX4_joined_155 hF
    · replace hF := ift c8 hF
      refine q_lconst (v := 1) C dX4_joined_150 (by decide) ?_
      refine q_goto (tgt := 155) C dX4_joined_151 (by decide) ?_
      exact q_lret C hr hlk dX4_joined_155 hF
  replace hF := ife c7 hF
  by_cases c9 : a0 = (-26 : Int32)
  · replace hF := ift c9 hF
    refine q_tableIn (off := 131) (tgt := 132) C dX4_joined_1 (by rw [c9]; decide) (by rw [c9]; decide) (by rw [c9] <;> rfl) (by decide) ?_
    refine q_lload_n C 1 dX4_joined_132 rfl rfl ?_
    refine q_lload_n C 2 dX4_joined_133 rfl rfl ?_
    refine q_lcmp C dX4_joined_134 ?_
    refine q_if_gt (tgt := 142) C dX4_joined_135 (by decide) (fun c10 => ?_) (fun c10 => ?_)
    · replace hF := ift c10 hF
      refine q_lconst (v := 0) C dX4_joined_142 (by decide) ?_
      exact q_lret C hr hlk dX4_joined_143 hF
    · replace hF := ife c10 hF
      refine q_lconst (v := 1) C dX4_joined_138 (by decide) ?_
      refine q_goto (tgt := 143) C dX4_joined_139 (by decide) ?_
      exact q_lret C hr hlk dX4_joined_143 hF
  replace hF := ife c9 hF
  by_cases c11 : a0 = (-25 : Int32)
  · replace hF := ift c11 hF
    refine q_tableIn (off := 119) (tgt := 120) C dX4_joined_1 (by rw [c11]; decide) (by rw [c11]; decide) (by rw [c11] <;> rfl) (by decide) ?_
    refine q_lload_n C 1 dX4_joined_120 rfl rfl ?_
    refine q_lload_n C 2 dX4_joined_121 rfl rfl ?_
    refine q_lcmp C dX4_joined_122 ?_
    refine q_if_ge (tgt := 130) C dX4_joined_123 (by decide) (fun c12 => ?_) (fun c12 => ?_)
    · replace hF := ift c12 hF
      refine q_lconst (v := 0) C dX4_joined_130 (by decide) ?_
      exact q_lret C hr hlk dX4_joined_131 hF
    · replace hF := ife c12 hF
      refine q_lconst (v := 1) C dX4_joined_126 (by decide) ?_
      refine q_goto (tgt := 131) C dX4_joined_127 (by decide) ?_
      exact q_lret C hr hlk dX4_joined_131 hF
  replace hF := ife c11 hF
  by_cases c13 : a0 = (-24 : Int32)
  · replace hF := ift c13 hF
    refine q_tableIn (off := 105) (tgt := 106) C dX4_joined_1 (by rw [c13]; decide) (by rw [c13]; decide) (by rw [c13] <;> rfl) (by decide) ?_
    refine q_lload_n C 2 dX4_joined_106 rfl rfl ?_
    refine q_lconst (v := 0) C dX4_joined_107 (by decide) ?_
    refine q_lcmp C dX4_joined_108 ?_
    refine q_if_ne (tgt := 116) C dX4_joined_109 (by decide) (fun c14 => ?_) (fun c14 => ?_)
    · replace hF := ife c14 hF
      refine q_lload_n C 1 dX4_joined_116 rfl rfl ?_
      refine q_lload_n C 2 dX4_joined_117 rfl rfl ?_
      obtain ⟨g15, hF⟩ := grn hF
      refine q_lrem C dX4_joined_118 g15 ?_
      exact q_lret C hr hlk dX4_joined_119 hF
    · replace hF := ift c14 hF
      refine q_lconst (v := 0) C dX4_joined_112 (by decide) ?_
      refine q_goto (tgt := 119) C dX4_joined_113 (by decide) ?_
      exact q_lret C hr hlk dX4_joined_119 hF
  replace hF := ife c13 hF
  by_cases c16 : a0 = (-23 : Int32)
  · replace hF := ift c16 hF
    refine q_tableIn (off := 91) (tgt := 92) C dX4_joined_1 (by rw [c16]; decide) (by rw [c16]; decide) (by rw [c16] <;> rfl) (by decide) ?_
    refine q_lload_n C 2 dX4_joined_92 rfl rfl ?_
    refine q_lconst (v := 0) C dX4_joined_93 (by decide) ?_
    refine q_lcmp C dX4_joined_94 ?_
    refine q_if_ne (tgt := 102) C dX4_joined_95 (by decide) (fun c17 => ?_) (fun c17 => ?_)
    · replace hF := ife c17 hF
      refine q_lload_n C 1 dX4_joined_102 rfl rfl ?_
      refine q_lload_n C 2 dX4_joined_103 rfl rfl ?_
      obtain ⟨g18, hF⟩ := grn hF
      refine q_ldiv C dX4_joined_104 g18 ?_
      exact q_lret C hr hlk dX4_joined_105 hF
    · replace hF := ift c17 hF
      refine q_lconst (v := 0) C dX4_joined_98 (by decide) ?_
      refine q_goto (tgt := 105) C dX4_joined_99 (by decide) ?_
      exact q_lret C hr hlk dX4_joined_105 hF
  replace hF := ife c16 hF
  by_cases c19 : a0 = (-22 : Int32)
  · replace hF := ift c19 hF
    refine q_tableIn (off := 87) (tgt := 88) C dX4_joined_1 (by rw [c19]; decide) (by rw [c19]; decide) (by rw [c19] <;> rfl) (by decide) ?_
    refine q_lload_n C 1 dX4_joined_88 rfl rfl ?_
    refine q_lload_n C 2 dX4_joined_89 rfl rfl ?_
    refine q_lmul C dX4_joined_90 ?_
    exact q_lret C hr hlk dX4_joined_91 hF
  replace hF := ife c19 hF
  by_cases c20 : a0 = (-21 : Int32)
  · replace hF := ift c20 hF
    refine q_tableIn (off := 83) (tgt := 84) C dX4_joined_1 (by rw [c20]; decide) (by rw [c20]; decide) (by rw [c20] <;> rfl) (by decide) ?_
    refine q_lload_n C 1 dX4_joined_84 rfl rfl ?_
    refine q_lload_n C 2 dX4_joined_85 rfl rfl ?_
    refine q_lsub C dX4_joined_86 ?_
    exact q_lret C hr hlk dX4_joined_87 hF
  replace hF := ife c20 hF
  by_cases c21 : a0 = (-20 : Int32)
  · replace hF := ift c21 hF
    refine q_tableIn (off := 79) (tgt := 80) C dX4_joined_1 (by rw [c21]; decide) (by rw [c21]; decide) (by rw [c21] <;> rfl) (by decide) ?_
    refine q_lload_n C 1 dX4_joined_80 rfl rfl ?_
    refine q_lload_n C 2 dX4_joined_81 rfl rfl ?_
    refine q_ladd C dX4_joined_82 ?_
    exact q_lret C hr hlk dX4_joined_83 hF
  replace hF := ife c21 hF
  by_cases c22 : a0 = (-33 : Int32)
  · refine q_tableIn (off := 187) (tgt := 188) C dX4_joined_1 (by rw [c22]; decide) (by rw [c22]; decide) (by rw [c22] <;> rfl) (by decide) ?_
    refine q_lconst (v := 0) C dX4_joined_188 (by decide) ?_
    exact q_lret C hr hlk dX4_joined_189 hF
  by_cases c23 : a0 = (-32 : Int32)
  · refine q_tableIn (off := 187) (tgt := 188) C dX4_joined_1 (by rw [c23]; decide) (by rw [c23]; decide) (by rw [c23] <;> rfl) (by decide) ?_
    refine q_lconst (v := 0) C dX4_joined_188 (by decide) ?_
    exact q_lret C hr hlk dX4_joined_189 hF
  by_cases c24 : a0 = (-31 : Int32)
  · refine q_tableIn (off := 187) (tgt := 188) C dX4_joined_1 (by rw [c24]; decide) (by rw [c24]; decide) (by rw [c24] <;> rfl) (by decide) ?_
    refine q_lconst (v := 0) C dX4_joined_188 (by decide) ?_
    exact q_lret C hr hlk dX4_joined_189 hF
  by_cases c25 : a0 = (-30 : Int32)
  · refine q_tableIn (off := 187) (tgt := 188) C dX4_joined_1 (by rw [c25]; decide) (by rw [c25]; decide) (by rw [c25] <;> rfl) (by decide) ?_
    refine q_lconst (v := 0) C dX4_joined_188 (by decide) ?_
    exact q_lret C hr hlk dX4_joined_189 hF
  refine q_tableOut (tgt := 188) C dX4_joined_1 (by have ec1 := sw_ne c1; have ec2 := sw_ne c2; have ec3 := sw_ne c3; have ec5 := sw_ne c5; have ec7 := sw_ne c7; have ec9 := sw_ne c9; have ec11 := sw_ne c11; have ec13 := sw_ne c13; have ec16 := sw_ne c16; have ec19 := sw_ne c19; have ec20 := sw_ne c20; have ec21 := sw_ne c21; have ec22 := sw_ne c22; have ec23 := sw_ne c23; have ec24 := sw_ne c24; have ec25 := sw_ne c25; simp only [sw_lit] at ec1 ec2 ec3 ec5 ec7 ec9 ec11 ec13 ec16 ec19 ec20 ec21 ec22 ec23 ec24 ec25; omega) (by decide) ?_
  refine q_lconst (v := 0) C dX4_joined_188 (by decide) ?_
  exact q_lret C hr hlk dX4_joined_189 hF
-- X4_pop
def F_X4_pop (n : Nat) (σ : PS) : Option (Int64 × PS) := (if 0 < (σ.1 7 5) then (if 0 ≤ ((psI σ 7 5 ((σ.1 7 5) - (1 : Int32))).1 7 5) ∧ ((psI σ 7 5 ((σ.1 7 5) - (1 : Int32))).1 7 5).toNatClampNeg < 60 then some (((psI σ 7 5 ((σ.1 7 5) - (1 : Int32))).2 17 (((psI σ 7 5 ((σ.1 7 5) - (1 : Int32))).1 7 5).toNatClampNeg)), psI σ 7 5 ((σ.1 7 5) - (1 : Int32))) else none) else some ((0 : Int64), σ))
theorem gm_X4_pop : gM "AskedCamp$RuleBook" yX4_pop (Cond.code yX4_pop cX4_pop 1 (Option.some Jvm.ClassFile.FieldType.long)) 0 := ⟨by decide +kernel, tw_792, tw_p18, tw_5, tw_793⟩
set_option maxHeartbeats 4000000 in
set_option maxRecDepth 100000 in
theorem c_X4_pop (l : Launch) (D : va_G) (ad : Nat → Nat) (ca : Nat → ClassId) (kz : Nat → Nat) (hJ : pInj ad) (n : Nat) (σ : PS) (out : Int64 × PS) (hF : F_X4_pop n σ = some out) : Met l yX4_pop (Cond.code yX4_pop cX4_pop 1 (Option.some Jvm.ClassFile.FieldType.long) :: gw_tbl) { frames := 0, cells := 0, slots := 0, locals := 0 } (va_Pc [.ref (ad (7))] (pU D ad ca kz σ)) (pQl D ad ca out) 0 0 (pAD ad) := by
  refine q_entry (own := "AskedCamp$RuleBook") hJ (by decide) rfl (Nat.le_of_ble_eq_true rfl) (fun p e s m below meth c C hr hlk => ?_)
  refine q_lv [(0, .ref (ad (7)))] rfl ?_
  rw [F_X4_pop] at hF
  refine q_aload_n C 0 dX4_pop_0 rfl rfl ?_
  refine qg_3_5 C pi_7 tw_125 dX4_pop_1 ?_
  refine q_if_gt (tgt := 9) C dX4_pop_4 (by decide) (fun c1 => ?_) (fun c1 => ?_)
  · replace hF := ift c1 hF
    refine q_aload_n C 0 dX4_pop_9 rfl rfl ?_
    refine q_dup C dX4_pop_10 rfl ?_
    refine qg_3_5 C pi_7 tw_125 dX4_pop_11 ?_
    refine q_iconst (v := 1) C dX4_pop_14 (by decide) ?_
    refine q_isub C dX4_pop_15 ?_
    refine qs_3_5 C pi_7 tw_125 dX4_pop_16 ?_
    refine q_aload_n C 0 dX4_pop_19 rfl rfl ?_
    refine qg_3_4 C pi_7 tw_124 dX4_pop_20 ?_
    refine q_aload_n C 0 dX4_pop_23 rfl rfl ?_
    refine qg_3_5 C pi_7 tw_125 dX4_pop_24 ?_
    obtain ⟨g2, hF⟩ := grd hF
    refine q_lald C pa_17 (vp_of g2) dX4_pop_27 ?_
    exact q_lret C hr hlk dX4_pop_28 hF
  · replace hF := ife c1 hF
    refine q_lconst (v := 0) C dX4_pop_7 (by decide) ?_
    exact q_lret C hr hlk dX4_pop_8 hF
-- X4_push
def F_X4_push (n : Nat) (a1 : Int64) (σ : PS) : Option (PS) := (if (Int32.ofNat 60) ≤ (σ.1 7 5) then some σ else (if 0 ≤ (σ.1 7 5) ∧ (σ.1 7 5).toNatClampNeg < 60 then some (psI (psJ σ 17 ((σ.1 7 5).toNatClampNeg) a1) 7 5 (((psJ σ 17 ((σ.1 7 5).toNatClampNeg) a1).1 7 5) + (1 : Int32))) else none))
theorem gm_X4_push : gM "AskedCamp$RuleBook" yX4_push (Cond.code yX4_push cX4_push 3 (Option.none : Option Jvm.ClassFile.FieldType)) 1 := ⟨by decide +kernel, tw_788, tw_p17, tw_5, tw_789⟩
set_option maxHeartbeats 4000000 in
set_option maxRecDepth 100000 in
theorem c_X4_push (l : Launch) (D : va_G) (ad : Nat → Nat) (ca : Nat → ClassId) (kz : Nat → Nat) (hJ : pInj ad) (n : Nat) (a1 : Int64) (σ : PS) (out : PS) (hF : F_X4_push n a1 σ = some out) : Met l yX4_push (Cond.code yX4_push cX4_push 3 (Option.none : Option Jvm.ClassFile.FieldType) :: gw_tbl) { frames := 0, cells := 0, slots := 0, locals := 0 } (va_Pc [.ref (ad (7)), .long a1] (pU D ad ca kz σ)) (pQv D ad ca out) 0 0 (pAD ad) := by
  refine q_entry (own := "AskedCamp$RuleBook") hJ (by decide) rfl (Nat.le_of_ble_eq_true rfl) (fun p e s m below meth c C hr hlk => ?_)
  refine q_lv [(0, .ref (ad (7))), (1, .long a1)] rfl ?_
  rw [F_X4_push] at hF
  refine q_aload_n C 0 dX4_push_0 rfl rfl ?_
  refine qg_3_5 C pi_7 tw_125 dX4_push_1 ?_
  refine q_aload_n C 0 dX4_push_4 rfl rfl ?_
  refine qg_3_4 C pi_7 tw_124 dX4_push_5 ?_
  refine q_alen22 C pa_17 dX4_push_8 ?_
  refine q_icmp_ge (tgt := 32) C dX4_push_9 (by decide) (fun c1 => ?_) (fun c1 => ?_)
  · replace hF := ift c1 hF
    exact q_vret C hr hlk dX4_push_32 hF
  · replace hF := ife c1 hF
    refine q_aload_n C 0 dX4_push_12 rfl rfl ?_
    refine qg_3_4 C pi_7 tw_124 dX4_push_13 ?_
    refine q_aload_n C 0 dX4_push_16 rfl rfl ?_
    refine qg_3_5 C pi_7 tw_125 dX4_push_17 ?_
    refine q_lload_n C 1 dX4_push_20 rfl rfl ?_
    obtain ⟨g2, hF⟩ := grd hF
    refine q_last C pa_17 (vp_of g2) dX4_push_21 ?_
    refine q_aload_n C 0 dX4_push_22 rfl rfl ?_
    refine q_dup C dX4_push_23 rfl ?_
    refine qg_3_5 C pi_7 tw_125 dX4_push_24 ?_
    refine q_iconst (v := 1) C dX4_push_27 (by decide) ?_
    refine q_iadd C dX4_push_28 ?_
    refine qs_3_5 C pi_7 tw_125 dX4_push_29 ?_
    exact q_vret C hr hlk dX4_push_32 hF
-- X4_valueOf
def F_X4_valueOf (n : Nat) (a2 : Nat) (a1 : Int32) (a3 : Int32) (σ : PS) : Option (Int64 × PS) := (if a1 = (-11 : Int32) then some (((σ.1 a2 3).toInt64), σ) else (if a1 = (-10 : Int32) then (F_X10_askedInAll n a2 σ).bind (fun q3 => some (q3.1.toInt64, q3.2)) else (if a1 = (-9 : Int32) then (F_J6_bitCount_0f7a4 n (σ.1 a2 4) σ).bind (fun q6 => some (q6.1.toInt64, q6.2)) else (if a1 = (-8 : Int32) then (F_X10_spread n a2 ((1 : Int64) <<< (a3.toInt64 &&& 63)) σ).bind (fun q9 => (F_J13_bitCount_95d88 n (q9.1 &&& (q9.2.2 a2 6)) q9.2).bind (fun q11 => some (q11.1.toInt64, q11.2))) else (if a1 = (-7 : Int32) then some (((σ.1 7 6).toInt64), σ) else (if a1 = (-6 : Int32) then (if 0 ≤ a3 ∧ a3.toNatClampNeg < 36 then some (((σ.1 (a2 + 5) a3.toNatClampNeg).toInt64), σ) else none) else (if a1 = (-5 : Int32) then (F_X10_leastNerveOn n a2 a3 σ).bind (fun q17 => some (q17.1.toInt64, q17.2)) else (if a1 = (-4 : Int32) then (F_X10_tentsOn n a2 a3 σ).bind (fun q20 => (F_J6_bitCount_0f7a4 n q20.1 q20.2).bind (fun q22 => some (q22.1.toInt64, q22.2))) else (if a1 = (-3 : Int32) then (F_X10_columnOf n a2 a3 σ).bind (fun q25 => some (q25.1.toInt64, q25.2)) else (if a1 = (-2 : Int32) then (F_X10_rowOf n a2 a3 σ).bind (fun q28 => some (q28.1.toInt64, q28.2)) else (if a1 = (-1 : Int32) then some (a3.toInt64, σ) else some ((0 : Int64), σ))))))))))))
theorem gm_X4_valueOf : gM "AskedCamp$RuleBook" yX4_valueOf (Cond.code yX4_valueOf cX4_valueOf 4 (Option.some Jvm.ClassFile.FieldType.long)) 3 := ⟨by decide +kernel, tw_761, tw_p16, tw_5, tw_762⟩
set_option maxHeartbeats 4000000 in
set_option maxRecDepth 100000 in
theorem c_X4_valueOf (l : Launch) (D : va_G) (ad : Nat → Nat) (ca : Nat → ClassId) (kz : Nat → Nat) (hJ : pInj ad) (n : Nat) {a2 : Nat} (ha2 : pis a2 9) (a1 : Int32) (a3 : Int32) (σ : PS) (out : Int64 × PS) (hF : F_X4_valueOf n a2 a1 a3 σ = some out) : Met l yX4_valueOf (Cond.code yX4_valueOf cX4_valueOf 4 (Option.some Jvm.ClassFile.FieldType.long) :: gw_tbl) { frames := 2, cells := 0, slots := 0, locals := 47 } (va_Pc [.ref (ad (7)), .int a1, .ref (ad (a2)), .int a3] (pU D ad ca kz σ)) (pQl D ad ca out) 0 0 (pAD ad) := by
  refine q_entry (own := "AskedCamp$RuleBook") hJ (by decide) rfl (Nat.le_of_ble_eq_true rfl) (fun p e s m below meth c C hr hlk => ?_)
  refine q_lv [(0, .ref (ad (7))), (1, .int a1), (2, .ref (ad (a2))), (3, .int a3)] rfl ?_
  rw [F_X4_valueOf] at hF
  refine q_iload_n C 1 dX4_valueOf_0 rfl rfl ?_
  by_cases c1 : a1 = (-11 : Int32)
  · replace hF := ift c1 hF
    refine q_tableIn (off := 139) (tgt := 140) C dX4_valueOf_1 (by rw [c1]; decide) (by rw [c1]; decide) (by rw [c1] <;> rfl) (by decide) ?_
    refine q_aload_n C 2 dX4_valueOf_140 rfl rfl ?_
    refine qg_9_3 C ha2 tw_172 dX4_valueOf_141 ?_
    refine q_i2l C dX4_valueOf_144 ?_
    exact q_lret C hr hlk dX4_valueOf_145 hF
  replace hF := ife c1 hF
  by_cases c2 : a1 = (-10 : Int32)
  · replace hF := ift c2 hF
    refine q_tableIn (off := 133) (tgt := 134) C dX4_valueOf_1 (by rw [c2]; decide) (by rw [c2]; decide) (by rw [c2] <;> rfl) (by decide) ?_
    refine q_aload_n C 2 dX4_valueOf_134 rfl rfl ?_
    obtain ⟨q3, h4, hF⟩ := bnd hF
    try dsimp only at hF
    refine q_callVi C [] (c_X10_askedInAll l D ad ca kz C.2.2.2.2.2.2.1 _ ha2 _ _ h4) tw_785 gm_X10_askedInAll ha2.1 (pe_9 ha2.2) rfl ⟨rfl, rfl⟩ ⟨Nat.le_of_ble_eq_true rfl, Nat.le_of_ble_eq_true rfl⟩ rfl (Nat.le_of_ble_eq_true rfl) dX4_valueOf_135 q00 ?_
    refine q_i2l C dX4_valueOf_138 ?_
    exact q_lret C hr hlk dX4_valueOf_139 hF
  replace hF := ife c2 hF
  by_cases c5 : a1 = (-9 : Int32)
  · replace hF := ift c5 hF
    refine q_tableIn (off := 124) (tgt := 125) C dX4_valueOf_1 (by rw [c5]; decide) (by rw [c5]; decide) (by rw [c5] <;> rfl) (by decide) ?_
    refine q_aload_n C 2 dX4_valueOf_125 rfl rfl ?_
    refine qg_9_4 C ha2 tw_175 dX4_valueOf_126 ?_
    obtain ⟨q6, h7, hF⟩ := bnd hF
    try dsimp only at hF
    refine q_callSi C [.int (σ.1 a2 4)] (c_J6_bitCount_0f7a4 l D ad ca kz C.2.2.2.2.2.2.1 _ _ _ _ h7) tw_772 gm_J6_bitCount_0f7a4 ⟨rfl, rfl⟩ ⟨Nat.le_of_ble_eq_true rfl, Nat.le_of_ble_eq_true rfl⟩ rfl (Nat.le_of_ble_eq_true rfl) dX4_valueOf_129 q00 ?_
    refine q_i2l C dX4_valueOf_132 ?_
    exact q_lret C hr hlk dX4_valueOf_133 hF
  replace hF := ife c5 hF
  by_cases c8 : a1 = (-8 : Int32)
  · replace hF := ift c8 hF
    refine q_tableIn (off := 107) (tgt := 108) C dX4_valueOf_1 (by rw [c8]; decide) (by rw [c8]; decide) (by rw [c8] <;> rfl) (by decide) ?_
    refine q_aload_n C 2 dX4_valueOf_108 rfl rfl ?_
    refine q_lconst (v := 1) C dX4_valueOf_109 (by decide) ?_
    refine q_iload_n C 3 dX4_valueOf_110 rfl rfl ?_
    refine q_lshl C dX4_valueOf_111 ?_
    obtain ⟨q9, h10, hF⟩ := bnd hF
    try dsimp only at hF
    refine q_callVl C [.long ((1 : Int64) <<< (a3.toInt64 &&& 63))] (c_X10_spread l D ad ca kz C.2.2.2.2.2.2.1 _ ha2 _ _ _ h10) tw_783 gm_X10_spread ha2.1 (pe_9 ha2.2) rfl ⟨rfl, rfl⟩ ⟨Nat.le_of_ble_eq_true rfl, Nat.le_of_ble_eq_true rfl⟩ rfl (Nat.le_of_ble_eq_true rfl) dX4_valueOf_112 q00 ?_
    refine q_aload_n C 2 dX4_valueOf_115 rfl rfl ?_
    refine qg_9_6 C ha2 tw_185 dX4_valueOf_116 ?_
    refine q_land C dX4_valueOf_119 ?_
    obtain ⟨q11, h12, hF⟩ := bnd hF
    try dsimp only at hF
    refine q_callSi C [.long (q9.1 &&& (q9.2.2 a2 6))] (c_J13_bitCount_95d88 l D ad ca kz C.2.2.2.2.2.2.1 _ _ _ _ h12) tw_784 gm_J13_bitCount_95d88 ⟨rfl, rfl⟩ ⟨Nat.le_of_ble_eq_true rfl, Nat.le_of_ble_eq_true rfl⟩ rfl (Nat.le_of_ble_eq_true rfl) dX4_valueOf_120 q00 ?_
    refine q_i2l C dX4_valueOf_123 ?_
    exact q_lret C hr hlk dX4_valueOf_124 hF
  replace hF := ife c8 hF
  by_cases c13 : a1 = (-7 : Int32)
  · replace hF := ift c13 hF
    refine q_tableIn (off := 101) (tgt := 102) C dX4_valueOf_1 (by rw [c13]; decide) (by rw [c13]; decide) (by rw [c13] <;> rfl) (by decide) ?_
    refine q_aload_n C 0 dX4_valueOf_102 rfl rfl ?_
    refine qg_3_6 C pi_7 tw_126 dX4_valueOf_103 ?_
    refine q_i2l C dX4_valueOf_106 ?_
    exact q_lret C hr hlk dX4_valueOf_107 hF
  replace hF := ife c13 hF
  by_cases c14 : a1 = (-6 : Int32)
  · replace hF := ift c14 hF
    refine q_tableIn (off := 93) (tgt := 94) C dX4_valueOf_1 (by rw [c14]; decide) (by rw [c14]; decide) (by rw [c14] <;> rfl) (by decide) ?_
    refine q_aload_n C 2 dX4_valueOf_94 rfl rfl ?_
    refine qg_9_11 C ha2 tw_200 dX4_valueOf_95 ?_
    refine q_iload_n C 3 dX4_valueOf_98 rfl rfl ?_
    obtain ⟨g15, hF⟩ := grd hF
    refine q_iald C (pkW ha2).2.2.2.2 (vp_of g15) dX4_valueOf_99 ?_
    refine q_i2l C dX4_valueOf_100 ?_
    exact q_lret C hr hlk dX4_valueOf_101 hF
  replace hF := ife c14 hF
  by_cases c16 : a1 = (-5 : Int32)
  · replace hF := ift c16 hF
    refine q_tableIn (off := 86) (tgt := 87) C dX4_valueOf_1 (by rw [c16]; decide) (by rw [c16]; decide) (by rw [c16] <;> rfl) (by decide) ?_
    refine q_aload_n C 2 dX4_valueOf_87 rfl rfl ?_
    refine q_iload_n C 3 dX4_valueOf_88 rfl rfl ?_
    obtain ⟨q17, h18, hF⟩ := bnd hF
    try dsimp only at hF
    refine q_callVi C [.int a3] (c_X10_leastNerveOn l D ad ca kz C.2.2.2.2.2.2.1 _ ha2 _ _ _ h18) tw_778 gm_X10_leastNerveOn ha2.1 (pe_9 ha2.2) rfl ⟨rfl, rfl⟩ ⟨Nat.le_of_ble_eq_true rfl, Nat.le_of_ble_eq_true rfl⟩ rfl (Nat.le_of_ble_eq_true rfl) dX4_valueOf_89 q00 ?_
    refine q_i2l C dX4_valueOf_92 ?_
    exact q_lret C hr hlk dX4_valueOf_93 hF
  replace hF := ife c16 hF
  by_cases c19 : a1 = (-4 : Int32)
  · replace hF := ift c19 hF
    refine q_tableIn (off := 76) (tgt := 77) C dX4_valueOf_1 (by rw [c19]; decide) (by rw [c19]; decide) (by rw [c19] <;> rfl) (by decide) ?_
    refine q_aload_n C 2 dX4_valueOf_77 rfl rfl ?_
    refine q_iload_n C 3 dX4_valueOf_78 rfl rfl ?_
    obtain ⟨q20, h21, hF⟩ := bnd hF
    try dsimp only at hF
    refine q_callVi C [.int a3] (c_X10_tentsOn l D ad ca kz C.2.2.2.2.2.2.1 _ ha2 _ _ _ h21) tw_771 gm_X10_tentsOn ha2.1 (pe_9 ha2.2) rfl ⟨rfl, rfl⟩ ⟨Nat.le_of_ble_eq_true rfl, Nat.le_of_ble_eq_true rfl⟩ rfl (Nat.le_of_ble_eq_true rfl) dX4_valueOf_79 q00 ?_
    obtain ⟨q22, h23, hF⟩ := bnd hF
    try dsimp only at hF
    refine q_callSi C [.int q20.1] (c_J6_bitCount_0f7a4 l D ad ca kz C.2.2.2.2.2.2.1 _ _ _ _ h23) tw_772 gm_J6_bitCount_0f7a4 ⟨rfl, rfl⟩ ⟨Nat.le_of_ble_eq_true rfl, Nat.le_of_ble_eq_true rfl⟩ rfl (Nat.le_of_ble_eq_true rfl) dX4_valueOf_82 q00 ?_
    refine q_i2l C dX4_valueOf_85 ?_
    exact q_lret C hr hlk dX4_valueOf_86 hF
  replace hF := ife c19 hF
  by_cases c24 : a1 = (-3 : Int32)
  · replace hF := ift c24 hF
    refine q_tableIn (off := 69) (tgt := 70) C dX4_valueOf_1 (by rw [c24]; decide) (by rw [c24]; decide) (by rw [c24] <;> rfl) (by decide) ?_
    refine q_aload_n C 2 dX4_valueOf_70 rfl rfl ?_
    refine q_iload_n C 3 dX4_valueOf_71 rfl rfl ?_
    obtain ⟨q25, h26, hF⟩ := bnd hF
    try dsimp only at hF
    refine q_callVi C [.int a3] (c_X10_columnOf l D ad ca kz C.2.2.2.2.2.2.1 _ ha2 _ _ _ h26) tw_767 gm_X10_columnOf ha2.1 (pe_9 ha2.2) rfl ⟨rfl, rfl⟩ ⟨Nat.le_of_ble_eq_true rfl, Nat.le_of_ble_eq_true rfl⟩ rfl (Nat.le_of_ble_eq_true rfl) dX4_valueOf_72 q00 ?_
    refine q_i2l C dX4_valueOf_75 ?_
    exact q_lret C hr hlk dX4_valueOf_76 hF
  replace hF := ife c24 hF
  by_cases c27 : a1 = (-2 : Int32)
  · replace hF := ift c27 hF
    refine q_tableIn (off := 62) (tgt := 63) C dX4_valueOf_1 (by rw [c27]; decide) (by rw [c27]; decide) (by rw [c27] <;> rfl) (by decide) ?_
    refine q_aload_n C 2 dX4_valueOf_63 rfl rfl ?_
    refine q_iload_n C 3 dX4_valueOf_64 rfl rfl ?_
    obtain ⟨q28, h29, hF⟩ := bnd hF
    try dsimp only at hF
    refine q_callVi C [.int a3] (c_X10_rowOf l D ad ca kz C.2.2.2.2.2.2.1 _ ha2 _ _ _ h29) tw_763 gm_X10_rowOf ha2.1 (pe_9 ha2.2) rfl ⟨rfl, rfl⟩ ⟨Nat.le_of_ble_eq_true rfl, Nat.le_of_ble_eq_true rfl⟩ rfl (Nat.le_of_ble_eq_true rfl) dX4_valueOf_65 q00 ?_
    refine q_i2l C dX4_valueOf_68 ?_
    exact q_lret C hr hlk dX4_valueOf_69 hF
  replace hF := ife c27 hF
  by_cases c30 : a1 = (-1 : Int32)
  · replace hF := ift c30 hF
    refine q_tableIn (off := 59) (tgt := 60) C dX4_valueOf_1 (by rw [c30]; decide) (by rw [c30]; decide) (by rw [c30] <;> rfl) (by decide) ?_
    refine q_iload_n C 3 dX4_valueOf_60 rfl rfl ?_
    refine q_i2l C dX4_valueOf_61 ?_
    exact q_lret C hr hlk dX4_valueOf_62 hF
  replace hF := ife c30 hF
  refine q_tableOut (tgt := 146) C dX4_valueOf_1 (by have ec1 := sw_ne c1; have ec2 := sw_ne c2; have ec5 := sw_ne c5; have ec8 := sw_ne c8; have ec13 := sw_ne c13; have ec14 := sw_ne c14; have ec16 := sw_ne c16; have ec19 := sw_ne c19; have ec24 := sw_ne c24; have ec27 := sw_ne c27; have ec30 := sw_ne c30; simp only [sw_lit] at ec1 ec2 ec5 ec8 ec13 ec14 ec16 ec19 ec24 ec27 ec30; omega) (by decide) ?_
  refine q_lconst (v := 0) C dX4_valueOf_146 (by decide) ?_
  exact q_lret C hr hlk dX4_valueOf_147 hF
-- X4_worthOf
def L_X4_worthOf_8 (n : Nat) (a2 : Nat) : Nat → Int32 → Int32 → Int32 → PS → Option (Nat × Int64 × PS)
  | 0, _, _, _, _ => none
  | k + 1, x1, x3, x4, σ => (if 0 ≤ x1 ∧ x1.toNatClampNeg < 6 then (if (σ.1 15 x1.toNatClampNeg) ≤ x4 then some (2, 0, σ) else (if 0 ≤ x4 ∧ x4.toNatClampNeg < 400 then (if (σ.1 (9 + x1.toNatClampNeg) x4.toNatClampNeg) < (-12 : Int32) then (if (σ.1 (9 + x1.toNatClampNeg) x4.toNatClampNeg) = (-40 : Int32) then some (0, 0, σ) else (if (σ.1 (9 + x1.toNatClampNeg) x4.toNatClampNeg) = (-41 : Int32) then (F_X4_pop n σ).bind (fun q23 => (if (lg_cmp q23.1 (0 : Int64)) = 0 then (F_X4_pop n q23.2).bind (fun q26 => (if (0 : Int32) = 0 then L_X4_worthOf_8 n a2 k x1 x3 (x4 + 1) q26.2 else some (1, q26.1, q26.2))) else (F_X4_pop n q23.2).bind (fun q29 => (if (1 : Int32) = 0 then L_X4_worthOf_8 n a2 k x1 x3 (x4 + 1) q29.2 else some (1, q29.1, q29.2))))) else (if (σ.1 (9 + x1.toNatClampNeg) x4.toNatClampNeg) = (-36 : Int32) then (F_X4_pop n σ).bind (fun q16 => (if (lg_cmp q16.1 (0 : Int64)) = 0 then (F_X4_push n (1 : Int64) q16.2).bind (fun q21 => L_X4_worthOf_8 n a2 k x1 x3 (x4 + 1) q21) else (F_X4_push n (0 : Int64) q16.2).bind (fun q19 => L_X4_worthOf_8 n a2 k x1 x3 (x4 + 1) q19))) else (F_X4_pop n σ).bind (fun q8 => (F_X4_pop n q8.2).bind (fun q10 => (F_X4_joined n (σ.1 (9 + x1.toNatClampNeg) x4.toNatClampNeg) q10.1 q8.1 q10.2).bind (fun q12 => (F_X4_push n q12.1 q12.2).bind (fun q14 => L_X4_worthOf_8 n a2 k x1 x3 (x4 + 1) q14))))))) else (if (σ.1 (9 + x1.toNatClampNeg) x4.toNatClampNeg) < 0 then (F_X4_valueOf n a2 (σ.1 (9 + x1.toNatClampNeg) x4.toNatClampNeg) x3 σ).bind (fun q33 => (F_X4_push n q33.1 q33.2).bind (fun q35 => L_X4_worthOf_8 n a2 k x1 x3 (x4 + 1) q35)) else (F_X4_push n ((σ.1 (9 + x1.toNatClampNeg) x4.toNatClampNeg).toInt64) σ).bind (fun q37 => L_X4_worthOf_8 n a2 k x1 x3 (x4 + 1) q37))) else none)) else none)
def F_X4_worthOf (n : Nat) (a2 : Nat) (a1 : Int32) (a3 : Int32) (σ : PS) : Option (Int64 × PS) := (L_X4_worthOf_8 n a2 n a1 a3 (0 : Int32) (psI σ 7 5 (0 : Int32))).bind (fun o39 => (if o39.1 = 0 then (F_X4_pop n o39.2.2).bind (fun q41 => some (q41.1, q41.2)) else (if o39.1 = 1 then some (o39.2.1, o39.2.2) else some ((0 : Int64), o39.2.2))))
theorem gm_X4_worthOf : gM "AskedCamp$RuleBook" yX4_worthOf (Cond.code yX4_worthOf cX4_worthOf 9 (Option.some Jvm.ClassFile.FieldType.long)) 3 := ⟨by decide +kernel, tw_757, tw_p15, tw_5, tw_758⟩
set_option maxHeartbeats 4000000 in
set_option maxRecDepth 100000 in
theorem l_X4_worthOf_8 {p : Program} {l : Launch} {e : Env} {R : Room} {s : State} {m : MethodId} {args : Array Value} {below : List Frame} {meth : Method} {c : Code} {D : va_G} {ad : Nat → Nat} {ca : Nat → ClassId} {kz : Nat → Nat} {Q : State → Prop} (C : pC p s m args c cX4_worthOf "AskedCamp$RuleBook" 9 D ad ca kz) (hR : 3 ≤ R.frames ∧ 70 ≤ R.locals) {n : Nat} {a2 : Nat} (ha2 : pis a2 9) (o : Nat × Int64 × PS) (hx0 : o.1 = 0 → PW p l e R s m args below meth c 9 D ad ca 0 0 Q (o.2.2) 70 [(0, .ref (ad (7)))] []) (hx1 : o.1 = 1 → PW p l e R s m args below meth c 9 D ad ca 0 0 Q (o.2.2) 109 [(7, .long o.2.1)] []) (hx2 : o.1 = 2 → PW p l e R s m args below meth c 9 D ad ca 0 0 Q (o.2.2) 170 [] []) : ∀ (k : Nat) (x1 : Int32) (x3 : Int32) (x4 : Int32) (σ : PS), L_X4_worthOf_8 n a2 k x1 x3 x4 σ = some o → PW p l e R s m args below meth c 9 D ad ca 0 0 Q σ 8 [(0, .ref (ad (7))), (1, .int x1), (2, .ref (ad (a2))), (3, .int x3), (4, .int x4)] [] := by
  intro k
  induction k with
  | zero => intro x1 x3 x4 σ hF; exact nomatch (show (none : Option (Nat × Int64 × PS)) = some o from hF)
  | succ k ih =>
    intro x1 x3 x4 σ hF
    rw [L_X4_worthOf_8] at hF
    refine q_iload C 4 dX4_worthOf_8 rfl ?_
    refine q_aload_n C 0 dX4_worthOf_10 rfl rfl ?_
    refine qg_3_2 C pi_7 tw_122 dX4_worthOf_11 ?_
    refine q_iload_n C 1 dX4_worthOf_14 rfl rfl ?_
    obtain ⟨g1, hF⟩ := grd hF
    refine q_iald C pa_15 (vp_of g1) dX4_worthOf_15 ?_
    refine q_icmp_ge (tgt := 170) C dX4_worthOf_16 (by decide) (fun c2 => ?_) (fun c2 => ?_)
    · replace hF := ift c2 hF
      cases hF
      refine q_sub [] rfl ?_
      exact hx2 rfl
    · replace hF := ife c2 hF
      refine q_aload_n C 0 dX4_worthOf_19 rfl rfl ?_
      refine qg_3_1 C pi_7 tw_121 dX4_worthOf_20 ?_
      refine q_iload_n C 1 dX4_worthOf_23 rfl rfl ?_
      refine q_aald26 C pa_8 (vp_of g1) dX4_worthOf_24 ?_
      refine q_iload C 4 dX4_worthOf_25 rfl ?_
      obtain ⟨g3, hF⟩ := grd hF
      refine q_iald C (pk26 (vp_lt (vp_of g1))) (vp_of g3) dX4_worthOf_27 ?_
      refine q_istore C [(5, .int (σ.1 (9 + x1.toNatClampNeg) x4.toNatClampNeg)), (0, .ref (ad (7))), (1, .int x1), (2, .ref (ad (a2))), (3, .int x3), (4, .int x4)] dX4_worthOf_28 (by decide) rfl ?_
      refine q_iload C 0 dX4_worthOf_30 rfl ?_
      refine q_bipush (v := -12) C dX4_worthOf_32 (by decide) ?_
      refine q_icmp_lt (tgt := 63) C dX4_worthOf_34 (by decide) (fun c4 => ?_) (fun c4 => ?_)
      · replace hF := ift c4 hF
        refine q_iload C 0 dX4_worthOf_63 rfl ?_
        refine q_bipush (v := -40) C dX4_worthOf_65 (by decide) ?_
        refine q_icmp_ne (tgt := 75) C dX4_worthOf_67 (by decide) (fun c5 => ?_) (fun c5 => ?_)
        · replace hF := ife c5 hF
          refine q_iload C 0 dX4_worthOf_75 rfl ?_
          refine q_bipush (v := -41) C dX4_worthOf_77 (by decide) ?_
          refine q_icmp_ne (tgt := 115) C dX4_worthOf_79 (by decide) (fun c6 => ?_) (fun c6 => ?_)
          · replace hF := ife c6 hF
            refine q_iload C 0 dX4_worthOf_115 rfl ?_
            refine q_bipush (v := -36) C dX4_worthOf_117 (by decide) ?_
            refine q_icmp_ne (tgt := 143) C dX4_worthOf_119 (by decide) (fun c7 => ?_) (fun c7 => ?_)
            · replace hF := ife c7 hF
              refine q_aload_n C 1 dX4_worthOf_143 rfl rfl ?_
              obtain ⟨q8, h9, hF⟩ := bnd hF
              try dsimp only at hF
              refine q_callVl C [] (c_X4_pop l D ad ca kz C.2.2.2.2.2.2.1 _ _ _ h9) tw_790 gm_X4_pop pi_7.1 (pe_3 pi_7.2) rfl ⟨rfl, rfl⟩ ⟨Nat.le_trans (Nat.le_of_ble_eq_true rfl) hR.1, Nat.le_trans (Nat.le_of_ble_eq_true rfl) hR.2⟩ rfl (Nat.le_of_ble_eq_true rfl) dX4_worthOf_144 q00 ?_
              refine q_lstore C [(6, .long q8.1), (5, .int (σ.1 (9 + x1.toNatClampNeg) x4.toNatClampNeg)), (0, .ref (ad (7))), (1, .int x1), (2, .ref (ad (a2))), (3, .int x3), (4, .int x4)] dX4_worthOf_147 (by decide) rfl ?_
              refine q_aload_n C 2 dX4_worthOf_149 rfl rfl ?_
              refine q_iload C 1 dX4_worthOf_150 rfl ?_
              refine q_aload_n C 2 dX4_worthOf_152 rfl rfl ?_
              obtain ⟨q10, h11, hF⟩ := bnd hF
              try dsimp only at hF
              refine q_callVl C [] (c_X4_pop l D ad ca kz C.2.2.2.2.2.2.1 _ _ _ h11) tw_790 gm_X4_pop pi_7.1 (pe_3 pi_7.2) rfl ⟨rfl, rfl⟩ ⟨Nat.le_trans (Nat.le_of_ble_eq_true rfl) hR.1, Nat.le_trans (Nat.le_of_ble_eq_true rfl) hR.2⟩ rfl (Nat.le_of_ble_eq_true rfl) dX4_worthOf_153 q00 ?_
              refine q_lload C 0 dX4_worthOf_156 rfl ?_
              obtain ⟨q12, h13, hF⟩ := bnd hF
              try dsimp only at hF
              refine q_callSl C [.int (σ.1 (9 + x1.toNatClampNeg) x4.toNatClampNeg), .long q10.1, .long q8.1] (c_X4_joined l D ad ca kz C.2.2.2.2.2.2.1 _ _ _ _ _ _ h13) tw_794 gm_X4_joined ⟨rfl, rfl⟩ ⟨Nat.le_trans (Nat.le_of_ble_eq_true rfl) hR.1, Nat.le_trans (Nat.le_of_ble_eq_true rfl) hR.2⟩ rfl (Nat.le_of_ble_eq_true rfl) dX4_worthOf_158 q00 ?_
              obtain ⟨q14, h15, hF⟩ := bnd hF
              try dsimp only at hF
              refine q_callVv C [.long q12.1] (c_X4_push l D ad ca kz C.2.2.2.2.2.2.1 _ _ _ _ h15) tw_786 gm_X4_push pi_7.1 (pe_3 pi_7.2) rfl ⟨rfl, rfl⟩ ⟨Nat.le_trans (Nat.le_of_ble_eq_true rfl) hR.1, Nat.le_trans (Nat.le_of_ble_eq_true rfl) hR.2⟩ rfl (Nat.le_of_ble_eq_true rfl) dX4_worthOf_161 q00 ?_
              refine q_iinc C 6 [(4, .int (x4 + 1)), (6, .long q8.1), (5, .int (σ.1 (9 + x1.toNatClampNeg) x4.toNatClampNeg)), (0, .ref (ad (7))), (1, .int x1), (2, .ref (ad (a2))), (3, .int x3)] dX4_worthOf_164 rfl rfl (by decide) rfl ?_
              refine q_goto (tgt := 8) C dX4_worthOf_167 (by decide) ?_
              refine q_sub [3, 4, 5, 6, 0] rfl ?_
              exact ih _ _ _ _ hF
            · replace hF := ift c7 hF
              refine q_aload_n C 1 dX4_worthOf_122 rfl rfl ?_
              refine q_aload_n C 1 dX4_worthOf_123 rfl rfl ?_
              obtain ⟨q16, h17, hF⟩ := bnd hF
              try dsimp only at hF
              refine q_callVl C [] (c_X4_pop l D ad ca kz C.2.2.2.2.2.2.1 _ _ _ h17) tw_790 gm_X4_pop pi_7.1 (pe_3 pi_7.2) rfl ⟨rfl, rfl⟩ ⟨Nat.le_trans (Nat.le_of_ble_eq_true rfl) hR.1, Nat.le_trans (Nat.le_of_ble_eq_true rfl) hR.2⟩ rfl (Nat.le_of_ble_eq_true rfl) dX4_worthOf_124 q00 ?_
              refine q_lconst (v := 0) C dX4_worthOf_127 (by decide) ?_
              refine q_lcmp C dX4_worthOf_128 ?_
              refine q_if_ne (tgt := 136) C dX4_worthOf_129 (by decide) (fun c18 => ?_) (fun c18 => ?_)
              · replace hF := ife c18 hF
                refine q_lconst (v := 0) C dX4_worthOf_136 (by decide) ?_
                obtain ⟨q19, h20, hF⟩ := bnd hF
                try dsimp only at hF
                refine q_callVv C [.long ((0 : Int64))] (c_X4_push l D ad ca kz C.2.2.2.2.2.2.1 _ _ _ _ h20) tw_786 gm_X4_push pi_7.1 (pe_3 pi_7.2) rfl ⟨rfl, rfl⟩ ⟨Nat.le_trans (Nat.le_of_ble_eq_true rfl) hR.1, Nat.le_trans (Nat.le_of_ble_eq_true rfl) hR.2⟩ rfl (Nat.le_of_ble_eq_true rfl) dX4_worthOf_137 q00 ?_
                refine q_goto (tgt := 164) C dX4_worthOf_140 (by decide) ?_
                refine q_iinc C 5 [(4, .int (x4 + 1)), (5, .int (σ.1 (9 + x1.toNatClampNeg) x4.toNatClampNeg)), (0, .ref (ad (7))), (1, .int x1), (2, .ref (ad (a2))), (3, .int x3)] dX4_worthOf_164 rfl rfl (by decide) rfl ?_
                refine q_goto (tgt := 8) C dX4_worthOf_167 (by decide) ?_
                refine q_sub [2, 3, 4, 5, 0] rfl ?_
                exact ih _ _ _ _ hF
              · replace hF := ift c18 hF
                refine q_lconst (v := 1) C dX4_worthOf_132 (by decide) ?_
                refine q_goto (tgt := 137) C dX4_worthOf_133 (by decide) ?_
                obtain ⟨q21, h22, hF⟩ := bnd hF
                try dsimp only at hF
                refine q_callVv C [.long ((1 : Int64))] (c_X4_push l D ad ca kz C.2.2.2.2.2.2.1 _ _ _ _ h22) tw_786 gm_X4_push pi_7.1 (pe_3 pi_7.2) rfl ⟨rfl, rfl⟩ ⟨Nat.le_trans (Nat.le_of_ble_eq_true rfl) hR.1, Nat.le_trans (Nat.le_of_ble_eq_true rfl) hR.2⟩ rfl (Nat.le_of_ble_eq_true rfl) dX4_worthOf_137 q00 ?_
                refine q_goto (tgt := 164) C dX4_worthOf_140 (by decide) ?_
                refine q_iinc C 5 [(4, .int (x4 + 1)), (5, .int (σ.1 (9 + x1.toNatClampNeg) x4.toNatClampNeg)), (0, .ref (ad (7))), (1, .int x1), (2, .ref (ad (a2))), (3, .int x3)] dX4_worthOf_164 rfl rfl (by decide) rfl ?_
                refine q_goto (tgt := 8) C dX4_worthOf_167 (by decide) ?_
                refine q_sub [2, 3, 4, 5, 0] rfl ?_
                exact ih _ _ _ _ hF
          · replace hF := ift c6 hF
            refine q_aload_n C 1 dX4_worthOf_82 rfl rfl ?_
            obtain ⟨q23, h24, hF⟩ := bnd hF
            try dsimp only at hF
            refine q_callVl C [] (c_X4_pop l D ad ca kz C.2.2.2.2.2.2.1 _ _ _ h24) tw_790 gm_X4_pop pi_7.1 (pe_3 pi_7.2) rfl ⟨rfl, rfl⟩ ⟨Nat.le_trans (Nat.le_of_ble_eq_true rfl) hR.1, Nat.le_trans (Nat.le_of_ble_eq_true rfl) hR.2⟩ rfl (Nat.le_of_ble_eq_true rfl) dX4_worthOf_83 q00 ?_
            refine q_lconst (v := 0) C dX4_worthOf_86 (by decide) ?_
            refine q_lcmp C dX4_worthOf_87 ?_
            refine q_if_eq (tgt := 95) C dX4_worthOf_88 (by decide) (fun c25 => ?_) (fun c25 => ?_)
            · replace hF := ift c25 hF
              refine q_iconst (v := 0) C dX4_worthOf_95 (by decide) ?_
              refine q_istore C [(6, .int 0), (5, .int (σ.1 (9 + x1.toNatClampNeg) x4.toNatClampNeg)), (0, .ref (ad (7))), (1, .int x1), (2, .ref (ad (a2))), (3, .int x3), (4, .int x4)] dX4_worthOf_96 (by decide) rfl ?_
              refine q_aload_n C 2 dX4_worthOf_98 rfl rfl ?_
              obtain ⟨q26, h27, hF⟩ := bnd hF
              try dsimp only at hF
              refine q_callVl C [] (c_X4_pop l D ad ca kz C.2.2.2.2.2.2.1 _ _ _ h27) tw_790 gm_X4_pop pi_7.1 (pe_3 pi_7.2) rfl ⟨rfl, rfl⟩ ⟨Nat.le_trans (Nat.le_of_ble_eq_true rfl) hR.1, Nat.le_trans (Nat.le_of_ble_eq_true rfl) hR.2⟩ rfl (Nat.le_of_ble_eq_true rfl) dX4_worthOf_99 q00 ?_
              refine q_lstore C [(7, .long q26.1), (6, .int 0), (5, .int (σ.1 (9 + x1.toNatClampNeg) x4.toNatClampNeg)), (0, .ref (ad (7))), (1, .int x1), (2, .ref (ad (a2))), (3, .int x3), (4, .int x4)] dX4_worthOf_102 (by decide) rfl ?_
              refine q_iload C 1 dX4_worthOf_104 rfl ?_
              refine q_if_eq (tgt := 112) C dX4_worthOf_106 (by decide) (fun c28 => ?_) (fun c28 => ?_)
              · replace hF := ift c28 hF
                refine q_goto (tgt := 164) C dX4_worthOf_112 (by decide) ?_
                refine q_iinc C 7 [(4, .int (x4 + 1)), (7, .long q26.1), (6, .int 0), (5, .int (σ.1 (9 + x1.toNatClampNeg) x4.toNatClampNeg)), (0, .ref (ad (7))), (1, .int x1), (2, .ref (ad (a2))), (3, .int x3)] dX4_worthOf_164 rfl rfl (by decide) rfl ?_
                refine q_goto (tgt := 8) C dX4_worthOf_167 (by decide) ?_
                refine q_sub [4, 5, 6, 7, 0] rfl ?_
                exact ih _ _ _ _ hF
              · replace hF := ife c28 hF
                cases hF
                refine q_sub [0] rfl ?_
                exact hx1 rfl
            · replace hF := ife c25 hF
              refine q_iconst (v := 1) C dX4_worthOf_91 (by decide) ?_
              refine q_goto (tgt := 96) C dX4_worthOf_92 (by decide) ?_
              refine q_istore C [(6, .int 1), (5, .int (σ.1 (9 + x1.toNatClampNeg) x4.toNatClampNeg)), (0, .ref (ad (7))), (1, .int x1), (2, .ref (ad (a2))), (3, .int x3), (4, .int x4)] dX4_worthOf_96 (by decide) rfl ?_
              refine q_aload_n C 2 dX4_worthOf_98 rfl rfl ?_
              obtain ⟨q29, h30, hF⟩ := bnd hF
              try dsimp only at hF
              refine q_callVl C [] (c_X4_pop l D ad ca kz C.2.2.2.2.2.2.1 _ _ _ h30) tw_790 gm_X4_pop pi_7.1 (pe_3 pi_7.2) rfl ⟨rfl, rfl⟩ ⟨Nat.le_trans (Nat.le_of_ble_eq_true rfl) hR.1, Nat.le_trans (Nat.le_of_ble_eq_true rfl) hR.2⟩ rfl (Nat.le_of_ble_eq_true rfl) dX4_worthOf_99 q00 ?_
              refine q_lstore C [(7, .long q29.1), (6, .int 1), (5, .int (σ.1 (9 + x1.toNatClampNeg) x4.toNatClampNeg)), (0, .ref (ad (7))), (1, .int x1), (2, .ref (ad (a2))), (3, .int x3), (4, .int x4)] dX4_worthOf_102 (by decide) rfl ?_
              refine q_iload C 1 dX4_worthOf_104 rfl ?_
              refine q_if_eq (tgt := 112) C dX4_worthOf_106 (by decide) (fun c31 => ?_) (fun c31 => ?_)
              · replace hF := ift c31 hF
                refine q_goto (tgt := 164) C dX4_worthOf_112 (by decide) ?_
                refine q_iinc C 7 [(4, .int (x4 + 1)), (7, .long q29.1), (6, .int 1), (5, .int (σ.1 (9 + x1.toNatClampNeg) x4.toNatClampNeg)), (0, .ref (ad (7))), (1, .int x1), (2, .ref (ad (a2))), (3, .int x3)] dX4_worthOf_164 rfl rfl (by decide) rfl ?_
                refine q_goto (tgt := 8) C dX4_worthOf_167 (by decide) ?_
                refine q_sub [4, 5, 6, 7, 0] rfl ?_
                exact ih _ _ _ _ hF
              · replace hF := ife c31 hF
                cases hF
                refine q_sub [0] rfl ?_
                exact hx1 rfl
        · replace hF := ift c5 hF
          cases hF
          refine q_sub [1] rfl ?_
          exact hx0 rfl
      · replace hF := ife c4 hF
        refine q_aload_n C 1 dX4_worthOf_37 rfl rfl ?_
        refine q_iload C 0 dX4_worthOf_38 rfl ?_
        refine q_if_lt (tgt := 49) C dX4_worthOf_40 (by decide) (fun c32 => ?_) (fun c32 => ?_)
        · replace hF := ift c32 hF
          refine q_aload_n C 1 dX4_worthOf_49 rfl rfl ?_
          refine q_iload C 0 dX4_worthOf_50 rfl ?_
          refine q_aload_n C 3 dX4_worthOf_52 rfl rfl ?_
          refine q_iload_n C 4 dX4_worthOf_53 rfl rfl ?_
          obtain ⟨q33, h34, hF⟩ := bnd hF
          try dsimp only at hF
          refine q_callVl C [.int (σ.1 (9 + x1.toNatClampNeg) x4.toNatClampNeg), .ref (ad (a2)), .int x3] (c_X4_valueOf l D ad ca kz C.2.2.2.2.2.2.1 _ ha2 _ _ _ _ h34) tw_759 gm_X4_valueOf pi_7.1 (pe_3 pi_7.2) rfl ⟨rfl, rfl⟩ ⟨Nat.le_trans (Nat.le_of_ble_eq_true rfl) hR.1, Nat.le_trans (Nat.le_of_ble_eq_true rfl) hR.2⟩ rfl (Nat.le_of_ble_eq_true rfl) dX4_worthOf_54 q00 ?_
          obtain ⟨q35, h36, hF⟩ := bnd hF
          try dsimp only at hF
          refine q_callVv C [.long q33.1] (c_X4_push l D ad ca kz C.2.2.2.2.2.2.1 _ _ _ _ h36) tw_786 gm_X4_push pi_7.1 (pe_3 pi_7.2) rfl ⟨rfl, rfl⟩ ⟨Nat.le_trans (Nat.le_of_ble_eq_true rfl) hR.1, Nat.le_trans (Nat.le_of_ble_eq_true rfl) hR.2⟩ rfl (Nat.le_of_ble_eq_true rfl) dX4_worthOf_57 q00 ?_
          refine q_goto (tgt := 164) C dX4_worthOf_60 (by decide) ?_
          refine q_iinc C 5 [(4, .int (x4 + 1)), (5, .int (σ.1 (9 + x1.toNatClampNeg) x4.toNatClampNeg)), (0, .ref (ad (7))), (1, .int x1), (2, .ref (ad (a2))), (3, .int x3)] dX4_worthOf_164 rfl rfl (by decide) rfl ?_
          refine q_goto (tgt := 8) C dX4_worthOf_167 (by decide) ?_
          refine q_sub [2, 3, 4, 5, 0] rfl ?_
          exact ih _ _ _ _ hF
        · replace hF := ife c32 hF
          refine q_iload C 0 dX4_worthOf_43 rfl ?_
          refine q_i2l C dX4_worthOf_45 ?_
          refine q_goto (tgt := 57) C dX4_worthOf_46 (by decide) ?_
          obtain ⟨q37, h38, hF⟩ := bnd hF
          try dsimp only at hF
          refine q_callVv C [.long ((σ.1 (9 + x1.toNatClampNeg) x4.toNatClampNeg).toInt64)] (c_X4_push l D ad ca kz C.2.2.2.2.2.2.1 _ _ _ _ h38) tw_786 gm_X4_push pi_7.1 (pe_3 pi_7.2) rfl ⟨rfl, rfl⟩ ⟨Nat.le_trans (Nat.le_of_ble_eq_true rfl) hR.1, Nat.le_trans (Nat.le_of_ble_eq_true rfl) hR.2⟩ rfl (Nat.le_of_ble_eq_true rfl) dX4_worthOf_57 q00 ?_
          refine q_goto (tgt := 164) C dX4_worthOf_60 (by decide) ?_
          refine q_iinc C 5 [(4, .int (x4 + 1)), (5, .int (σ.1 (9 + x1.toNatClampNeg) x4.toNatClampNeg)), (0, .ref (ad (7))), (1, .int x1), (2, .ref (ad (a2))), (3, .int x3)] dX4_worthOf_164 rfl rfl (by decide) rfl ?_
          refine q_goto (tgt := 8) C dX4_worthOf_167 (by decide) ?_
          refine q_sub [2, 3, 4, 5, 0] rfl ?_
          exact ih _ _ _ _ hF
set_option maxHeartbeats 4000000 in
set_option maxRecDepth 100000 in
theorem c_X4_worthOf (l : Launch) (D : va_G) (ad : Nat → Nat) (ca : Nat → ClassId) (kz : Nat → Nat) (hJ : pInj ad) (n : Nat) {a2 : Nat} (ha2 : pis a2 9) (a1 : Int32) (a3 : Int32) (σ : PS) (out : Int64 × PS) (hF : F_X4_worthOf n a2 a1 a3 σ = some out) : Met l yX4_worthOf (Cond.code yX4_worthOf cX4_worthOf 9 (Option.some Jvm.ClassFile.FieldType.long) :: gw_tbl) { frames := 3, cells := 0, slots := 0, locals := 70 } (va_Pc [.ref (ad (7)), .int a1, .ref (ad (a2)), .int a3] (pU D ad ca kz σ)) (pQl D ad ca out) 0 0 (pAD ad) := by
  refine q_entry (own := "AskedCamp$RuleBook") hJ (by decide) rfl (Nat.le_of_ble_eq_true rfl) (fun p e s m below meth c C hr hlk => ?_)
  refine q_lv [(0, .ref (ad (7))), (1, .int a1), (2, .ref (ad (a2))), (3, .int a3)] rfl ?_
  rw [F_X4_worthOf] at hF
  refine q_aload_n C 0 dX4_worthOf_0 rfl rfl ?_
  refine q_iconst (v := 0) C dX4_worthOf_1 (by decide) ?_
  refine qs_3_5 C pi_7 tw_125 dX4_worthOf_2 ?_
  refine q_iconst (v := 0) C dX4_worthOf_5 (by decide) ?_
  refine q_istore C [(4, .int 0), (0, .ref (ad (7))), (1, .int a1), (2, .ref (ad (a2))), (3, .int a3)] dX4_worthOf_6 (by decide) rfl ?_
  obtain ⟨o39, h40, hF⟩ := bnd hF
  try dsimp only at hF
  refine q_sub [1, 2, 3, 4, 0] rfl ?_
  refine l_X4_worthOf_8 C ⟨Nat.le_of_ble_eq_true rfl, Nat.le_of_ble_eq_true rfl⟩ ha2 o39 (fun eo39_0 => ?_) (fun eo39_1 => ?_) (fun eo39_2 => ?_) n _ _ _ _ h40
  · -- exit 0
    replace hF := ift eo39_0 hF
    refine q_aload_n C 0 dX4_worthOf_70 rfl rfl ?_
    obtain ⟨q41, h42, hF⟩ := bnd hF
    try dsimp only at hF
    refine q_callVl C [] (c_X4_pop l D ad ca kz C.2.2.2.2.2.2.1 _ _ _ h42) tw_790 gm_X4_pop pi_7.1 (pe_3 pi_7.2) rfl ⟨rfl, rfl⟩ ⟨Nat.le_of_ble_eq_true rfl, Nat.le_of_ble_eq_true rfl⟩ rfl (Nat.le_of_ble_eq_true rfl) dX4_worthOf_71 q00 ?_
    exact q_lret C hr hlk dX4_worthOf_74 hF
  · -- exit 1
    replace hF := ife (by rw [eo39_1]; decide) hF
    replace hF := ift eo39_1 hF
    refine q_lload C 0 dX4_worthOf_109 rfl ?_
    exact q_lret C hr hlk dX4_worthOf_111 hF
  · -- exit 2
    replace hF := ife (by rw [eo39_2]; decide) hF
    replace hF := ife (by rw [eo39_2]; decide) hF
    refine q_lconst (v := 0) C dX4_worthOf_170 (by decide) ?_
    exact q_lret C hr hlk dX4_worthOf_171 hF
-- X4_favourite
def L_X4_favourite_17 (n : Nat) (a1 : Nat) : Nat → Int32 → Int64 → Int32 → Int64 → Int32 → PS → Option (Int32 × PS)
  | 0, _, _, _, _, _, _ => none
  | k + 1, x2, x3, x5, x6, x8, σ => (if (4 : Int32) ≤ x8 then some (x5, σ) else (if 0 ≤ x8 ∧ x8.toNatClampNeg < 4 then (F_X10_passable n a1 (σ.1 a1 2) (pTb0.getD x8.toNatClampNeg 0) σ).bind (fun q5 => (if q5.1 = (-1 : Int32) then L_X4_favourite_17 n a1 k x2 x3 x5 x6 (x8 + 1) q5.2 else (if 0 ≤ x2 ∧ x2.toNatClampNeg < 6 then (if (q5.2.1 16 x2.toNatClampNeg) = 0 then (if (-1 : Int32) = (-1 : Int32) then (F_X4_worthOf n a1 x2 q5.1 (psI q5.2 7 6 (99 : Int32))).bind (fun q14 => (if (lg_cmp q14.1 x6) ≤ 0 then L_X4_favourite_17 n a1 k x2 x3 x5 x6 (x8 + 1) q14.2 else L_X4_favourite_17 n a1 k x2 x3 q5.1 q14.1 (x8 + 1) q14.2)) else (F_X4_worthOf n a1 x2 q5.1 (psI q5.2 7 6 (-1 : Int32))).bind (fun q11 => (if (lg_cmp q11.1 x6) ≤ 0 then L_X4_favourite_17 n a1 k x2 x3 x5 x6 (x8 + 1) q11.2 else L_X4_favourite_17 n a1 k x2 x3 q5.1 q11.1 (x8 + 1) q11.2))) else (F_X10_distance n a1 q5.1 x3 q5.2).bind (fun q17 => (if q17.1 = (-1 : Int32) then (F_X4_worthOf n a1 x2 q5.1 (psI q17.2 7 6 (99 : Int32))).bind (fun q23 => (if (lg_cmp q23.1 x6) ≤ 0 then L_X4_favourite_17 n a1 k x2 x3 x5 x6 (x8 + 1) q23.2 else L_X4_favourite_17 n a1 k x2 x3 q5.1 q23.1 (x8 + 1) q23.2)) else (F_X4_worthOf n a1 x2 q5.1 (psI q17.2 7 6 q17.1)).bind (fun q20 => (if (lg_cmp q20.1 x6) ≤ 0 then L_X4_favourite_17 n a1 k x2 x3 x5 x6 (x8 + 1) q20.2 else L_X4_favourite_17 n a1 k x2 x3 q5.1 q20.1 (x8 + 1) q20.2))))) else none))) else none))
def F_X4_favourite (n : Nat) (a1 : Nat) (a2 : Int32) (σ : PS) : Option (Int32 × PS) := (F_X10_cellsToAsk n a1 σ).bind (fun q1 => (L_X4_favourite_17 n a1 n a2 q1.1 (q1.2.1 a1 2) (0 : Int64) (0 : Int32) q1.2).bind (fun o26 => some (o26.1, o26.2)))
theorem gm_X4_favourite : gM "AskedCamp$RuleBook" yX4_favourite (Cond.code yX4_favourite cX4_favourite 13 (Option.some Jvm.ClassFile.FieldType.int)) 2 := ⟨by decide +kernel, tw_725, tw_p14, tw_5, tw_726⟩
set_option maxHeartbeats 4000000 in
set_option maxRecDepth 100000 in
theorem l_X4_favourite_17 {p : Program} {l : Launch} {e : Env} {R : Room} {s : State} {m : MethodId} {args : Array Value} {below : List Frame} {meth : Method} {c : Code} {D : va_G} {ad : Nat → Nat} {ca : Nat → ClassId} {kz : Nat → Nat} {Q : State → Prop} (C : pC p s m args c cX4_favourite "AskedCamp$RuleBook" 13 D ad ca kz) (hR : 4 ≤ R.frames ∧ 98 ≤ R.locals) {n : Nat} {a1 : Nat} (ha1 : pis a1 9) (o : Int32 × PS) (hx0 : PW p l e R s m args below meth c 13 D ad ca 0 0 Q (o.2) 122 [(5, .int o.1)] []) : ∀ (k : Nat) (x2 : Int32) (x3 : Int64) (x5 : Int32) (x6 : Int64) (x8 : Int32) (σ : PS), L_X4_favourite_17 n a1 k x2 x3 x5 x6 x8 σ = some o → PW p l e R s m args below meth c 13 D ad ca 0 0 Q σ 17 [(0, .ref (ad (7))), (1, .ref (ad (a1))), (2, .int x2), (3, .long x3), (5, .int x5), (6, .long x6), (8, .int x8)] [] := by
  intro k
  induction k with
  | zero => intro x2 x3 x5 x6 x8 σ hF; exact nomatch (show (none : Option (Int32 × PS)) = some o from hF)
  | succ k ih =>
    intro x2 x3 x5 x6 x8 σ hF
    rw [L_X4_favourite_17] at hF
    refine q_iload C 6 dX4_favourite_17 rfl ?_
    refine q_sn0 C dX4_favourite_19 ?_
    refine q_stlen0 C dX4_favourite_22 ?_
    refine q_icmp_ge (tgt := 122) C dX4_favourite_23 (by decide) (fun c3 => ?_) (fun c3 => ?_)
    · replace hF := ift c3 hF
      cases hF
      refine q_sub [4] rfl ?_
      exact hx0
    · replace hF := ife c3 hF
      refine q_aload_n C 1 dX4_favourite_26 rfl rfl ?_
      refine q_aload_n C 1 dX4_favourite_27 rfl rfl ?_
      refine qg_9_2 C ha1 tw_167 dX4_favourite_28 ?_
      refine q_sn0 C dX4_favourite_31 ?_
      refine q_iload C 6 dX4_favourite_34 rfl ?_
      obtain ⟨g4, hF⟩ := grd hF
      refine q_stald0 C (vp_of g4) dX4_favourite_36 ?_
      obtain ⟨q5, h6, hF⟩ := bnd hF
      try dsimp only at hF
      refine q_callVi C [.int (σ.1 a1 2), .int (pTb0.getD x8.toNatClampNeg 0)] (c_X10_passable l D ad ca kz C.2.2.2.2.2.2.1 _ ha1 _ _ _ _ h6) tw_733 gm_X10_passable ha1.1 (pe_9 ha1.2) rfl ⟨rfl, rfl⟩ ⟨Nat.le_trans (Nat.le_of_ble_eq_true rfl) hR.1, Nat.le_trans (Nat.le_of_ble_eq_true rfl) hR.2⟩ rfl (Nat.le_of_ble_eq_true rfl) dX4_favourite_37 q00 ?_
      refine q_istore C [(9, .int q5.1), (0, .ref (ad (7))), (1, .ref (ad (a1))), (2, .int x2), (3, .long x3), (5, .int x5), (6, .long x6), (8, .int x8)] dX4_favourite_40 (by decide) rfl ?_
      refine q_iload C 0 dX4_favourite_42 rfl ?_
      refine q_iconst (v := -1) C dX4_favourite_44 (by decide) ?_
      refine q_icmp_ne (tgt := 51) C dX4_favourite_45 (by decide) (fun c7 => ?_) (fun c7 => ?_)
      · replace hF := ife c7 hF
        refine q_aload_n C 1 dX4_favourite_51 rfl rfl ?_
        refine qg_3_3 C pi_7 tw_123 dX4_favourite_52 ?_
        refine q_iload_n C 3 dX4_favourite_55 rfl rfl ?_
        obtain ⟨g8, hF⟩ := grd hF
        refine q_zald C pa_16 (vp_of g8) dX4_favourite_56 ?_
        refine q_if_eq (tgt := 70) C dX4_favourite_57 (by decide) (fun c9 => ?_) (fun c9 => ?_)
        · replace hF := ift c9 hF
          refine q_iconst (v := -1) C dX4_favourite_70 (by decide) ?_
          refine q_istore C [(10, .int (-1)), (9, .int q5.1), (0, .ref (ad (7))), (1, .ref (ad (a1))), (2, .int x2), (3, .long x3), (5, .int x5), (6, .long x6), (8, .int x8)] dX4_favourite_71 (by decide) rfl ?_
          refine q_aload_n C 2 dX4_favourite_73 rfl rfl ?_
          refine q_iload C 0 dX4_favourite_74 rfl ?_
          refine q_iconst (v := -1) C dX4_favourite_76 (by decide) ?_
          refine q_icmp_ne (tgt := 85) C dX4_favourite_77 (by decide) (fun c10 => ?_) (fun c10 => ?_)
          · replace hF := ife c10 hF
            refine q_iload C 0 dX4_favourite_85 rfl ?_
            refine qs_3_6 C pi_7 tw_126 dX4_favourite_87 ?_
            refine q_aload_n C 2 dX4_favourite_90 rfl rfl ?_
            refine q_iload_n C 4 dX4_favourite_91 rfl rfl ?_
            refine q_aload_n C 3 dX4_favourite_92 rfl rfl ?_
            refine q_iload C 1 dX4_favourite_93 rfl ?_
            obtain ⟨q11, h12, hF⟩ := bnd hF
            try dsimp only at hF
            refine q_callVl C [.int x2, .ref (ad (a1)), .int q5.1] (c_X4_worthOf l D ad ca kz C.2.2.2.2.2.2.1 _ ha1 _ _ _ _ h12) tw_755 gm_X4_worthOf pi_7.1 (pe_3 pi_7.2) rfl ⟨rfl, rfl⟩ ⟨Nat.le_trans (Nat.le_of_ble_eq_true rfl) hR.1, Nat.le_trans (Nat.le_of_ble_eq_true rfl) hR.2⟩ rfl (Nat.le_of_ble_eq_true rfl) dX4_favourite_95 q00 ?_
            refine q_lstore C [(11, .long q11.1), (10, .int (-1)), (9, .int q5.1), (0, .ref (ad (7))), (1, .ref (ad (a1))), (2, .int x2), (3, .long x3), (5, .int x5), (6, .long x6), (8, .int x8)] dX4_favourite_98 (by decide) rfl ?_
            refine q_lload C 0 dX4_favourite_100 rfl ?_
            refine q_lload C 8 dX4_favourite_102 rfl ?_
            refine q_lcmp C dX4_favourite_104 ?_
            refine q_if_le (tgt := 116) C dX4_favourite_105 (by decide) (fun c13 => ?_) (fun c13 => ?_)
            · replace hF := ift c13 hF
              refine q_iinc C 9 [(8, .int (x8 + 1)), (11, .long q11.1), (10, .int (-1)), (9, .int q5.1), (0, .ref (ad (7))), (1, .ref (ad (a1))), (2, .int x2), (3, .long x3), (5, .int x5), (6, .long x6)] dX4_favourite_116 rfl rfl (by decide) rfl ?_
              refine q_goto (tgt := 17) C dX4_favourite_119 (by decide) ?_
              refine q_sub [4, 5, 6, 7, 8, 9, 0] rfl ?_
              exact ih _ _ _ _ _ _ hF
            · replace hF := ife c13 hF
              refine q_lload C 0 dX4_favourite_108 rfl ?_
              refine q_lstore C [(6, .long q11.1), (11, .long q11.1), (10, .int (-1)), (9, .int q5.1), (0, .ref (ad (7))), (1, .ref (ad (a1))), (2, .int x2), (3, .long x3), (5, .int x5), (8, .int x8)] dX4_favourite_110 (by decide) rfl ?_
              refine q_iload C 3 dX4_favourite_112 rfl ?_
              refine q_istore C [(5, .int q5.1), (6, .long q11.1), (11, .long q11.1), (10, .int (-1)), (9, .int q5.1), (0, .ref (ad (7))), (1, .ref (ad (a1))), (2, .int x2), (3, .long x3), (8, .int x8)] dX4_favourite_114 (by decide) rfl ?_
              refine q_iinc C 9 [(8, .int (x8 + 1)), (5, .int q5.1), (6, .long q11.1), (11, .long q11.1), (10, .int (-1)), (9, .int q5.1), (0, .ref (ad (7))), (1, .ref (ad (a1))), (2, .int x2), (3, .long x3)] dX4_favourite_116 rfl rfl (by decide) rfl ?_
              refine q_goto (tgt := 17) C dX4_favourite_119 (by decide) ?_
              refine q_sub [6, 7, 8, 9, 1, 2, 0] rfl ?_
              exact ih _ _ _ _ _ _ hF
          · replace hF := ift c10 hF
            refine q_bipush (v := 99) C dX4_favourite_80 (by decide) ?_
            refine q_goto (tgt := 87) C dX4_favourite_82 (by decide) ?_
            refine qs_3_6 C pi_7 tw_126 dX4_favourite_87 ?_
            refine q_aload_n C 2 dX4_favourite_90 rfl rfl ?_
            refine q_iload_n C 4 dX4_favourite_91 rfl rfl ?_
            refine q_aload_n C 3 dX4_favourite_92 rfl rfl ?_
            refine q_iload C 1 dX4_favourite_93 rfl ?_
            obtain ⟨q14, h15, hF⟩ := bnd hF
            try dsimp only at hF
            refine q_callVl C [.int x2, .ref (ad (a1)), .int q5.1] (c_X4_worthOf l D ad ca kz C.2.2.2.2.2.2.1 _ ha1 _ _ _ _ h15) tw_755 gm_X4_worthOf pi_7.1 (pe_3 pi_7.2) rfl ⟨rfl, rfl⟩ ⟨Nat.le_trans (Nat.le_of_ble_eq_true rfl) hR.1, Nat.le_trans (Nat.le_of_ble_eq_true rfl) hR.2⟩ rfl (Nat.le_of_ble_eq_true rfl) dX4_favourite_95 q00 ?_
            refine q_lstore C [(11, .long q14.1), (10, .int (-1)), (9, .int q5.1), (0, .ref (ad (7))), (1, .ref (ad (a1))), (2, .int x2), (3, .long x3), (5, .int x5), (6, .long x6), (8, .int x8)] dX4_favourite_98 (by decide) rfl ?_
            refine q_lload C 0 dX4_favourite_100 rfl ?_
            refine q_lload C 8 dX4_favourite_102 rfl ?_
            refine q_lcmp C dX4_favourite_104 ?_
            refine q_if_le (tgt := 116) C dX4_favourite_105 (by decide) (fun c16 => ?_) (fun c16 => ?_)
            · replace hF := ift c16 hF
              refine q_iinc C 9 [(8, .int (x8 + 1)), (11, .long q14.1), (10, .int (-1)), (9, .int q5.1), (0, .ref (ad (7))), (1, .ref (ad (a1))), (2, .int x2), (3, .long x3), (5, .int x5), (6, .long x6)] dX4_favourite_116 rfl rfl (by decide) rfl ?_
              refine q_goto (tgt := 17) C dX4_favourite_119 (by decide) ?_
              refine q_sub [4, 5, 6, 7, 8, 9, 0] rfl ?_
              exact ih _ _ _ _ _ _ hF
            · replace hF := ife c16 hF
              refine q_lload C 0 dX4_favourite_108 rfl ?_
              refine q_lstore C [(6, .long q14.1), (11, .long q14.1), (10, .int (-1)), (9, .int q5.1), (0, .ref (ad (7))), (1, .ref (ad (a1))), (2, .int x2), (3, .long x3), (5, .int x5), (8, .int x8)] dX4_favourite_110 (by decide) rfl ?_
              refine q_iload C 3 dX4_favourite_112 rfl ?_
              refine q_istore C [(5, .int q5.1), (6, .long q14.1), (11, .long q14.1), (10, .int (-1)), (9, .int q5.1), (0, .ref (ad (7))), (1, .ref (ad (a1))), (2, .int x2), (3, .long x3), (8, .int x8)] dX4_favourite_114 (by decide) rfl ?_
              refine q_iinc C 9 [(8, .int (x8 + 1)), (5, .int q5.1), (6, .long q14.1), (11, .long q14.1), (10, .int (-1)), (9, .int q5.1), (0, .ref (ad (7))), (1, .ref (ad (a1))), (2, .int x2), (3, .long x3)] dX4_favourite_116 rfl rfl (by decide) rfl ?_
              refine q_goto (tgt := 17) C dX4_favourite_119 (by decide) ?_
              refine q_sub [6, 7, 8, 9, 1, 2, 0] rfl ?_
              exact ih _ _ _ _ _ _ hF
        · replace hF := ife c9 hF
          refine q_aload_n C 2 dX4_favourite_60 rfl rfl ?_
          refine q_iload C 0 dX4_favourite_61 rfl ?_
          refine q_lload_n C 4 dX4_favourite_63 rfl rfl ?_
          obtain ⟨q17, h18, hF⟩ := bnd hF
          try dsimp only at hF
          refine q_callVi C [.int q5.1, .long x3] (c_X10_distance l D ad ca kz C.2.2.2.2.2.2.1 _ ha1 _ _ _ _ h18) tw_742 gm_X10_distance ha1.1 (pe_9 ha1.2) rfl ⟨rfl, rfl⟩ ⟨Nat.le_trans (Nat.le_of_ble_eq_true rfl) hR.1, Nat.le_trans (Nat.le_of_ble_eq_true rfl) hR.2⟩ rfl (Nat.le_of_ble_eq_true rfl) dX4_favourite_64 q00 ?_
          refine q_goto (tgt := 71) C dX4_favourite_67 (by decide) ?_
          refine q_istore C [(10, .int q17.1), (9, .int q5.1), (0, .ref (ad (7))), (1, .ref (ad (a1))), (2, .int x2), (3, .long x3), (5, .int x5), (6, .long x6), (8, .int x8)] dX4_favourite_71 (by decide) rfl ?_
          refine q_aload_n C 2 dX4_favourite_73 rfl rfl ?_
          refine q_iload C 0 dX4_favourite_74 rfl ?_
          refine q_iconst (v := -1) C dX4_favourite_76 (by decide) ?_
          refine q_icmp_ne (tgt := 85) C dX4_favourite_77 (by decide) (fun c19 => ?_) (fun c19 => ?_)
          · replace hF := ife c19 hF
            refine q_iload C 0 dX4_favourite_85 rfl ?_
            refine qs_3_6 C pi_7 tw_126 dX4_favourite_87 ?_
            refine q_aload_n C 2 dX4_favourite_90 rfl rfl ?_
            refine q_iload_n C 4 dX4_favourite_91 rfl rfl ?_
            refine q_aload_n C 3 dX4_favourite_92 rfl rfl ?_
            refine q_iload C 1 dX4_favourite_93 rfl ?_
            obtain ⟨q20, h21, hF⟩ := bnd hF
            try dsimp only at hF
            refine q_callVl C [.int x2, .ref (ad (a1)), .int q5.1] (c_X4_worthOf l D ad ca kz C.2.2.2.2.2.2.1 _ ha1 _ _ _ _ h21) tw_755 gm_X4_worthOf pi_7.1 (pe_3 pi_7.2) rfl ⟨rfl, rfl⟩ ⟨Nat.le_trans (Nat.le_of_ble_eq_true rfl) hR.1, Nat.le_trans (Nat.le_of_ble_eq_true rfl) hR.2⟩ rfl (Nat.le_of_ble_eq_true rfl) dX4_favourite_95 q00 ?_
            refine q_lstore C [(11, .long q20.1), (10, .int q17.1), (9, .int q5.1), (0, .ref (ad (7))), (1, .ref (ad (a1))), (2, .int x2), (3, .long x3), (5, .int x5), (6, .long x6), (8, .int x8)] dX4_favourite_98 (by decide) rfl ?_
            refine q_lload C 0 dX4_favourite_100 rfl ?_
            refine q_lload C 8 dX4_favourite_102 rfl ?_
            refine q_lcmp C dX4_favourite_104 ?_
            refine q_if_le (tgt := 116) C dX4_favourite_105 (by decide) (fun c22 => ?_) (fun c22 => ?_)
            · replace hF := ift c22 hF
              refine q_iinc C 9 [(8, .int (x8 + 1)), (11, .long q20.1), (10, .int q17.1), (9, .int q5.1), (0, .ref (ad (7))), (1, .ref (ad (a1))), (2, .int x2), (3, .long x3), (5, .int x5), (6, .long x6)] dX4_favourite_116 rfl rfl (by decide) rfl ?_
              refine q_goto (tgt := 17) C dX4_favourite_119 (by decide) ?_
              refine q_sub [4, 5, 6, 7, 8, 9, 0] rfl ?_
              exact ih _ _ _ _ _ _ hF
            · replace hF := ife c22 hF
              refine q_lload C 0 dX4_favourite_108 rfl ?_
              refine q_lstore C [(6, .long q20.1), (11, .long q20.1), (10, .int q17.1), (9, .int q5.1), (0, .ref (ad (7))), (1, .ref (ad (a1))), (2, .int x2), (3, .long x3), (5, .int x5), (8, .int x8)] dX4_favourite_110 (by decide) rfl ?_
              refine q_iload C 3 dX4_favourite_112 rfl ?_
              refine q_istore C [(5, .int q5.1), (6, .long q20.1), (11, .long q20.1), (10, .int q17.1), (9, .int q5.1), (0, .ref (ad (7))), (1, .ref (ad (a1))), (2, .int x2), (3, .long x3), (8, .int x8)] dX4_favourite_114 (by decide) rfl ?_
              refine q_iinc C 9 [(8, .int (x8 + 1)), (5, .int q5.1), (6, .long q20.1), (11, .long q20.1), (10, .int q17.1), (9, .int q5.1), (0, .ref (ad (7))), (1, .ref (ad (a1))), (2, .int x2), (3, .long x3)] dX4_favourite_116 rfl rfl (by decide) rfl ?_
              refine q_goto (tgt := 17) C dX4_favourite_119 (by decide) ?_
              refine q_sub [6, 7, 8, 9, 1, 2, 0] rfl ?_
              exact ih _ _ _ _ _ _ hF
          · replace hF := ift c19 hF
            refine q_bipush (v := 99) C dX4_favourite_80 (by decide) ?_
            refine q_goto (tgt := 87) C dX4_favourite_82 (by decide) ?_
            refine qs_3_6 C pi_7 tw_126 dX4_favourite_87 ?_
            refine q_aload_n C 2 dX4_favourite_90 rfl rfl ?_
            refine q_iload_n C 4 dX4_favourite_91 rfl rfl ?_
            refine q_aload_n C 3 dX4_favourite_92 rfl rfl ?_
            refine q_iload C 1 dX4_favourite_93 rfl ?_
            obtain ⟨q23, h24, hF⟩ := bnd hF
            try dsimp only at hF
            refine q_callVl C [.int x2, .ref (ad (a1)), .int q5.1] (c_X4_worthOf l D ad ca kz C.2.2.2.2.2.2.1 _ ha1 _ _ _ _ h24) tw_755 gm_X4_worthOf pi_7.1 (pe_3 pi_7.2) rfl ⟨rfl, rfl⟩ ⟨Nat.le_trans (Nat.le_of_ble_eq_true rfl) hR.1, Nat.le_trans (Nat.le_of_ble_eq_true rfl) hR.2⟩ rfl (Nat.le_of_ble_eq_true rfl) dX4_favourite_95 q00 ?_
            refine q_lstore C [(11, .long q23.1), (10, .int q17.1), (9, .int q5.1), (0, .ref (ad (7))), (1, .ref (ad (a1))), (2, .int x2), (3, .long x3), (5, .int x5), (6, .long x6), (8, .int x8)] dX4_favourite_98 (by decide) rfl ?_
            refine q_lload C 0 dX4_favourite_100 rfl ?_
            refine q_lload C 8 dX4_favourite_102 rfl ?_
            refine q_lcmp C dX4_favourite_104 ?_
            refine q_if_le (tgt := 116) C dX4_favourite_105 (by decide) (fun c25 => ?_) (fun c25 => ?_)
            · replace hF := ift c25 hF
              refine q_iinc C 9 [(8, .int (x8 + 1)), (11, .long q23.1), (10, .int q17.1), (9, .int q5.1), (0, .ref (ad (7))), (1, .ref (ad (a1))), (2, .int x2), (3, .long x3), (5, .int x5), (6, .long x6)] dX4_favourite_116 rfl rfl (by decide) rfl ?_
              refine q_goto (tgt := 17) C dX4_favourite_119 (by decide) ?_
              refine q_sub [4, 5, 6, 7, 8, 9, 0] rfl ?_
              exact ih _ _ _ _ _ _ hF
            · replace hF := ife c25 hF
              refine q_lload C 0 dX4_favourite_108 rfl ?_
              refine q_lstore C [(6, .long q23.1), (11, .long q23.1), (10, .int q17.1), (9, .int q5.1), (0, .ref (ad (7))), (1, .ref (ad (a1))), (2, .int x2), (3, .long x3), (5, .int x5), (8, .int x8)] dX4_favourite_110 (by decide) rfl ?_
              refine q_iload C 3 dX4_favourite_112 rfl ?_
              refine q_istore C [(5, .int q5.1), (6, .long q23.1), (11, .long q23.1), (10, .int q17.1), (9, .int q5.1), (0, .ref (ad (7))), (1, .ref (ad (a1))), (2, .int x2), (3, .long x3), (8, .int x8)] dX4_favourite_114 (by decide) rfl ?_
              refine q_iinc C 9 [(8, .int (x8 + 1)), (5, .int q5.1), (6, .long q23.1), (11, .long q23.1), (10, .int q17.1), (9, .int q5.1), (0, .ref (ad (7))), (1, .ref (ad (a1))), (2, .int x2), (3, .long x3)] dX4_favourite_116 rfl rfl (by decide) rfl ?_
              refine q_goto (tgt := 17) C dX4_favourite_119 (by decide) ?_
              refine q_sub [6, 7, 8, 9, 1, 2, 0] rfl ?_
              exact ih _ _ _ _ _ _ hF
      · replace hF := ift c7 hF
        refine q_goto (tgt := 116) C dX4_favourite_48 (by decide) ?_
        refine q_iinc C 7 [(8, .int (x8 + 1)), (9, .int q5.1), (0, .ref (ad (7))), (1, .ref (ad (a1))), (2, .int x2), (3, .long x3), (5, .int x5), (6, .long x6)] dX4_favourite_116 rfl rfl (by decide) rfl ?_
        refine q_goto (tgt := 17) C dX4_favourite_119 (by decide) ?_
        refine q_sub [2, 3, 4, 5, 6, 7, 0] rfl ?_
        exact ih _ _ _ _ _ _ hF
set_option maxHeartbeats 4000000 in
set_option maxRecDepth 100000 in
theorem c_X4_favourite (l : Launch) (D : va_G) (ad : Nat → Nat) (ca : Nat → ClassId) (kz : Nat → Nat) (hJ : pInj ad) (n : Nat) {a1 : Nat} (ha1 : pis a1 9) (a2 : Int32) (σ : PS) (out : Int32 × PS) (hF : F_X4_favourite n a1 a2 σ = some out) : Met l yX4_favourite (Cond.code yX4_favourite cX4_favourite 13 (Option.some Jvm.ClassFile.FieldType.int) :: gw_tbl) { frames := 4, cells := 0, slots := 0, locals := 98 } (va_Pc [.ref (ad (7)), .ref (ad (a1)), .int a2] (pU D ad ca kz σ)) (pQi D ad ca out) 0 0 (pAD ad) := by
  refine q_entry (own := "AskedCamp$RuleBook") hJ (by decide) rfl (Nat.le_of_ble_eq_true rfl) (fun p e s m below meth c C hr hlk => ?_)
  refine q_lv [(0, .ref (ad (7))), (1, .ref (ad (a1))), (2, .int a2)] rfl ?_
  rw [F_X4_favourite] at hF
  refine q_aload_n C 1 dX4_favourite_0 rfl rfl ?_
  obtain ⟨q1, h2, hF⟩ := bnd hF
  try dsimp only at hF
  refine q_callVl C [] (c_X10_cellsToAsk l D ad ca kz C.2.2.2.2.2.2.1 _ ha1 _ _ h2) tw_727 gm_X10_cellsToAsk ha1.1 (pe_9 ha1.2) rfl ⟨rfl, rfl⟩ ⟨Nat.le_of_ble_eq_true rfl, Nat.le_of_ble_eq_true rfl⟩ rfl (Nat.le_of_ble_eq_true rfl) dX4_favourite_1 q00 ?_
  refine q_lstore_n C [(3, .long q1.1), (0, .ref (ad (7))), (1, .ref (ad (a1))), (2, .int a2)] dX4_favourite_4 rfl (by decide) rfl ?_
  refine q_aload_n C 2 dX4_favourite_5 rfl rfl ?_
  refine qg_9_2 C ha1 tw_167 dX4_favourite_6 ?_
  refine q_istore C [(5, .int (q1.2.1 a1 2)), (3, .long q1.1), (0, .ref (ad (7))), (1, .ref (ad (a1))), (2, .int a2)] dX4_favourite_9 (by decide) rfl ?_
  refine q_lconst (v := 0) C dX4_favourite_11 (by decide) ?_
  refine q_lstore C [(6, .long ((0 : Int64))), (5, .int (q1.2.1 a1 2)), (3, .long q1.1), (0, .ref (ad (7))), (1, .ref (ad (a1))), (2, .int a2)] dX4_favourite_12 (by decide) rfl ?_
  refine q_iconst (v := 0) C dX4_favourite_14 (by decide) ?_
  refine q_istore C [(8, .int 0), (6, .long ((0 : Int64))), (5, .int (q1.2.1 a1 2)), (3, .long q1.1), (0, .ref (ad (7))), (1, .ref (ad (a1))), (2, .int a2)] dX4_favourite_15 (by decide) rfl ?_
  obtain ⟨o26, h27, hF⟩ := bnd hF
  try dsimp only at hF
  refine q_sub [4, 5, 6, 3, 2, 1, 0] rfl ?_
  refine l_X4_favourite_17 C ⟨Nat.le_of_ble_eq_true rfl, Nat.le_of_ble_eq_true rfl⟩ ha1 o26 ?_ n _ _ _ _ _ _ h27
  refine q_iload C 0 dX4_favourite_122 rfl ?_
  exact q_iret C hr hlk dX4_favourite_124 hF
