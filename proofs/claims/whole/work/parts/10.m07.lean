-- X2_blow
def L_X2_blow_51 (n : Nat) (a1 : Nat) : Nat → Int32 → Int32 → Int32 → Int32 → Int32 → Int32 → PS → Option (Int32 × Int32 × Int32 × Int32 × Int32 × PS)
  | 0, _, _, _, _, _, _, _ => none
  | k + 1, x2, x3, x4, x5, x6, x7, σ => (if x3 ≤ x7 then some (x2, x3, x4, x5, x6, σ) else (F_X2_drift n x4 σ).bind (fun q7 => (F_X4_stride n 217 (q7.1 a1 5) (1 : Int32) q7).bind (fun q9 => L_X2_blow_51 n a1 k x2 x3 x4 x5 x6 (x7 + 1) q9)))
def L_X2_blow_31 (n : Nat) (a1 : Nat) : Nat → Int32 → Int32 → Int32 → Int32 → Int32 → PS → Option (PS)
  | 0, _, _, _, _, _, _ => none
  | k + 1, x2, x3, x4, x5, x6, σ => (if x2 ≤ x6 then some σ else (F_X10_copyFrom n 217 (a1 + 7) σ).bind (fun q4 => (L_X2_blow_51 n a1 n x2 x3 x4 x5 x6 (0 : Int32) q4).bind (fun o6 => (F_X10_askedInAll n 217 o6.2.2.2.2.2).bind (fun q8 => (F_J6_bitCount_0f7a4 n ((psI q8.2 216 4 ((o6.2.2.2.2.2.1 216 4) + (q8.1 - o6.2.2.2.1))).1 217 4) (psI q8.2 216 4 ((o6.2.2.2.2.2.1 216 4) + (q8.1 - o6.2.2.2.1)))).bind (fun q10 => L_X2_blow_31 n a1 k o6.1 o6.2.1 o6.2.2.1 o6.2.2.2.1 (o6.2.2.2.2.1 + 1) (psI q10.2 216 5 (((psI q8.2 216 4 ((o6.2.2.2.2.2.1 216 4) + (q8.1 - o6.2.2.2.1))).1 216 5) + q10.1)))))))
def F_X2_blow (n : Nat) (a1 : Nat) (a2 : Int32) (a3 : Int32) (a4 : Int32) (σ : PS) : Option (PS) := (F_X10_askedInAll n (a1 + 7) (psI (psI (psJ σ 216 6 ((σ.1 a1 6).toInt64)) 216 4 (0 : Int32)) 216 5 (0 : Int32))).bind (fun q1 => (L_X2_blow_31 n a1 n a2 a3 a4 q1.1 (0 : Int32) q1.2).bind (fun o12 => some o12))
theorem gm_X2_blow : gM "AskedCamp$Foresight" yX2_blow (Cond.code yX2_blow cX2_blow 8 (Option.none : Option Jvm.ClassFile.FieldType)) 4 := ⟨by decide +kernel, tw_904, tw_905, tw_9, tw_906⟩
set_option maxHeartbeats 4000000 in
set_option maxRecDepth 100000 in
theorem l_X2_blow_51 {p : Program} {l : Launch} {e : Env} {R : Room} {s : State} {m : MethodId} {args : Array Value} {below : List Frame} {meth : Method} {c : Code} {D : va_G} {ad : Nat → Nat} {ca : Nat → ClassId} {kz : Nat → Nat} {Q : State → Prop} (C : pC p s m args c cX2_blow "AskedCamp$Foresight" 8 D ad ca kz) (hR : 6 ≤ R.frames ∧ 154 ≤ R.locals) {n : Nat} {a1 : Nat} (ha1 : pis a1 5) (o : Int32 × Int32 × Int32 × Int32 × Int32 × PS) (hx0 : PW p l e R s m args below meth c 8 D ad ca 0 0 Q (o.2.2.2.2.2) 85 [(0, .ref (ad (216))), (1, .ref (ad (a1))), (2, .int o.1), (3, .int o.2.1), (4, .int o.2.2.1), (5, .int o.2.2.2.1), (6, .int o.2.2.2.2.1)] []) : ∀ (k : Nat) (x2 : Int32) (x3 : Int32) (x4 : Int32) (x5 : Int32) (x6 : Int32) (x7 : Int32) (σ : PS), L_X2_blow_51 n a1 k x2 x3 x4 x5 x6 x7 σ = some o → PW p l e R s m args below meth c 8 D ad ca 0 0 Q σ 51 [(0, .ref (ad (216))), (1, .ref (ad (a1))), (2, .int x2), (3, .int x3), (4, .int x4), (5, .int x5), (6, .int x6), (7, .int x7)] [] := by
  intro k
  induction k with
  | zero => intro x2 x3 x4 x5 x6 x7 σ hF; exact nomatch (show (none : Option (Int32 × Int32 × Int32 × Int32 × Int32 × PS)) = some o from hF)
  | succ k ih =>
    intro x2 x3 x4 x5 x6 x7 σ hF
    rw [L_X2_blow_51] at hF
    refine q_iload C 7 dX2_blow_51 rfl ?_
    refine q_iload_n C 3 dX2_blow_53 rfl rfl ?_
    refine q_icmp_ge (tgt := 85) C dX2_blow_54 (by decide) (fun c6 => ?_) (fun c6 => ?_)
    · replace hF := ift c6 hF
      cases hF
      refine q_sub [0, 1, 2, 3, 4, 5, 6] rfl ?_
      exact hx0
    · replace hF := ife c6 hF
      refine q_aload_n C 0 dX2_blow_57 rfl rfl ?_
      refine q_iload C 4 dX2_blow_58 rfl ?_
      obtain ⟨q7, h8, hF⟩ := bnd hF
      try dsimp only at hF
      refine q_callVv C [.int x4] (c_X2_drift l D ad ca kz C.2.2.2.2.2.2.1 _ _ _ _ h8) tw_908 gm_X2_drift pi_216.1 (pe_2 pi_216.2) rfl ⟨rfl, rfl⟩ ⟨Nat.le_trans (Nat.le_of_ble_eq_true rfl) hR.1, Nat.le_trans (Nat.le_of_ble_eq_true rfl) hR.2⟩ rfl (Nat.le_of_ble_eq_true rfl) dX2_blow_60 q00 ?_
      refine q_aload_n C 0 dX2_blow_63 rfl rfl ?_
      refine qg_2_1 C pi_216 tw_295 dX2_blow_64 ?_
      refine q_aload_n C 0 dX2_blow_67 rfl rfl ?_
      refine qg_2_0 C pi_216 tw_293 dX2_blow_68 ?_
      refine q_aload_n C 1 dX2_blow_71 rfl rfl ?_
      refine qg_5_5 C ha1 tw_241 dX2_blow_72 ?_
      refine q_iconst (v := 1) C dX2_blow_75 (by decide) ?_
      obtain ⟨q9, h10, hF⟩ := bnd hF
      try dsimp only at hF
      refine q_callVv C [.ref (ad (217)), .int (q7.1 a1 5), .int 1] (c_X4_stride l D ad ca kz C.2.2.2.2.2.2.1 _ pi_217 _ _ _ _ h10) tw_844 gm_X4_stride pi_7.1 (pe_3 pi_7.2) rfl ⟨rfl, rfl⟩ ⟨Nat.le_trans (Nat.le_of_ble_eq_true rfl) hR.1, Nat.le_trans (Nat.le_of_ble_eq_true rfl) hR.2⟩ rfl (Nat.le_of_ble_eq_true rfl) dX2_blow_76 q00 ?_
      refine q_iinc C 7 [(7, .int (x7 + 1)), (0, .ref (ad (216))), (1, .ref (ad (a1))), (2, .int x2), (3, .int x3), (4, .int x4), (5, .int x5), (6, .int x6)] dX2_blow_79 rfl rfl (by decide) rfl ?_
      refine q_goto (tgt := 51) C dX2_blow_82 (by decide) ?_
      refine q_sub [1, 2, 3, 4, 5, 6, 7, 0] rfl ?_
      exact ih _ _ _ _ _ _ _ hF
set_option maxHeartbeats 4000000 in
set_option maxRecDepth 100000 in
theorem l_X2_blow_31 {p : Program} {l : Launch} {e : Env} {R : Room} {s : State} {m : MethodId} {args : Array Value} {below : List Frame} {meth : Method} {c : Code} {D : va_G} {ad : Nat → Nat} {ca : Nat → ClassId} {kz : Nat → Nat} {Q : State → Prop} (C : pC p s m args c cX2_blow "AskedCamp$Foresight" 8 D ad ca kz) (hR : 6 ≤ R.frames ∧ 154 ≤ R.locals) {n : Nat} {a1 : Nat} (ha1 : pis a1 5) (o : PS) (hx0 : PW p l e R s m args below meth c 8 D ad ca 0 0 Q (o) 129 [] []) : ∀ (k : Nat) (x2 : Int32) (x3 : Int32) (x4 : Int32) (x5 : Int32) (x6 : Int32) (σ : PS), L_X2_blow_31 n a1 k x2 x3 x4 x5 x6 σ = some o → PW p l e R s m args below meth c 8 D ad ca 0 0 Q σ 31 [(0, .ref (ad (216))), (1, .ref (ad (a1))), (2, .int x2), (3, .int x3), (4, .int x4), (5, .int x5), (6, .int x6)] [] := by
  intro k
  induction k with
  | zero => intro x2 x3 x4 x5 x6 σ hF; exact nomatch (show (none : Option (PS)) = some o from hF)
  | succ k ih =>
    intro x2 x3 x4 x5 x6 σ hF
    rw [L_X2_blow_31] at hF
    refine q_iload C 6 dX2_blow_31 rfl ?_
    refine q_iload_n C 2 dX2_blow_33 rfl rfl ?_
    refine q_icmp_ge (tgt := 129) C dX2_blow_34 (by decide) (fun c3 => ?_) (fun c3 => ?_)
    · replace hF := ift c3 hF
      cases hF
      refine q_sub [] rfl ?_
      exact hx0
    · replace hF := ife c3 hF
      refine q_aload_n C 0 dX2_blow_37 rfl rfl ?_
      refine qg_2_0 C pi_216 tw_293 dX2_blow_38 ?_
      refine q_aload_n C 1 dX2_blow_41 rfl rfl ?_
      refine qg_5_1 C ha1 tw_231 dX2_blow_42 ?_
      obtain ⟨q4, h5, hF⟩ := bnd hF
      try dsimp only at hF
      refine q_callVv C [.ref (ad (a1 + 7))] (c_X10_copyFrom l D ad ca kz C.2.2.2.2.2.2.1 _ pi_217 (pkS ha1).2.1 _ _ h5) tw_843 gm_X10_copyFrom pi_217.1 (pe_9 pi_217.2) rfl ⟨rfl, rfl⟩ ⟨Nat.le_trans (Nat.le_of_ble_eq_true rfl) hR.1, Nat.le_trans (Nat.le_of_ble_eq_true rfl) hR.2⟩ rfl (Nat.le_of_ble_eq_true rfl) dX2_blow_45 q00 ?_
      refine q_iconst (v := 0) C dX2_blow_48 (by decide) ?_
      refine q_istore C [(7, .int 0), (0, .ref (ad (216))), (1, .ref (ad (a1))), (2, .int x2), (3, .int x3), (4, .int x4), (5, .int x5), (6, .int x6)] dX2_blow_49 (by decide) rfl ?_
      obtain ⟨o6, h7, hF⟩ := bnd hF
      try dsimp only at hF
      refine q_sub [1, 2, 3, 4, 5, 6, 7, 0] rfl ?_
      refine l_X2_blow_51 C ⟨hR.1, hR.2⟩ ha1 o6 ?_ n _ _ _ _ _ _ _ h7
      refine q_aload_n C 0 dX2_blow_85 rfl rfl ?_
      refine q_dup C dX2_blow_86 rfl ?_
      refine qg_2_4 C pi_216 tw_299 dX2_blow_87 ?_
      refine q_aload_n C 0 dX2_blow_90 rfl rfl ?_
      refine qg_2_0 C pi_216 tw_293 dX2_blow_91 ?_
      obtain ⟨q8, h9, hF⟩ := bnd hF
      try dsimp only at hF
      refine q_callVi C [] (c_X10_askedInAll l D ad ca kz C.2.2.2.2.2.2.1 _ pi_217 _ _ h9) tw_907 gm_X10_askedInAll pi_217.1 (pe_9 pi_217.2) rfl ⟨rfl, rfl⟩ ⟨Nat.le_trans (Nat.le_of_ble_eq_true rfl) hR.1, Nat.le_trans (Nat.le_of_ble_eq_true rfl) hR.2⟩ rfl (Nat.le_of_ble_eq_true rfl) dX2_blow_94 q00 ?_
      refine q_iload C 5 dX2_blow_97 rfl ?_
      refine q_isub C dX2_blow_99 ?_
      refine q_iadd C dX2_blow_100 ?_
      refine qs_2_4 C pi_216 tw_299 dX2_blow_101 ?_
      refine q_aload_n C 0 dX2_blow_104 rfl rfl ?_
      refine q_dup C dX2_blow_105 rfl ?_
      refine qg_2_5 C pi_216 tw_301 dX2_blow_106 ?_
      refine q_aload_n C 0 dX2_blow_109 rfl rfl ?_
      refine qg_2_0 C pi_216 tw_293 dX2_blow_110 ?_
      refine qg_9_4 C pi_217 tw_177 dX2_blow_113 ?_
      obtain ⟨q10, h11, hF⟩ := bnd hF
      try dsimp only at hF
      refine q_callSi C [.int ((psI q8.2 216 4 ((o6.2.2.2.2.2.1 216 4) + (q8.1 - o6.2.2.2.1))).1 217 4)] (c_J6_bitCount_0f7a4 l D ad ca kz C.2.2.2.2.2.2.1 _ _ _ _ h11) tw_886 gm_J6_bitCount_0f7a4 ⟨rfl, rfl⟩ ⟨Nat.le_trans (Nat.le_of_ble_eq_true rfl) hR.1, Nat.le_trans (Nat.le_of_ble_eq_true rfl) hR.2⟩ rfl (Nat.le_of_ble_eq_true rfl) dX2_blow_116 q00 ?_
      refine q_iadd C dX2_blow_119 ?_
      refine qs_2_5 C pi_216 tw_301 dX2_blow_120 ?_
      refine q_iinc C 6 [(6, .int (o6.2.2.2.2.1 + 1)), (0, .ref (ad (216))), (1, .ref (ad (a1))), (2, .int o6.1), (3, .int o6.2.1), (4, .int o6.2.2.1), (5, .int o6.2.2.2.1)] dX2_blow_123 rfl rfl (by decide) rfl ?_
      refine q_goto (tgt := 31) C dX2_blow_126 (by decide) ?_
      refine q_sub [1, 2, 3, 4, 5, 6, 0] rfl ?_
      exact ih _ _ _ _ _ _ hF
set_option maxHeartbeats 4000000 in
set_option maxRecDepth 100000 in
theorem c_X2_blow (l : Launch) (D : va_G) (ad : Nat → Nat) (ca : Nat → ClassId) (kz : Nat → Nat) (hJ : pInj ad) (n : Nat) {a1 : Nat} (ha1 : pis a1 5) (a2 : Int32) (a3 : Int32) (a4 : Int32) (σ : PS) (out : PS) (hF : F_X2_blow n a1 a2 a3 a4 σ = some out) : Met l yX2_blow (Cond.code yX2_blow cX2_blow 8 (Option.none : Option Jvm.ClassFile.FieldType) :: gw_tbl) { frames := 6, cells := 0, slots := 0, locals := 154 } (va_Pc [.ref (ad (216)), .ref (ad (a1)), .int a2, .int a3, .int a4] (pU D ad ca kz σ)) (pQv D ad ca out) 0 0 (pAD ad) := by
  refine q_entry (own := "AskedCamp$Foresight") hJ (by decide) rfl (Nat.le_of_ble_eq_true rfl) (fun p e s m below meth c C hr hlk => ?_)
  refine q_lv [(0, .ref (ad (216))), (1, .ref (ad (a1))), (2, .int a2), (3, .int a3), (4, .int a4)] rfl ?_
  rw [F_X2_blow] at hF
  refine q_aload_n C 0 dX2_blow_0 rfl rfl ?_
  refine q_aload_n C 1 dX2_blow_1 rfl rfl ?_
  refine qg_5_6 C ha1 tw_245 dX2_blow_2 ?_
  refine q_i2l C dX2_blow_5 ?_
  refine qs_2_6 C pi_216 tw_303 dX2_blow_6 ?_
  refine q_aload_n C 0 dX2_blow_9 rfl rfl ?_
  refine q_iconst (v := 0) C dX2_blow_10 (by decide) ?_
  refine qs_2_4 C pi_216 tw_299 dX2_blow_11 ?_
  refine q_aload_n C 0 dX2_blow_14 rfl rfl ?_
  refine q_iconst (v := 0) C dX2_blow_15 (by decide) ?_
  refine qs_2_5 C pi_216 tw_301 dX2_blow_16 ?_
  refine q_aload_n C 1 dX2_blow_19 rfl rfl ?_
  refine qg_5_1 C ha1 tw_231 dX2_blow_20 ?_
  obtain ⟨q1, h2, hF⟩ := bnd hF
  try dsimp only at hF
  refine q_callVi C [] (c_X10_askedInAll l D ad ca kz C.2.2.2.2.2.2.1 _ (pkS ha1).2.1 _ _ h2) tw_907 gm_X10_askedInAll (pkS ha1).2.1.1 (pe_9 (pkS ha1).2.1.2) rfl ⟨rfl, rfl⟩ ⟨Nat.le_of_ble_eq_true rfl, Nat.le_of_ble_eq_true rfl⟩ rfl (Nat.le_of_ble_eq_true rfl) dX2_blow_23 q00 ?_
  refine q_istore C [(5, .int q1.1), (0, .ref (ad (216))), (1, .ref (ad (a1))), (2, .int a2), (3, .int a3), (4, .int a4)] dX2_blow_26 (by decide) rfl ?_
  refine q_iconst (v := 0) C dX2_blow_28 (by decide) ?_
  refine q_istore C [(6, .int 0), (5, .int q1.1), (0, .ref (ad (216))), (1, .ref (ad (a1))), (2, .int a2), (3, .int a3), (4, .int a4)] dX2_blow_29 (by decide) rfl ?_
  obtain ⟨o12, h13, hF⟩ := bnd hF
  try dsimp only at hF
  refine q_sub [2, 3, 4, 5, 6, 1, 0] rfl ?_
  refine l_X2_blow_31 C ⟨Nat.le_of_ble_eq_true rfl, Nat.le_of_ble_eq_true rfl⟩ ha1 o12 ?_ n _ _ _ _ _ _ h13
  exact q_vret C hr hlk dX2_blow_129 hF
-- X11_winds
def F_X11_winds (n : Nat) (a1 : Int32) (a2 : Int32) (a3 : Int32) (a4 : Int32) (σ : PS) : Option (Int32 × PS) := (F_X10_isPitched n 25 σ).bind (fun q1 => (if q1.1 = 0 then some ((-1 : Int32), q1.2) else (if a1 < (1 : Int32) then some ((-1 : Int32), q1.2) else (if (10 : Int32) < a1 then some ((-1 : Int32), q1.2) else (if a2 < (1 : Int32) then some ((-1 : Int32), q1.2) else (if a2 ≤ (60 : Int32) then (if a3 < 0 then some ((-1 : Int32), q1.2) else (if (100 : Int32) < a3 then some ((-1 : Int32), q1.2) else (if a4 < 0 then some ((-1 : Int32), q1.2) else (if a4 ≤ (1 : Int32) then (F_X2_blow n 18 a1 a2 a3 q1.2).bind (fun q12 => (if a4 = 0 then some ((q12.1 216 4), q12) else some ((q12.1 216 5), q12))) else some ((-1 : Int32), q1.2))))) else some ((-1 : Int32), q1.2)))))))
theorem gm_X11_winds : gM "AskedCamp" yX11_winds (Cond.code yX11_winds cX11_winds 5 (Option.some Jvm.ClassFile.FieldType.int)) 4 := ⟨by decide +kernel, tw_900, tw_901, tw_1, tw_902⟩
set_option maxHeartbeats 4000000 in
set_option maxRecDepth 100000 in
theorem c_X11_winds (l : Launch) (D : va_G) (ad : Nat → Nat) (ca : Nat → ClassId) (kz : Nat → Nat) (hJ : pInj ad) (n : Nat) (a1 : Int32) (a2 : Int32) (a3 : Int32) (a4 : Int32) (σ : PS) (out : Int32 × PS) (hF : F_X11_winds n a1 a2 a3 a4 σ = some out) : Met l yX11_winds (Cond.code yX11_winds cX11_winds 5 (Option.some Jvm.ClassFile.FieldType.int) :: gw_tbl) { frames := 7, cells := 0, slots := 0, locals := 181 } (va_Pc [.ref (ad (0)), .int a1, .int a2, .int a3, .int a4] (pU D ad ca kz σ)) (pQi D ad ca out) 0 0 (pAD ad) := by
  refine q_entry (own := "AskedCamp") hJ (by decide) rfl (Nat.le_of_ble_eq_true rfl) (fun p e s m below meth c C hr hlk => ?_)
  refine q_lv [(0, .ref (ad (0))), (1, .int a1), (2, .int a2), (3, .int a3), (4, .int a4)] rfl ?_
  rw [F_X11_winds] at hF
  refine q_aload_n C 0 dX11_winds_0 rfl rfl ?_
  refine qg_10_4 C pi_0 tw_384 dX11_winds_1 ?_
  refine qg_5_1 C pi_18 tw_232 dX11_winds_4 ?_
  obtain ⟨q1, h2, hF⟩ := bnd hF
  try dsimp only at hF
  refine q_callVi C [] (c_X10_isPitched l D ad ca kz C.2.2.2.2.2.2.1 _ pi_25 _ _ h2) tw_687 gm_X10_isPitched pi_25.1 (pe_9 pi_25.2) rfl ⟨rfl, rfl⟩ ⟨Nat.le_of_ble_eq_true rfl, Nat.le_of_ble_eq_true rfl⟩ rfl (Nat.le_of_ble_eq_true rfl) dX11_winds_7 q00 ?_
  refine q_if_eq (tgt := 35) C dX11_winds_10 (by decide) (fun c3 => ?_) (fun c3 => ?_)
  · replace hF := ift c3 hF
    refine q_iconst (v := -1) C dX11_winds_35 (by decide) ?_
    exact q_iret C hr hlk dX11_winds_36 hF
  · replace hF := ife c3 hF
    refine q_iload_n C 1 dX11_winds_13 rfl rfl ?_
    refine q_iconst (v := 1) C dX11_winds_14 (by decide) ?_
    refine q_icmp_lt (tgt := 35) C dX11_winds_15 (by decide) (fun c4 => ?_) (fun c4 => ?_)
    · replace hF := ift c4 hF
      refine q_iconst (v := -1) C dX11_winds_35 (by decide) ?_
      exact q_iret C hr hlk dX11_winds_36 hF
    · replace hF := ife c4 hF
      refine q_iload_n C 1 dX11_winds_18 rfl rfl ?_
      refine q_bipush (v := 10) C dX11_winds_19 (by decide) ?_
      refine q_icmp_gt (tgt := 35) C dX11_winds_21 (by decide) (fun c5 => ?_) (fun c5 => ?_)
      · replace hF := ift c5 hF
        refine q_iconst (v := -1) C dX11_winds_35 (by decide) ?_
        exact q_iret C hr hlk dX11_winds_36 hF
      · replace hF := ife c5 hF
        refine q_iload_n C 2 dX11_winds_24 rfl rfl ?_
        refine q_iconst (v := 1) C dX11_winds_25 (by decide) ?_
        refine q_icmp_lt (tgt := 35) C dX11_winds_26 (by decide) (fun c6 => ?_) (fun c6 => ?_)
        · replace hF := ift c6 hF
          refine q_iconst (v := -1) C dX11_winds_35 (by decide) ?_
          exact q_iret C hr hlk dX11_winds_36 hF
        · replace hF := ife c6 hF
          refine q_iload_n C 2 dX11_winds_29 rfl rfl ?_
          refine q_bipush (v := 60) C dX11_winds_30 (by decide) ?_
          refine q_icmp_le (tgt := 37) C dX11_winds_32 (by decide) (fun c7 => ?_) (fun c7 => ?_)
          · replace hF := ift c7 hF
            refine q_iload_n C 3 dX11_winds_37 rfl rfl ?_
            refine q_if_lt (tgt := 58) C dX11_winds_38 (by decide) (fun c8 => ?_) (fun c8 => ?_)
            · replace hF := ift c8 hF
              refine q_iconst (v := -1) C dX11_winds_58 (by decide) ?_
              exact q_iret C hr hlk dX11_winds_59 hF
            · replace hF := ife c8 hF
              refine q_iload_n C 3 dX11_winds_41 rfl rfl ?_
              refine q_bipush (v := 100) C dX11_winds_42 (by decide) ?_
              refine q_icmp_gt (tgt := 58) C dX11_winds_44 (by decide) (fun c9 => ?_) (fun c9 => ?_)
              · replace hF := ift c9 hF
                refine q_iconst (v := -1) C dX11_winds_58 (by decide) ?_
                exact q_iret C hr hlk dX11_winds_59 hF
              · replace hF := ife c9 hF
                refine q_iload C 4 dX11_winds_47 rfl ?_
                refine q_if_lt (tgt := 58) C dX11_winds_49 (by decide) (fun c10 => ?_) (fun c10 => ?_)
                · replace hF := ift c10 hF
                  refine q_iconst (v := -1) C dX11_winds_58 (by decide) ?_
                  exact q_iret C hr hlk dX11_winds_59 hF
                · replace hF := ife c10 hF
                  refine q_iload C 4 dX11_winds_52 rfl ?_
                  refine q_iconst (v := 1) C dX11_winds_54 (by decide) ?_
                  refine q_icmp_le (tgt := 60) C dX11_winds_55 (by decide) (fun c11 => ?_) (fun c11 => ?_)
                  · replace hF := ift c11 hF
                    refine q_aload_n C 0 dX11_winds_60 rfl rfl ?_
                    refine qg_10_7 C pi_0 tw_387 dX11_winds_61 ?_
                    refine q_aload_n C 0 dX11_winds_64 rfl rfl ?_
                    refine qg_10_4 C pi_0 tw_384 dX11_winds_65 ?_
                    refine q_iload_n C 1 dX11_winds_68 rfl rfl ?_
                    refine q_iload_n C 2 dX11_winds_69 rfl rfl ?_
                    refine q_iload_n C 3 dX11_winds_70 rfl rfl ?_
                    obtain ⟨q12, h13, hF⟩ := bnd hF
                    try dsimp only at hF
                    refine q_callVv C [.ref (ad (18)), .int a1, .int a2, .int a3] (c_X2_blow l D ad ca kz C.2.2.2.2.2.2.1 _ pi_18 _ _ _ _ _ h13) tw_903 gm_X2_blow pi_216.1 (pe_2 pi_216.2) rfl ⟨rfl, rfl⟩ ⟨Nat.le_of_ble_eq_true rfl, Nat.le_of_ble_eq_true rfl⟩ rfl (Nat.le_of_ble_eq_true rfl) dX11_winds_71 q00 ?_
                    refine q_iload C 4 dX11_winds_74 rfl ?_
                    refine q_if_ne (tgt := 89) C dX11_winds_76 (by decide) (fun c14 => ?_) (fun c14 => ?_)
                    · replace hF := ife c14 hF
                      refine q_aload_n C 0 dX11_winds_89 rfl rfl ?_
                      refine qg_10_7 C pi_0 tw_387 dX11_winds_90 ?_
                      refine qg_2_5 C pi_216 tw_302 dX11_winds_93 ?_
                      exact q_iret C hr hlk dX11_winds_96 hF
                    · replace hF := ift c14 hF
                      refine q_aload_n C 0 dX11_winds_79 rfl rfl ?_
                      refine qg_10_7 C pi_0 tw_387 dX11_winds_80 ?_
                      refine qg_2_4 C pi_216 tw_300 dX11_winds_83 ?_
                      refine q_goto (tgt := 96) C dX11_winds_86 (by decide) ?_
                      exact q_iret C hr hlk dX11_winds_96 hF
                  · replace hF := ife c11 hF
                    refine q_iconst (v := -1) C dX11_winds_58 (by decide) ?_
                    exact q_iret C hr hlk dX11_winds_59 hF
          · replace hF := ife c7 hF
            refine q_iconst (v := -1) C dX11_winds_35 (by decide) ?_
            exact q_iret C hr hlk dX11_winds_36 hF
-- X12_askedOf
def F_X12_askedOf (n : Nat) (a1 : Int32) (σ : PS) : Option (Int32 × PS) := (if 0 ≤ (((13 : Int32) + ((4 : Int32) * a1)) + (2 : Int32)) ∧ (((13 : Int32) + ((4 : Int32) * a1)) + (2 : Int32)).toNatClampNeg < 179 then some ((σ.1 259 ((((13 : Int32) + ((4 : Int32) * a1)) + (2 : Int32)).toNatClampNeg)), σ) else none)
theorem gm_X12_askedOf : gM "AskedCampModel" yX12_askedOf (Cond.code yX12_askedOf cX12_askedOf 2 (Option.some Jvm.ClassFile.FieldType.int)) 1 := ⟨by decide +kernel, tw_1437, tw_p72, tw_12, tw_1438⟩
set_option maxHeartbeats 4000000 in
set_option maxRecDepth 100000 in
theorem c_X12_askedOf (l : Launch) (D : va_G) (ad : Nat → Nat) (ca : Nat → ClassId) (kz : Nat → Nat) (hJ : pInj ad) (n : Nat) (a1 : Int32) (σ : PS) (out : Int32 × PS) (hF : F_X12_askedOf n a1 σ = some out) : Met l yX12_askedOf (Cond.code yX12_askedOf cX12_askedOf 2 (Option.some Jvm.ClassFile.FieldType.int) :: gw_tbl) { frames := 0, cells := 0, slots := 0, locals := 0 } (va_Pc [.ref (ad (249)), .int a1] (pU D ad ca kz σ)) (pQi D ad ca out) 0 0 (pAD ad) := by
  refine q_entry (own := "AskedCampModel") hJ (by decide) rfl (Nat.le_of_ble_eq_true rfl) (fun p e s m below meth c C hr hlk => ?_)
  refine q_lv [(0, .ref (ad (249))), (1, .int a1)] rfl ?_
  rw [F_X12_askedOf] at hF
  refine q_aload_n C 0 dX12_askedOf_0 rfl rfl ?_
  refine qg_11_20 C pi_249 tw_1073 dX12_askedOf_1 ?_
  refine q_bipush (v := 13) C dX12_askedOf_4 (by decide) ?_
  refine q_iconst (v := 4) C dX12_askedOf_6 (by decide) ?_
  refine q_iload_n C 1 dX12_askedOf_7 rfl rfl ?_
  refine q_imul C dX12_askedOf_8 ?_
  refine q_iadd C dX12_askedOf_9 ?_
  refine q_iconst (v := 2) C dX12_askedOf_10 (by decide) ?_
  refine q_iadd C dX12_askedOf_11 ?_
  obtain ⟨g1, hF⟩ := grd hF
  refine q_iald C pa_259 (vp_of g1) dX12_askedOf_12 ?_
  exact q_iret C hr hlk dX12_askedOf_13 hF
-- X12_in
def F_X12_in (n : Nat) (a0 : Int64) (a2 : Int64) (a4 : Int64) (σ : PS) : Option (Int32 × PS) := (if (lg_cmp a0 a2) < 0 then some ((0 : Int32), σ) else (if 0 < (lg_cmp a0 a4) then some ((0 : Int32), σ) else some ((1 : Int32), σ)))
theorem gm_X12_in : gS yX12_in (Cond.code yX12_in cX12_in 6 (Option.some Jvm.ClassFile.FieldType.boolean)) 3 := ⟨by decide +kernel, tw_1256, tw_12, tw_1257⟩
set_option maxHeartbeats 4000000 in
set_option maxRecDepth 100000 in
theorem c_X12_in (l : Launch) (D : va_G) (ad : Nat → Nat) (ca : Nat → ClassId) (kz : Nat → Nat) (hJ : pInj ad) (n : Nat) (a0 : Int64) (a2 : Int64) (a4 : Int64) (σ : PS) (out : Int32 × PS) (hF : F_X12_in n a0 a2 a4 σ = some out) : Met l yX12_in (Cond.code yX12_in cX12_in 6 (Option.some Jvm.ClassFile.FieldType.boolean) :: gw_tbl) { frames := 0, cells := 0, slots := 0, locals := 0 } (va_Pc [.long a0, .long a2, .long a4] (pU D ad ca kz σ)) (pQi D ad ca out) 0 0 (pAD ad) := by
  refine q_entry (own := "AskedCampModel") hJ (by decide) rfl (Nat.le_of_ble_eq_true rfl) (fun p e s m below meth c C hr hlk => ?_)
  refine q_lv [(0, .long a0), (2, .long a2), (4, .long a4)] rfl ?_
  rw [F_X12_in] at hF
  refine q_lload_n C 0 dX12_in_0 rfl rfl ?_
  refine q_lload_n C 1 dX12_in_1 rfl rfl ?_
  refine q_lcmp C dX12_in_2 ?_
  refine q_if_lt (tgt := 17) C dX12_in_3 (by decide) (fun c1 => ?_) (fun c1 => ?_)
  · replace hF := ift c1 hF
    refine q_iconst (v := 0) C dX12_in_17 (by decide) ?_
    exact q_zret C hr hlk dX12_in_18 (by decide) hF
  · replace hF := ife c1 hF
    refine q_lload_n C 0 dX12_in_6 rfl rfl ?_
    refine q_lload C 2 dX12_in_7 rfl ?_
    refine q_lcmp C dX12_in_9 ?_
    refine q_if_gt (tgt := 17) C dX12_in_10 (by decide) (fun c2 => ?_) (fun c2 => ?_)
    · replace hF := ift c2 hF
      refine q_iconst (v := 0) C dX12_in_17 (by decide) ?_
      exact q_zret C hr hlk dX12_in_18 (by decide) hF
    · replace hF := ife c2 hF
      refine q_iconst (v := 1) C dX12_in_13 (by decide) ?_
      refine q_goto (tgt := 18) C dX12_in_14 (by decide) ?_
      exact q_zret C hr hlk dX12_in_18 (by decide) hF
-- X12_isCamp
def F_X12_isCamp (n : Nat) (σ : PS) : Option (Int32 × PS) := (if (σ.1 259 0) = (1 : Int32) then some ((1 : Int32), σ) else some ((0 : Int32), σ))
theorem gm_X12_isCamp : gM "AskedCampModel" yX12_isCamp (Cond.code yX12_isCamp cX12_isCamp 1 (Option.some Jvm.ClassFile.FieldType.boolean)) 0 := ⟨by decide +kernel, tw_1405, tw_p64, tw_12, tw_1406⟩
set_option maxHeartbeats 4000000 in
set_option maxRecDepth 100000 in
theorem c_X12_isCamp (l : Launch) (D : va_G) (ad : Nat → Nat) (ca : Nat → ClassId) (kz : Nat → Nat) (hJ : pInj ad) (n : Nat) (σ : PS) (out : Int32 × PS) (hF : F_X12_isCamp n σ = some out) : Met l yX12_isCamp (Cond.code yX12_isCamp cX12_isCamp 1 (Option.some Jvm.ClassFile.FieldType.boolean) :: gw_tbl) { frames := 0, cells := 0, slots := 0, locals := 0 } (va_Pc [.ref (ad (249))] (pU D ad ca kz σ)) (pQi D ad ca out) 0 0 (pAD ad) := by
  refine q_entry (own := "AskedCampModel") hJ (by decide) rfl (Nat.le_of_ble_eq_true rfl) (fun p e s m below meth c C hr hlk => ?_)
  refine q_lv [(0, .ref (ad (249)))] rfl ?_
  rw [F_X12_isCamp] at hF
  refine q_aload_n C 0 dX12_isCamp_0 rfl rfl ?_
  refine qg_11_20 C pi_249 tw_1073 dX12_isCamp_1 ?_
  refine q_iconst (v := 0) C dX12_isCamp_4 (by decide) ?_
  refine q_ialdk (jn := 0) C pa_259 (vp_of (by decide)) rfl dX12_isCamp_5 ?_
  refine q_iconst (v := 1) C dX12_isCamp_6 (by decide) ?_
  refine q_icmp_ne (tgt := 14) C dX12_isCamp_7 (by decide) (fun c1 => ?_) (fun c1 => ?_)
  · replace hF := ife c1 hF
    refine q_iconst (v := 0) C dX12_isCamp_14 (by decide) ?_
    exact q_zret C hr hlk dX12_isCamp_15 (by decide) hF
  · replace hF := ift c1 hF
    refine q_iconst (v := 1) C dX12_isCamp_10 (by decide) ?_
    refine q_goto (tgt := 15) C dX12_isCamp_11 (by decide) ?_
    exact q_zret C hr hlk dX12_isCamp_15 (by decide) hF
-- X12_isTent
def F_X12_isTent (n : Nat) (a1 : Int32) (σ : PS) : Option (Int32 × PS) := (if a1 < 0 then some ((0 : Int32), σ) else (if (σ.1 259 2) ≤ a1 then some ((0 : Int32), σ) else some ((1 : Int32), σ)))
theorem gm_X12_isTent : gM "AskedCampModel" yX12_isTent (Cond.code yX12_isTent cX12_isTent 2 (Option.some Jvm.ClassFile.FieldType.boolean)) 1 := ⟨by decide +kernel, tw_1371, tw_p59, tw_12, tw_1372⟩
set_option maxHeartbeats 4000000 in
set_option maxRecDepth 100000 in
theorem c_X12_isTent (l : Launch) (D : va_G) (ad : Nat → Nat) (ca : Nat → ClassId) (kz : Nat → Nat) (hJ : pInj ad) (n : Nat) (a1 : Int32) (σ : PS) (out : Int32 × PS) (hF : F_X12_isTent n a1 σ = some out) : Met l yX12_isTent (Cond.code yX12_isTent cX12_isTent 2 (Option.some Jvm.ClassFile.FieldType.boolean) :: gw_tbl) { frames := 0, cells := 0, slots := 0, locals := 0 } (va_Pc [.ref (ad (249)), .int a1] (pU D ad ca kz σ)) (pQi D ad ca out) 0 0 (pAD ad) := by
  refine q_entry (own := "AskedCampModel") hJ (by decide) rfl (Nat.le_of_ble_eq_true rfl) (fun p e s m below meth c C hr hlk => ?_)
  refine q_lv [(0, .ref (ad (249))), (1, .int a1)] rfl ?_
  rw [F_X12_isTent] at hF
  refine q_iload_n C 1 dX12_isTent_0 rfl rfl ?_
  refine q_if_lt (tgt := 18) C dX12_isTent_1 (by decide) (fun c1 => ?_) (fun c1 => ?_)
  · replace hF := ift c1 hF
    refine q_iconst (v := 0) C dX12_isTent_18 (by decide) ?_
    exact q_zret C hr hlk dX12_isTent_19 (by decide) hF
  · replace hF := ife c1 hF
    refine q_iload_n C 1 dX12_isTent_4 rfl rfl ?_
    refine q_aload_n C 0 dX12_isTent_5 rfl rfl ?_
    refine qg_11_20 C pi_249 tw_1073 dX12_isTent_6 ?_
    refine q_iconst (v := 2) C dX12_isTent_9 (by decide) ?_
    refine q_ialdk (jn := 2) C pa_259 (vp_of (by decide)) rfl dX12_isTent_10 ?_
    refine q_icmp_ge (tgt := 18) C dX12_isTent_11 (by decide) (fun c2 => ?_) (fun c2 => ?_)
    · replace hF := ift c2 hF
      refine q_iconst (v := 0) C dX12_isTent_18 (by decide) ?_
      exact q_zret C hr hlk dX12_isTent_19 (by decide) hF
    · replace hF := ife c2 hF
      refine q_iconst (v := 1) C dX12_isTent_14 (by decide) ?_
      refine q_goto (tgt := 19) C dX12_isTent_15 (by decide) ?_
      exact q_zret C hr hlk dX12_isTent_19 (by decide) hF
-- X12_keeps
def L_X12_keeps_2 (n : Nat) : Nat → Int32 → PS → Option (PS)
  | 0, _, _ => none
  | k + 1, x1, σ => (if (99 : Int32) ≤ x1 then some σ else (if 0 ≤ ((10 : Int32) + x1) ∧ ((10 : Int32) + x1).toNatClampNeg < 179 then (if 0 ≤ x1 ∧ x1.toNatClampNeg < 99 then L_X12_keeps_2 n k (x1 + 1) (psI σ 263 x1.toNatClampNeg (σ.1 259 (((10 : Int32) + x1).toNatClampNeg))) else none) else none))
def F_X12_keeps (n : Nat) (σ : PS) : Option (PS) := (L_X12_keeps_2 n n (0 : Int32) σ).bind (fun o4 => some o4)
theorem gm_X12_keeps : gM "AskedCampModel" yX12_keeps (Cond.code yX12_keeps cX12_keeps 2 (Option.none : Option Jvm.ClassFile.FieldType)) 0 := ⟨by decide +kernel, tw_1516, tw_p84, tw_12, tw_1517⟩
set_option maxHeartbeats 4000000 in
set_option maxRecDepth 100000 in
theorem l_X12_keeps_2 {p : Program} {l : Launch} {e : Env} {R : Room} {s : State} {m : MethodId} {args : Array Value} {below : List Frame} {meth : Method} {c : Code} {D : va_G} {ad : Nat → Nat} {ca : Nat → ClassId} {kz : Nat → Nat} {Q : State → Prop} (C : pC p s m args c cX12_keeps "AskedCampModel" 2 D ad ca kz) (hR : 0 ≤ R.frames ∧ 0 ≤ R.locals) {n : Nat} (o : PS) (hx0 : PW p l e R s m args below meth c 2 D ad ca 0 0 Q (o) 29 [] []) : ∀ (k : Nat) (x1 : Int32) (σ : PS), L_X12_keeps_2 n k x1 σ = some o → PW p l e R s m args below meth c 2 D ad ca 0 0 Q σ 2 [(0, .ref (ad (249))), (1, .int x1)] [] := by
  intro k
  induction k with
  | zero => intro x1 σ hF; exact nomatch (show (none : Option (PS)) = some o from hF)
  | succ k ih =>
    intro x1 σ hF
    rw [L_X12_keeps_2] at hF
    refine q_iload_n C 1 dX12_keeps_2 rfl rfl ?_
    refine q_bipush (v := 99) C dX12_keeps_3 (by decide) ?_
    refine q_icmp_ge (tgt := 29) C dX12_keeps_5 (by decide) (fun c1 => ?_) (fun c1 => ?_)
    · replace hF := ift c1 hF
      cases hF
      refine q_sub [] rfl ?_
      exact hx0
    · replace hF := ife c1 hF
      refine q_aload_n C 0 dX12_keeps_8 rfl rfl ?_
      refine qg_11_27 C pi_249 tw_1080 dX12_keeps_9 ?_
      refine q_iload_n C 1 dX12_keeps_12 rfl rfl ?_
      refine q_aload_n C 0 dX12_keeps_13 rfl rfl ?_
      refine qg_11_20 C pi_249 tw_1073 dX12_keeps_14 ?_
      refine q_bipush (v := 10) C dX12_keeps_17 (by decide) ?_
      refine q_iload_n C 1 dX12_keeps_19 rfl rfl ?_
      refine q_iadd C dX12_keeps_20 ?_
      obtain ⟨g2, hF⟩ := grd hF
      refine q_iald C pa_259 (vp_of g2) dX12_keeps_21 ?_
      obtain ⟨g3, hF⟩ := grd hF
      refine q_iast C pa_263 (vp_of g3) dX12_keeps_22 ?_
      refine q_iinc C 1 [(1, .int (x1 + 1)), (0, .ref (ad (249)))] dX12_keeps_23 rfl rfl (by decide) rfl ?_
      refine q_goto (tgt := 2) C dX12_keeps_26 (by decide) ?_
      refine q_sub [1, 0] rfl ?_
      exact ih _ _ hF
set_option maxHeartbeats 4000000 in
set_option maxRecDepth 100000 in
theorem c_X12_keeps (l : Launch) (D : va_G) (ad : Nat → Nat) (ca : Nat → ClassId) (kz : Nat → Nat) (hJ : pInj ad) (n : Nat) (σ : PS) (out : PS) (hF : F_X12_keeps n σ = some out) : Met l yX12_keeps (Cond.code yX12_keeps cX12_keeps 2 (Option.none : Option Jvm.ClassFile.FieldType) :: gw_tbl) { frames := 0, cells := 0, slots := 0, locals := 0 } (va_Pc [.ref (ad (249))] (pU D ad ca kz σ)) (pQv D ad ca out) 0 0 (pAD ad) := by
  refine q_entry (own := "AskedCampModel") hJ (by decide) rfl (Nat.le_of_ble_eq_true rfl) (fun p e s m below meth c C hr hlk => ?_)
  refine q_lv [(0, .ref (ad (249)))] rfl ?_
  rw [F_X12_keeps] at hF
  refine q_iconst (v := 0) C dX12_keeps_0 (by decide) ?_
  refine q_istore_n C [(1, .int 0), (0, .ref (ad (249)))] dX12_keeps_1 rfl (by decide) rfl ?_
  obtain ⟨o4, h5, hF⟩ := bnd hF
  try dsimp only at hF
  refine q_sub [1, 0] rfl ?_
  refine l_X12_keeps_2 C ⟨Nat.le_of_ble_eq_true rfl, Nat.le_of_ble_eq_true rfl⟩ o4 ?_ n _ _ h5
  exact q_vret C hr hlk dX12_keeps_29 hF
-- X12_knownBy
def F_X12_knownBy (n : Nat) (a1 : Int32) (σ : PS) : Option (Int32 × PS) := (if 0 ≤ (((13 : Int32) + ((4 : Int32) * a1)) + (3 : Int32)) ∧ (((13 : Int32) + ((4 : Int32) * a1)) + (3 : Int32)).toNatClampNeg < 179 then some ((σ.1 259 ((((13 : Int32) + ((4 : Int32) * a1)) + (3 : Int32)).toNatClampNeg)), σ) else none)
theorem gm_X12_knownBy : gM "AskedCampModel" yX12_knownBy (Cond.code yX12_knownBy cX12_knownBy 2 (Option.some Jvm.ClassFile.FieldType.int)) 1 := ⟨by decide +kernel, tw_1524, tw_p86, tw_12, tw_1525⟩
set_option maxHeartbeats 4000000 in
set_option maxRecDepth 100000 in
theorem c_X12_knownBy (l : Launch) (D : va_G) (ad : Nat → Nat) (ca : Nat → ClassId) (kz : Nat → Nat) (hJ : pInj ad) (n : Nat) (a1 : Int32) (σ : PS) (out : Int32 × PS) (hF : F_X12_knownBy n a1 σ = some out) : Met l yX12_knownBy (Cond.code yX12_knownBy cX12_knownBy 2 (Option.some Jvm.ClassFile.FieldType.int) :: gw_tbl) { frames := 0, cells := 0, slots := 0, locals := 0 } (va_Pc [.ref (ad (249)), .int a1] (pU D ad ca kz σ)) (pQi D ad ca out) 0 0 (pAD ad) := by
  refine q_entry (own := "AskedCampModel") hJ (by decide) rfl (Nat.le_of_ble_eq_true rfl) (fun p e s m below meth c C hr hlk => ?_)
  refine q_lv [(0, .ref (ad (249))), (1, .int a1)] rfl ?_
  rw [F_X12_knownBy] at hF
  refine q_aload_n C 0 dX12_knownBy_0 rfl rfl ?_
  refine qg_11_20 C pi_249 tw_1073 dX12_knownBy_1 ?_
  refine q_bipush (v := 13) C dX12_knownBy_4 (by decide) ?_
  refine q_iconst (v := 4) C dX12_knownBy_6 (by decide) ?_
  refine q_iload_n C 1 dX12_knownBy_7 rfl rfl ?_
  refine q_imul C dX12_knownBy_8 ?_
  refine q_iadd C dX12_knownBy_9 ?_
  refine q_iconst (v := 3) C dX12_knownBy_10 (by decide) ?_
  refine q_iadd C dX12_knownBy_11 ?_
  obtain ⟨g1, hF⟩ := grd hF
  refine q_iald C pa_259 (vp_of g1) dX12_knownBy_12 ?_
  exact q_iret C hr hlk dX12_knownBy_13 hF
-- X12_laysBack
def L_X12_laysBack_2 (n : Nat) : Nat → Int32 → PS → Option (PS)
  | 0, _, _ => none
  | k + 1, x1, σ => (if (99 : Int32) ≤ x1 then some σ else (if 0 ≤ x1 ∧ x1.toNatClampNeg < 99 then (if 0 ≤ ((10 : Int32) + x1) ∧ ((10 : Int32) + x1).toNatClampNeg < 179 then L_X12_laysBack_2 n k (x1 + 1) (psI σ 259 (((10 : Int32) + x1).toNatClampNeg) (σ.1 263 x1.toNatClampNeg)) else none) else none))
def F_X12_laysBack (n : Nat) (σ : PS) : Option (PS) := (L_X12_laysBack_2 n n (0 : Int32) σ).bind (fun o4 => some o4)
theorem gm_X12_laysBack : gM "AskedCampModel" yX12_laysBack (Cond.code yX12_laysBack cX12_laysBack 2 (Option.none : Option Jvm.ClassFile.FieldType)) 0 := ⟨by decide +kernel, tw_1528, tw_p87, tw_12, tw_1529⟩
set_option maxHeartbeats 4000000 in
set_option maxRecDepth 100000 in
theorem l_X12_laysBack_2 {p : Program} {l : Launch} {e : Env} {R : Room} {s : State} {m : MethodId} {args : Array Value} {below : List Frame} {meth : Method} {c : Code} {D : va_G} {ad : Nat → Nat} {ca : Nat → ClassId} {kz : Nat → Nat} {Q : State → Prop} (C : pC p s m args c cX12_laysBack "AskedCampModel" 2 D ad ca kz) (hR : 0 ≤ R.frames ∧ 0 ≤ R.locals) {n : Nat} (o : PS) (hx0 : PW p l e R s m args below meth c 2 D ad ca 0 0 Q (o) 29 [] []) : ∀ (k : Nat) (x1 : Int32) (σ : PS), L_X12_laysBack_2 n k x1 σ = some o → PW p l e R s m args below meth c 2 D ad ca 0 0 Q σ 2 [(0, .ref (ad (249))), (1, .int x1)] [] := by
  intro k
  induction k with
  | zero => intro x1 σ hF; exact nomatch (show (none : Option (PS)) = some o from hF)
  | succ k ih =>
    intro x1 σ hF
    rw [L_X12_laysBack_2] at hF
    refine q_iload_n C 1 dX12_laysBack_2 rfl rfl ?_
    refine q_bipush (v := 99) C dX12_laysBack_3 (by decide) ?_
    refine q_icmp_ge (tgt := 29) C dX12_laysBack_5 (by decide) (fun c1 => ?_) (fun c1 => ?_)
    · replace hF := ift c1 hF
      cases hF
      refine q_sub [] rfl ?_
      exact hx0
    · replace hF := ife c1 hF
      refine q_aload_n C 0 dX12_laysBack_8 rfl rfl ?_
      refine qg_11_20 C pi_249 tw_1073 dX12_laysBack_9 ?_
      refine q_bipush (v := 10) C dX12_laysBack_12 (by decide) ?_
      refine q_iload_n C 1 dX12_laysBack_14 rfl rfl ?_
      refine q_iadd C dX12_laysBack_15 ?_
      refine q_aload_n C 0 dX12_laysBack_16 rfl rfl ?_
      refine qg_11_27 C pi_249 tw_1080 dX12_laysBack_17 ?_
      refine q_iload_n C 1 dX12_laysBack_20 rfl rfl ?_
      obtain ⟨g2, hF⟩ := grd hF
      refine q_iald C pa_263 (vp_of g2) dX12_laysBack_21 ?_
      obtain ⟨g3, hF⟩ := grd hF
      refine q_iast C pa_259 (vp_of g3) dX12_laysBack_22 ?_
      refine q_iinc C 1 [(1, .int (x1 + 1)), (0, .ref (ad (249)))] dX12_laysBack_23 rfl rfl (by decide) rfl ?_
      refine q_goto (tgt := 2) C dX12_laysBack_26 (by decide) ?_
      refine q_sub [1, 0] rfl ?_
      exact ih _ _ hF
set_option maxHeartbeats 4000000 in
set_option maxRecDepth 100000 in
theorem c_X12_laysBack (l : Launch) (D : va_G) (ad : Nat → Nat) (ca : Nat → ClassId) (kz : Nat → Nat) (hJ : pInj ad) (n : Nat) (σ : PS) (out : PS) (hF : F_X12_laysBack n σ = some out) : Met l yX12_laysBack (Cond.code yX12_laysBack cX12_laysBack 2 (Option.none : Option Jvm.ClassFile.FieldType) :: gw_tbl) { frames := 0, cells := 0, slots := 0, locals := 0 } (va_Pc [.ref (ad (249))] (pU D ad ca kz σ)) (pQv D ad ca out) 0 0 (pAD ad) := by
  refine q_entry (own := "AskedCampModel") hJ (by decide) rfl (Nat.le_of_ble_eq_true rfl) (fun p e s m below meth c C hr hlk => ?_)
  refine q_lv [(0, .ref (ad (249)))] rfl ?_
  rw [F_X12_laysBack] at hF
  refine q_iconst (v := 0) C dX12_laysBack_0 (by decide) ?_
  refine q_istore_n C [(1, .int 0), (0, .ref (ad (249)))] dX12_laysBack_1 rfl (by decide) rfl ?_
  obtain ⟨o4, h5, hF⟩ := bnd hF
  try dsimp only at hF
  refine q_sub [1, 0] rfl ?_
  refine l_X12_laysBack_2 C ⟨Nat.le_of_ble_eq_true rfl, Nat.le_of_ble_eq_true rfl⟩ o4 ?_ n _ _ h5
  exact q_vret C hr hlk dX12_laysBack_29 hF
-- X12_asks
def F_X12_asks (n : Nat) (a1 : Int32) (σ : PS) : Option (PS) := (if 0 ≤ (((13 : Int32) + ((4 : Int32) * a1)) + (2 : Int32)) ∧ (((13 : Int32) + ((4 : Int32) * a1)) + (2 : Int32)).toNatClampNeg < 179 then (if 0 ≤ (((13 : Int32) + ((4 : Int32) * a1)) + (1 : Int32)) ∧ (((13 : Int32) + ((4 : Int32) * a1)) + (1 : Int32)).toNatClampNeg < 179 then (if ((psI σ 259 ((((13 : Int32) + ((4 : Int32) * a1)) + (2 : Int32)).toNatClampNeg) ((σ.1 259 ((((13 : Int32) + ((4 : Int32) * a1)) + (2 : Int32)).toNatClampNeg)) + (1 : Int32))).1 259 ((((13 : Int32) + ((4 : Int32) * a1)) + (1 : Int32)).toNatClampNeg)) ≤ 0 then (if 0 ≤ (((13 : Int32) + ((4 : Int32) * a1)) + (3 : Int32)) ∧ (((13 : Int32) + ((4 : Int32) * a1)) + (3 : Int32)).toNatClampNeg < 179 then some (psI (psI (psI σ 259 ((((13 : Int32) + ((4 : Int32) * a1)) + (2 : Int32)).toNatClampNeg) ((σ.1 259 ((((13 : Int32) + ((4 : Int32) * a1)) + (2 : Int32)).toNatClampNeg)) + (1 : Int32))) 259 12 (((psI σ 259 ((((13 : Int32) + ((4 : Int32) * a1)) + (2 : Int32)).toNatClampNeg) ((σ.1 259 ((((13 : Int32) + ((4 : Int32) * a1)) + (2 : Int32)).toNatClampNeg)) + (1 : Int32))).1 259 12) ||| ((psI σ 259 ((((13 : Int32) + ((4 : Int32) * a1)) + (2 : Int32)).toNatClampNeg) ((σ.1 259 ((((13 : Int32) + ((4 : Int32) * a1)) + (2 : Int32)).toNatClampNeg)) + (1 : Int32))).1 259 ((((13 : Int32) + ((4 : Int32) * a1)) + (3 : Int32)).toNatClampNeg)))) 259 ((((13 : Int32) + ((4 : Int32) * a1)) + (3 : Int32)).toNatClampNeg) ((psI (psI σ 259 ((((13 : Int32) + ((4 : Int32) * a1)) + (2 : Int32)).toNatClampNeg) ((σ.1 259 ((((13 : Int32) + ((4 : Int32) * a1)) + (2 : Int32)).toNatClampNeg)) + (1 : Int32))) 259 12 (((psI σ 259 ((((13 : Int32) + ((4 : Int32) * a1)) + (2 : Int32)).toNatClampNeg) ((σ.1 259 ((((13 : Int32) + ((4 : Int32) * a1)) + (2 : Int32)).toNatClampNeg)) + (1 : Int32))).1 259 12) ||| ((psI σ 259 ((((13 : Int32) + ((4 : Int32) * a1)) + (2 : Int32)).toNatClampNeg) ((σ.1 259 ((((13 : Int32) + ((4 : Int32) * a1)) + (2 : Int32)).toNatClampNeg)) + (1 : Int32))).1 259 ((((13 : Int32) + ((4 : Int32) * a1)) + (3 : Int32)).toNatClampNeg)))).1 259 12)) else none) else (if 0 ≤ (((13 : Int32) + ((4 : Int32) * a1)) + (3 : Int32)) ∧ (((13 : Int32) + ((4 : Int32) * a1)) + (3 : Int32)).toNatClampNeg < 179 then some (psI (psI (psI (psI σ 259 ((((13 : Int32) + ((4 : Int32) * a1)) + (2 : Int32)).toNatClampNeg) ((σ.1 259 ((((13 : Int32) + ((4 : Int32) * a1)) + (2 : Int32)).toNatClampNeg)) + (1 : Int32))) 259 ((((13 : Int32) + ((4 : Int32) * a1)) + (1 : Int32)).toNatClampNeg) (((psI σ 259 ((((13 : Int32) + ((4 : Int32) * a1)) + (2 : Int32)).toNatClampNeg) ((σ.1 259 ((((13 : Int32) + ((4 : Int32) * a1)) + (2 : Int32)).toNatClampNeg)) + (1 : Int32))).1 259 ((((13 : Int32) + ((4 : Int32) * a1)) + (1 : Int32)).toNatClampNeg)) - (1 : Int32))) 259 12 (((psI (psI σ 259 ((((13 : Int32) + ((4 : Int32) * a1)) + (2 : Int32)).toNatClampNeg) ((σ.1 259 ((((13 : Int32) + ((4 : Int32) * a1)) + (2 : Int32)).toNatClampNeg)) + (1 : Int32))) 259 ((((13 : Int32) + ((4 : Int32) * a1)) + (1 : Int32)).toNatClampNeg) (((psI σ 259 ((((13 : Int32) + ((4 : Int32) * a1)) + (2 : Int32)).toNatClampNeg) ((σ.1 259 ((((13 : Int32) + ((4 : Int32) * a1)) + (2 : Int32)).toNatClampNeg)) + (1 : Int32))).1 259 ((((13 : Int32) + ((4 : Int32) * a1)) + (1 : Int32)).toNatClampNeg)) - (1 : Int32))).1 259 12) ||| ((psI (psI σ 259 ((((13 : Int32) + ((4 : Int32) * a1)) + (2 : Int32)).toNatClampNeg) ((σ.1 259 ((((13 : Int32) + ((4 : Int32) * a1)) + (2 : Int32)).toNatClampNeg)) + (1 : Int32))) 259 ((((13 : Int32) + ((4 : Int32) * a1)) + (1 : Int32)).toNatClampNeg) (((psI σ 259 ((((13 : Int32) + ((4 : Int32) * a1)) + (2 : Int32)).toNatClampNeg) ((σ.1 259 ((((13 : Int32) + ((4 : Int32) * a1)) + (2 : Int32)).toNatClampNeg)) + (1 : Int32))).1 259 ((((13 : Int32) + ((4 : Int32) * a1)) + (1 : Int32)).toNatClampNeg)) - (1 : Int32))).1 259 ((((13 : Int32) + ((4 : Int32) * a1)) + (3 : Int32)).toNatClampNeg)))) 259 ((((13 : Int32) + ((4 : Int32) * a1)) + (3 : Int32)).toNatClampNeg) ((psI (psI (psI σ 259 ((((13 : Int32) + ((4 : Int32) * a1)) + (2 : Int32)).toNatClampNeg) ((σ.1 259 ((((13 : Int32) + ((4 : Int32) * a1)) + (2 : Int32)).toNatClampNeg)) + (1 : Int32))) 259 ((((13 : Int32) + ((4 : Int32) * a1)) + (1 : Int32)).toNatClampNeg) (((psI σ 259 ((((13 : Int32) + ((4 : Int32) * a1)) + (2 : Int32)).toNatClampNeg) ((σ.1 259 ((((13 : Int32) + ((4 : Int32) * a1)) + (2 : Int32)).toNatClampNeg)) + (1 : Int32))).1 259 ((((13 : Int32) + ((4 : Int32) * a1)) + (1 : Int32)).toNatClampNeg)) - (1 : Int32))) 259 12 (((psI (psI σ 259 ((((13 : Int32) + ((4 : Int32) * a1)) + (2 : Int32)).toNatClampNeg) ((σ.1 259 ((((13 : Int32) + ((4 : Int32) * a1)) + (2 : Int32)).toNatClampNeg)) + (1 : Int32))) 259 ((((13 : Int32) + ((4 : Int32) * a1)) + (1 : Int32)).toNatClampNeg) (((psI σ 259 ((((13 : Int32) + ((4 : Int32) * a1)) + (2 : Int32)).toNatClampNeg) ((σ.1 259 ((((13 : Int32) + ((4 : Int32) * a1)) + (2 : Int32)).toNatClampNeg)) + (1 : Int32))).1 259 ((((13 : Int32) + ((4 : Int32) * a1)) + (1 : Int32)).toNatClampNeg)) - (1 : Int32))).1 259 12) ||| ((psI (psI σ 259 ((((13 : Int32) + ((4 : Int32) * a1)) + (2 : Int32)).toNatClampNeg) ((σ.1 259 ((((13 : Int32) + ((4 : Int32) * a1)) + (2 : Int32)).toNatClampNeg)) + (1 : Int32))) 259 ((((13 : Int32) + ((4 : Int32) * a1)) + (1 : Int32)).toNatClampNeg) (((psI σ 259 ((((13 : Int32) + ((4 : Int32) * a1)) + (2 : Int32)).toNatClampNeg) ((σ.1 259 ((((13 : Int32) + ((4 : Int32) * a1)) + (2 : Int32)).toNatClampNeg)) + (1 : Int32))).1 259 ((((13 : Int32) + ((4 : Int32) * a1)) + (1 : Int32)).toNatClampNeg)) - (1 : Int32))).1 259 ((((13 : Int32) + ((4 : Int32) * a1)) + (3 : Int32)).toNatClampNeg)))).1 259 12)) else none)) else none) else none)
theorem gm_X12_asks : gM "AskedCampModel" yX12_asks (Cond.code yX12_asks cX12_asks 3 (Option.none : Option Jvm.ClassFile.FieldType)) 1 := ⟨by decide +kernel, tw_1482, tw_p81, tw_12, tw_1483⟩
set_option maxHeartbeats 4000000 in
set_option maxRecDepth 100000 in
theorem c_X12_asks (l : Launch) (D : va_G) (ad : Nat → Nat) (ca : Nat → ClassId) (kz : Nat → Nat) (hJ : pInj ad) (n : Nat) (a1 : Int32) (σ : PS) (out : PS) (hF : F_X12_asks n a1 σ = some out) : Met l yX12_asks (Cond.code yX12_asks cX12_asks 3 (Option.none : Option Jvm.ClassFile.FieldType) :: gw_tbl) { frames := 0, cells := 0, slots := 0, locals := 0 } (va_Pc [.ref (ad (249)), .int a1] (pU D ad ca kz σ)) (pQv D ad ca out) 0 0 (pAD ad) := by
  refine q_entry (own := "AskedCampModel") hJ (by decide) rfl (Nat.le_of_ble_eq_true rfl) (fun p e s m below meth c C hr hlk => ?_)
  refine q_lv [(0, .ref (ad (249))), (1, .int a1)] rfl ?_
  rw [F_X12_asks] at hF
  refine q_bipush (v := 13) C dX12_asks_0 (by decide) ?_
  refine q_iconst (v := 4) C dX12_asks_2 (by decide) ?_
  refine q_iload_n C 1 dX12_asks_3 rfl rfl ?_
  refine q_imul C dX12_asks_4 ?_
  refine q_iadd C dX12_asks_5 ?_
  refine q_istore_n C [(2, .int ((13 : Int32) + ((4 : Int32) * a1))), (0, .ref (ad (249))), (1, .int a1)] dX12_asks_6 rfl (by decide) rfl ?_
  refine q_aload_n C 1 dX12_asks_7 rfl rfl ?_
  refine qg_11_20 C pi_249 tw_1073 dX12_asks_8 ?_
  refine q_iload_n C 0 dX12_asks_11 rfl rfl ?_
  refine q_iconst (v := 2) C dX12_asks_12 (by decide) ?_
  refine q_iadd C dX12_asks_13 ?_
  refine q_dup2 C dX12_asks_14 rfl rfl ?_
  obtain ⟨g1, hF⟩ := grd hF
  refine q_iald C pa_259 (vp_of g1) dX12_asks_15 ?_
  refine q_iconst (v := 1) C dX12_asks_16 (by decide) ?_
  refine q_iadd C dX12_asks_17 ?_
  refine q_iast C pa_259 (vp_of g1) dX12_asks_18 ?_
  refine q_aload_n C 1 dX12_asks_19 rfl rfl ?_
  refine qg_11_20 C pi_249 tw_1073 dX12_asks_20 ?_
  refine q_iload_n C 0 dX12_asks_23 rfl rfl ?_
  refine q_iconst (v := 1) C dX12_asks_24 (by decide) ?_
  refine q_iadd C dX12_asks_25 ?_
  obtain ⟨g2, hF⟩ := grd hF
  refine q_iald C pa_259 (vp_of g2) dX12_asks_26 ?_
  refine q_if_le (tgt := 42) C dX12_asks_27 (by decide) (fun c3 => ?_) (fun c3 => ?_)
  · replace hF := ift c3 hF
    refine q_aload_n C 1 dX12_asks_42 rfl rfl ?_
    refine qg_11_20 C pi_249 tw_1073 dX12_asks_43 ?_
    refine q_bipush (v := 12) C dX12_asks_46 (by decide) ?_
    refine q_dup2 C dX12_asks_48 rfl rfl ?_
    refine q_ialdk (jn := 12) C pa_259 (vp_of (by decide)) rfl dX12_asks_49 ?_
    refine q_aload_n C 1 dX12_asks_50 rfl rfl ?_
    refine qg_11_20 C pi_249 tw_1073 dX12_asks_51 ?_
    refine q_iload_n C 0 dX12_asks_54 rfl rfl ?_
    refine q_iconst (v := 3) C dX12_asks_55 (by decide) ?_
    refine q_iadd C dX12_asks_56 ?_
    obtain ⟨g4, hF⟩ := grd hF
    refine q_iald C pa_259 (vp_of g4) dX12_asks_57 ?_
    refine q_ior C dX12_asks_58 ?_
    refine q_iastk (jn := 12) C pa_259 (vp_of (by decide)) rfl dX12_asks_59 ?_
    refine q_aload_n C 1 dX12_asks_60 rfl rfl ?_
    refine qg_11_20 C pi_249 tw_1073 dX12_asks_61 ?_
    refine q_iload_n C 0 dX12_asks_64 rfl rfl ?_
    refine q_iconst (v := 3) C dX12_asks_65 (by decide) ?_
    refine q_iadd C dX12_asks_66 ?_
    refine q_aload_n C 1 dX12_asks_67 rfl rfl ?_
    refine qg_11_20 C pi_249 tw_1073 dX12_asks_68 ?_
    refine q_bipush (v := 12) C dX12_asks_71 (by decide) ?_
    refine q_ialdk (jn := 12) C pa_259 (vp_of (by decide)) rfl dX12_asks_73 ?_
    refine q_iast C pa_259 (vp_of g4) dX12_asks_74 ?_
    exact q_vret C hr hlk dX12_asks_75 hF
  · replace hF := ife c3 hF
    refine q_aload_n C 1 dX12_asks_30 rfl rfl ?_
    refine qg_11_20 C pi_249 tw_1073 dX12_asks_31 ?_
    refine q_iload_n C 0 dX12_asks_34 rfl rfl ?_
    refine q_iconst (v := 1) C dX12_asks_35 (by decide) ?_
    refine q_iadd C dX12_asks_36 ?_
    refine q_dup2 C dX12_asks_37 rfl rfl ?_
    refine q_iald C pa_259 (vp_of g2) dX12_asks_38 ?_
    refine q_iconst (v := 1) C dX12_asks_39 (by decide) ?_
    refine q_isub C dX12_asks_40 ?_
    refine q_iast C pa_259 (vp_of g2) dX12_asks_41 ?_
    refine q_aload_n C 1 dX12_asks_42 rfl rfl ?_
    refine qg_11_20 C pi_249 tw_1073 dX12_asks_43 ?_
    refine q_bipush (v := 12) C dX12_asks_46 (by decide) ?_
    refine q_dup2 C dX12_asks_48 rfl rfl ?_
    refine q_ialdk (jn := 12) C pa_259 (vp_of (by decide)) rfl dX12_asks_49 ?_
    refine q_aload_n C 1 dX12_asks_50 rfl rfl ?_
    refine qg_11_20 C pi_249 tw_1073 dX12_asks_51 ?_
    refine q_iload_n C 0 dX12_asks_54 rfl rfl ?_
    refine q_iconst (v := 3) C dX12_asks_55 (by decide) ?_
    refine q_iadd C dX12_asks_56 ?_
    obtain ⟨g5, hF⟩ := grd hF
    refine q_iald C pa_259 (vp_of g5) dX12_asks_57 ?_
    refine q_ior C dX12_asks_58 ?_
    refine q_iastk (jn := 12) C pa_259 (vp_of (by decide)) rfl dX12_asks_59 ?_
    refine q_aload_n C 1 dX12_asks_60 rfl rfl ?_
    refine qg_11_20 C pi_249 tw_1073 dX12_asks_61 ?_
    refine q_iload_n C 0 dX12_asks_64 rfl rfl ?_
    refine q_iconst (v := 3) C dX12_asks_65 (by decide) ?_
    refine q_iadd C dX12_asks_66 ?_
    refine q_aload_n C 1 dX12_asks_67 rfl rfl ?_
    refine qg_11_20 C pi_249 tw_1073 dX12_asks_68 ?_
    refine q_bipush (v := 12) C dX12_asks_71 (by decide) ?_
    refine q_ialdk (jn := 12) C pa_259 (vp_of (by decide)) rfl dX12_asks_73 ?_
    refine q_iast C pa_259 (vp_of g5) dX12_asks_74 ?_
    exact q_vret C hr hlk dX12_asks_75 hF
-- X12_cells
def F_X12_cells (n : Nat) (σ : PS) : Option (Int32 × PS) := some (((σ.1 259 1) * (σ.1 259 1)), σ)
theorem gm_X12_cells : gM "AskedCampModel" yX12_cells (Cond.code yX12_cells cX12_cells 1 (Option.some Jvm.ClassFile.FieldType.int)) 0 := ⟨by decide +kernel, tw_1384, tw_p61, tw_12, tw_1385⟩
set_option maxHeartbeats 4000000 in
set_option maxRecDepth 100000 in
theorem c_X12_cells (l : Launch) (D : va_G) (ad : Nat → Nat) (ca : Nat → ClassId) (kz : Nat → Nat) (hJ : pInj ad) (n : Nat) (σ : PS) (out : Int32 × PS) (hF : F_X12_cells n σ = some out) : Met l yX12_cells (Cond.code yX12_cells cX12_cells 1 (Option.some Jvm.ClassFile.FieldType.int) :: gw_tbl) { frames := 0, cells := 0, slots := 0, locals := 0 } (va_Pc [.ref (ad (249))] (pU D ad ca kz σ)) (pQi D ad ca out) 0 0 (pAD ad) := by
  refine q_entry (own := "AskedCampModel") hJ (by decide) rfl (Nat.le_of_ble_eq_true rfl) (fun p e s m below meth c C hr hlk => ?_)
  refine q_lv [(0, .ref (ad (249)))] rfl ?_
  rw [F_X12_cells] at hF
  refine q_aload_n C 0 dX12_cells_0 rfl rfl ?_
  refine qg_11_20 C pi_249 tw_1073 dX12_cells_1 ?_
  refine q_iconst (v := 1) C dX12_cells_4 (by decide) ?_
  refine q_ialdk (jn := 1) C pa_259 (vp_of (by decide)) rfl dX12_cells_5 ?_
  refine q_aload_n C 0 dX12_cells_6 rfl rfl ?_
  refine qg_11_20 C pi_249 tw_1073 dX12_cells_7 ?_
  refine q_iconst (v := 1) C dX12_cells_10 (by decide) ?_
  refine q_ialdk (jn := 1) C pa_259 (vp_of (by decide)) rfl dX12_cells_11 ?_
  refine q_imul C dX12_cells_12 ?_
  exact q_iret C hr hlk dX12_cells_13 hF
-- X12_besideOf
def F_X12_besideOf (n : Nat) (a1 : Int32) (a2 : Int32) (σ : PS) : Option (Int32 × PS) := (if a2 = 0 then (if (σ.1 259 1) = 0 then none else (if (a1 - a1 / (σ.1 259 1) * (σ.1 259 1)) = 0 then some ((-1 : Int32), σ) else some ((a1 - (1 : Int32)), σ))) else (if a2 = (1 : Int32) then (if (σ.1 259 1) = 0 then none else (if (a1 - a1 / (σ.1 259 1) * (σ.1 259 1)) = ((σ.1 259 1) - (1 : Int32)) then some ((-1 : Int32), σ) else some ((a1 + (1 : Int32)), σ))) else (if a2 = (2 : Int32) then (if (σ.1 259 1) ≤ a1 then some ((a1 - (σ.1 259 1)), σ) else some ((-1 : Int32), σ)) else (F_X12_cells n σ).bind (fun q4 => (if q4.1 ≤ (a1 + (σ.1 259 1)) then some ((-1 : Int32), q4.2) else some ((a1 + (σ.1 259 1)), q4.2))))))
theorem gm_X12_besideOf : gM "AskedCampModel" yX12_besideOf (Cond.code yX12_besideOf cX12_besideOf 4 (Option.some Jvm.ClassFile.FieldType.int)) 2 := ⟨by decide +kernel, tw_1429, tw_p70, tw_12, tw_1430⟩
set_option maxHeartbeats 4000000 in
set_option maxRecDepth 100000 in
theorem c_X12_besideOf (l : Launch) (D : va_G) (ad : Nat → Nat) (ca : Nat → ClassId) (kz : Nat → Nat) (hJ : pInj ad) (n : Nat) (a1 : Int32) (a2 : Int32) (σ : PS) (out : Int32 × PS) (hF : F_X12_besideOf n a1 a2 σ = some out) : Met l yX12_besideOf (Cond.code yX12_besideOf cX12_besideOf 4 (Option.some Jvm.ClassFile.FieldType.int) :: gw_tbl) { frames := 1, cells := 0, slots := 0, locals := 20 } (va_Pc [.ref (ad (249)), .int a1, .int a2] (pU D ad ca kz σ)) (pQi D ad ca out) 0 0 (pAD ad) := by
  refine q_entry (own := "AskedCampModel") hJ (by decide) rfl (Nat.le_of_ble_eq_true rfl) (fun p e s m below meth c C hr hlk => ?_)
  refine q_lv [(0, .ref (ad (249))), (1, .int a1), (2, .int a2)] rfl ?_
  rw [F_X12_besideOf] at hF
  refine q_aload_n C 0 dX12_besideOf_0 rfl rfl ?_
  refine qg_11_20 C pi_249 tw_1073 dX12_besideOf_1 ?_
  refine q_iconst (v := 1) C dX12_besideOf_4 (by decide) ?_
  refine q_ialdk (jn := 1) C pa_259 (vp_of (by decide)) rfl dX12_besideOf_5 ?_
  refine q_istore_n C [(3, .int (σ.1 259 1)), (0, .ref (ad (249))), (1, .int a1), (2, .int a2)] dX12_besideOf_6 rfl (by decide) rfl ?_
  refine q_iload_n C 3 dX12_besideOf_7 rfl rfl ?_
  refine q_if_ne (tgt := 25) C dX12_besideOf_8 (by decide) (fun c1 => ?_) (fun c1 => ?_)
  · replace hF := ife c1 hF
    refine q_iload_n C 3 dX12_besideOf_25 rfl rfl ?_
    refine q_iconst (v := 1) C dX12_besideOf_26 (by decide) ?_
    refine q_icmp_ne (tgt := 47) C dX12_besideOf_27 (by decide) (fun c2 => ?_) (fun c2 => ?_)
    · replace hF := ife c2 hF
      refine q_iload_n C 3 dX12_besideOf_47 rfl rfl ?_
      refine q_iconst (v := 2) C dX12_besideOf_48 (by decide) ?_
      refine q_icmp_ne (tgt := 65) C dX12_besideOf_49 (by decide) (fun c3 => ?_) (fun c3 => ?_)
      · replace hF := ife c3 hF
        refine q_iload_n C 2 dX12_besideOf_65 rfl rfl ?_
        refine q_iload_n C 0 dX12_besideOf_66 rfl rfl ?_
        refine q_iadd C dX12_besideOf_67 ?_
        refine q_aload_n C 1 dX12_besideOf_68 rfl rfl ?_
        obtain ⟨q4, h5, hF⟩ := bnd hF
        try dsimp only at hF
        refine q_callVi C [] (c_X12_cells l D ad ca kz C.2.2.2.2.2.2.1 _ _ _ h5) tw_1382 gm_X12_cells pi_249.1 (pe_11 pi_249.2) rfl ⟨rfl, rfl⟩ ⟨Nat.le_of_ble_eq_true rfl, Nat.le_of_ble_eq_true rfl⟩ rfl (Nat.le_of_ble_eq_true rfl) dX12_besideOf_69 q00 ?_
        refine q_icmp_ge (tgt := 81) C dX12_besideOf_72 (by decide) (fun c6 => ?_) (fun c6 => ?_)
        · replace hF := ift c6 hF
          refine q_iconst (v := -1) C dX12_besideOf_81 (by decide) ?_
          exact q_iret C hr hlk dX12_besideOf_82 hF
        · replace hF := ife c6 hF
          refine q_iload_n C 2 dX12_besideOf_75 rfl rfl ?_
          refine q_iload_n C 0 dX12_besideOf_76 rfl rfl ?_
          refine q_iadd C dX12_besideOf_77 ?_
          refine q_goto (tgt := 82) C dX12_besideOf_78 (by decide) ?_
          exact q_iret C hr hlk dX12_besideOf_82 hF
      · replace hF := ift c3 hF
        refine q_iload_n C 2 dX12_besideOf_52 rfl rfl ?_
        refine q_iload_n C 0 dX12_besideOf_53 rfl rfl ?_
        refine q_icmp_ge (tgt := 61) C dX12_besideOf_54 (by decide) (fun c7 => ?_) (fun c7 => ?_)
        · replace hF := ift c7 hF
          refine q_iload_n C 2 dX12_besideOf_61 rfl rfl ?_
          refine q_iload_n C 0 dX12_besideOf_62 rfl rfl ?_
          refine q_isub C dX12_besideOf_63 ?_
          exact q_iret C hr hlk dX12_besideOf_64 hF
        · replace hF := ife c7 hF
          refine q_iconst (v := -1) C dX12_besideOf_57 (by decide) ?_
          refine q_goto (tgt := 64) C dX12_besideOf_58 (by decide) ?_
          exact q_iret C hr hlk dX12_besideOf_64 hF
    · replace hF := ift c2 hF
      refine q_iload_n C 2 dX12_besideOf_30 rfl rfl ?_
      refine q_iload_n C 0 dX12_besideOf_31 rfl rfl ?_
      obtain ⟨g8, hF⟩ := grn hF
      refine q_irem C dX12_besideOf_32 g8 ?_
      refine q_iload_n C 0 dX12_besideOf_33 rfl rfl ?_
      refine q_iconst (v := 1) C dX12_besideOf_34 (by decide) ?_
      refine q_isub C dX12_besideOf_35 ?_
      refine q_icmp_ne (tgt := 43) C dX12_besideOf_36 (by decide) (fun c9 => ?_) (fun c9 => ?_)
      · replace hF := ife c9 hF
        refine q_iload_n C 2 dX12_besideOf_43 rfl rfl ?_
        refine q_iconst (v := 1) C dX12_besideOf_44 (by decide) ?_
        refine q_iadd C dX12_besideOf_45 ?_
        exact q_iret C hr hlk dX12_besideOf_46 hF
      · replace hF := ift c9 hF
        refine q_iconst (v := -1) C dX12_besideOf_39 (by decide) ?_
        refine q_goto (tgt := 46) C dX12_besideOf_40 (by decide) ?_
        exact q_iret C hr hlk dX12_besideOf_46 hF
  · replace hF := ift c1 hF
    refine q_iload_n C 2 dX12_besideOf_11 rfl rfl ?_
    refine q_iload_n C 0 dX12_besideOf_12 rfl rfl ?_
    obtain ⟨g10, hF⟩ := grn hF
    refine q_irem C dX12_besideOf_13 g10 ?_
    refine q_if_ne (tgt := 21) C dX12_besideOf_14 (by decide) (fun c11 => ?_) (fun c11 => ?_)
    · replace hF := ife c11 hF
      refine q_iload_n C 2 dX12_besideOf_21 rfl rfl ?_
      refine q_iconst (v := 1) C dX12_besideOf_22 (by decide) ?_
      refine q_isub C dX12_besideOf_23 ?_
      exact q_iret C hr hlk dX12_besideOf_24 hF
    · replace hF := ift c11 hF
      refine q_iconst (v := -1) C dX12_besideOf_17 (by decide) ?_
      refine q_goto (tgt := 24) C dX12_besideOf_18 (by decide) ?_
      exact q_iret C hr hlk dX12_besideOf_24 hF
-- X12_areBeside
def L_X12_areBeside_2 (n : Nat) : Nat → Int32 → Int32 → Int32 → PS → Option (Nat × PS)
  | 0, _, _, _, _ => none
  | k + 1, x1, x2, x3, σ => (if (4 : Int32) ≤ x3 then some (1, σ) else (F_X12_besideOf n x1 x3 σ).bind (fun q2 => (if q2.1 = x2 then some (0, q2.2) else L_X12_areBeside_2 n k x1 x2 (x3 + 1) q2.2)))
def F_X12_areBeside (n : Nat) (a1 : Int32) (a2 : Int32) (σ : PS) : Option (Int32 × PS) := (L_X12_areBeside_2 n n a1 a2 (0 : Int32) σ).bind (fun o5 => (if o5.1 = 0 then some ((1 : Int32), o5.2) else some ((0 : Int32), o5.2)))
theorem gm_X12_areBeside : gM "AskedCampModel" yX12_areBeside (Cond.code yX12_areBeside cX12_areBeside 4 (Option.some Jvm.ClassFile.FieldType.boolean)) 2 := ⟨by decide +kernel, tw_1441, tw_p73, tw_12, tw_1442⟩
set_option maxHeartbeats 4000000 in
set_option maxRecDepth 100000 in
theorem l_X12_areBeside_2 {p : Program} {l : Launch} {e : Env} {R : Room} {s : State} {m : MethodId} {args : Array Value} {below : List Frame} {meth : Method} {c : Code} {D : va_G} {ad : Nat → Nat} {ca : Nat → ClassId} {kz : Nat → Nat} {Q : State → Prop} (C : pC p s m args c cX12_areBeside "AskedCampModel" 4 D ad ca kz) (hR : 2 ≤ R.frames ∧ 43 ≤ R.locals) {n : Nat} (o : Nat × PS) (hx0 : o.1 = 0 → PW p l e R s m args below meth c 4 D ad ca 0 0 Q (o.2) 17 [] []) (hx1 : o.1 = 1 → PW p l e R s m args below meth c 4 D ad ca 0 0 Q (o.2) 25 [] []) : ∀ (k : Nat) (x1 : Int32) (x2 : Int32) (x3 : Int32) (σ : PS), L_X12_areBeside_2 n k x1 x2 x3 σ = some o → PW p l e R s m args below meth c 4 D ad ca 0 0 Q σ 2 [(0, .ref (ad (249))), (1, .int x1), (2, .int x2), (3, .int x3)] [] := by
  intro k
  induction k with
  | zero => intro x1 x2 x3 σ hF; exact nomatch (show (none : Option (Nat × PS)) = some o from hF)
  | succ k ih =>
    intro x1 x2 x3 σ hF
    rw [L_X12_areBeside_2] at hF
    refine q_iload_n C 3 dX12_areBeside_2 rfl rfl ?_
    refine q_iconst (v := 4) C dX12_areBeside_3 (by decide) ?_
    refine q_icmp_ge (tgt := 25) C dX12_areBeside_4 (by decide) (fun c1 => ?_) (fun c1 => ?_)
    · replace hF := ift c1 hF
      cases hF
      refine q_sub [] rfl ?_
      exact hx1 rfl
    · replace hF := ife c1 hF
      refine q_aload_n C 0 dX12_areBeside_7 rfl rfl ?_
      refine q_iload_n C 1 dX12_areBeside_8 rfl rfl ?_
      refine q_iload_n C 3 dX12_areBeside_9 rfl rfl ?_
      obtain ⟨q2, h3, hF⟩ := bnd hF
      try dsimp only at hF
      refine q_callVi C [.int x1, .int x3] (c_X12_besideOf l D ad ca kz C.2.2.2.2.2.2.1 _ _ _ _ _ h3) tw_1427 gm_X12_besideOf pi_249.1 (pe_11 pi_249.2) rfl ⟨rfl, rfl⟩ ⟨Nat.le_trans (Nat.le_of_ble_eq_true rfl) hR.1, Nat.le_trans (Nat.le_of_ble_eq_true rfl) hR.2⟩ rfl (Nat.le_of_ble_eq_true rfl) dX12_areBeside_10 q00 ?_
      refine q_iload_n C 2 dX12_areBeside_13 rfl rfl ?_
      refine q_icmp_ne (tgt := 19) C dX12_areBeside_14 (by decide) (fun c4 => ?_) (fun c4 => ?_)
      · replace hF := ife c4 hF
        refine q_iinc C 3 [(3, .int (x3 + 1)), (0, .ref (ad (249))), (1, .int x1), (2, .int x2)] dX12_areBeside_19 rfl rfl (by decide) rfl ?_
        refine q_goto (tgt := 2) C dX12_areBeside_22 (by decide) ?_
        refine q_sub [1, 2, 3, 0] rfl ?_
        exact ih _ _ _ _ hF
      · replace hF := ift c4 hF
        cases hF
        refine q_sub [] rfl ?_
        exact hx0 rfl
set_option maxHeartbeats 4000000 in
set_option maxRecDepth 100000 in
theorem c_X12_areBeside (l : Launch) (D : va_G) (ad : Nat → Nat) (ca : Nat → ClassId) (kz : Nat → Nat) (hJ : pInj ad) (n : Nat) (a1 : Int32) (a2 : Int32) (σ : PS) (out : Int32 × PS) (hF : F_X12_areBeside n a1 a2 σ = some out) : Met l yX12_areBeside (Cond.code yX12_areBeside cX12_areBeside 4 (Option.some Jvm.ClassFile.FieldType.boolean) :: gw_tbl) { frames := 2, cells := 0, slots := 0, locals := 43 } (va_Pc [.ref (ad (249)), .int a1, .int a2] (pU D ad ca kz σ)) (pQi D ad ca out) 0 0 (pAD ad) := by
  refine q_entry (own := "AskedCampModel") hJ (by decide) rfl (Nat.le_of_ble_eq_true rfl) (fun p e s m below meth c C hr hlk => ?_)
  refine q_lv [(0, .ref (ad (249))), (1, .int a1), (2, .int a2)] rfl ?_
  rw [F_X12_areBeside] at hF
  refine q_iconst (v := 0) C dX12_areBeside_0 (by decide) ?_
  refine q_istore_n C [(3, .int 0), (0, .ref (ad (249))), (1, .int a1), (2, .int a2)] dX12_areBeside_1 rfl (by decide) rfl ?_
  obtain ⟨o5, h6, hF⟩ := bnd hF
  try dsimp only at hF
  refine q_sub [1, 2, 3, 0] rfl ?_
  refine l_X12_areBeside_2 C ⟨Nat.le_of_ble_eq_true rfl, Nat.le_of_ble_eq_true rfl⟩ o5 (fun eo5_0 => ?_) (fun eo5_1 => ?_) n _ _ _ _ h6
  · -- exit 0
    replace hF := ift eo5_0 hF
    refine q_iconst (v := 1) C dX12_areBeside_17 (by decide) ?_
    exact q_zret C hr hlk dX12_areBeside_18 (by decide) hF
  · -- exit 1
    replace hF := ife (by rw [eo5_1]; decide) hF
    refine q_iconst (v := 0) C dX12_areBeside_25 (by decide) ?_
    exact q_zret C hr hlk dX12_areBeside_26 (by decide) hF
-- X12_isBush
def F_X12_isBush (n : Nat) (a1 : Int32) (σ : PS) : Option (Int32 × PS) := (if 0 ≤ ((37 : Int32) + a1) ∧ ((37 : Int32) + a1).toNatClampNeg < 179 then (if (σ.1 259 (((37 : Int32) + a1).toNatClampNeg)) ≤ 0 then some ((0 : Int32), σ) else some ((1 : Int32), σ)) else none)
theorem gm_X12_isBush : gM "AskedCampModel" yX12_isBush (Cond.code yX12_isBush cX12_isBush 2 (Option.some Jvm.ClassFile.FieldType.boolean)) 1 := ⟨by decide +kernel, tw_1433, tw_p71, tw_12, tw_1434⟩
set_option maxHeartbeats 4000000 in
set_option maxRecDepth 100000 in
theorem c_X12_isBush (l : Launch) (D : va_G) (ad : Nat → Nat) (ca : Nat → ClassId) (kz : Nat → Nat) (hJ : pInj ad) (n : Nat) (a1 : Int32) (σ : PS) (out : Int32 × PS) (hF : F_X12_isBush n a1 σ = some out) : Met l yX12_isBush (Cond.code yX12_isBush cX12_isBush 2 (Option.some Jvm.ClassFile.FieldType.boolean) :: gw_tbl) { frames := 0, cells := 0, slots := 0, locals := 0 } (va_Pc [.ref (ad (249)), .int a1] (pU D ad ca kz σ)) (pQi D ad ca out) 0 0 (pAD ad) := by
  refine q_entry (own := "AskedCampModel") hJ (by decide) rfl (Nat.le_of_ble_eq_true rfl) (fun p e s m below meth c C hr hlk => ?_)
  refine q_lv [(0, .ref (ad (249))), (1, .int a1)] rfl ?_
  rw [F_X12_isBush] at hF
  refine q_aload_n C 0 dX12_isBush_0 rfl rfl ?_
  refine qg_11_20 C pi_249 tw_1073 dX12_isBush_1 ?_
  refine q_bipush (v := 37) C dX12_isBush_4 (by decide) ?_
  refine q_iload_n C 1 dX12_isBush_6 rfl rfl ?_
  refine q_iadd C dX12_isBush_7 ?_
  obtain ⟨g1, hF⟩ := grd hF
  refine q_iald C pa_259 (vp_of g1) dX12_isBush_8 ?_
  refine q_if_le (tgt := 16) C dX12_isBush_9 (by decide) (fun c2 => ?_) (fun c2 => ?_)
  · replace hF := ift c2 hF
    refine q_iconst (v := 0) C dX12_isBush_16 (by decide) ?_
    exact q_zret C hr hlk dX12_isBush_17 (by decide) hF
  · replace hF := ife c2 hF
    refine q_iconst (v := 1) C dX12_isBush_12 (by decide) ?_
    refine q_goto (tgt := 17) C dX12_isBush_13 (by decide) ?_
    exact q_zret C hr hlk dX12_isBush_17 (by decide) hF
-- X12_cellOf
def F_X12_cellOf (n : Nat) (a1 : Int32) (σ : PS) : Option (Int32 × PS) := (if 0 ≤ ((13 : Int32) + ((4 : Int32) * a1)) ∧ ((13 : Int32) + ((4 : Int32) * a1)).toNatClampNeg < 179 then some ((σ.1 259 (((13 : Int32) + ((4 : Int32) * a1)).toNatClampNeg)), σ) else none)
theorem gm_X12_cellOf : gM "AskedCampModel" yX12_cellOf (Cond.code yX12_cellOf cX12_cellOf 2 (Option.some Jvm.ClassFile.FieldType.int)) 1 := ⟨by decide +kernel, tw_1393, tw_p63, tw_12, tw_1394⟩
set_option maxHeartbeats 4000000 in
set_option maxRecDepth 100000 in
theorem c_X12_cellOf (l : Launch) (D : va_G) (ad : Nat → Nat) (ca : Nat → ClassId) (kz : Nat → Nat) (hJ : pInj ad) (n : Nat) (a1 : Int32) (σ : PS) (out : Int32 × PS) (hF : F_X12_cellOf n a1 σ = some out) : Met l yX12_cellOf (Cond.code yX12_cellOf cX12_cellOf 2 (Option.some Jvm.ClassFile.FieldType.int) :: gw_tbl) { frames := 0, cells := 0, slots := 0, locals := 0 } (va_Pc [.ref (ad (249)), .int a1] (pU D ad ca kz σ)) (pQi D ad ca out) 0 0 (pAD ad) := by
  refine q_entry (own := "AskedCampModel") hJ (by decide) rfl (Nat.le_of_ble_eq_true rfl) (fun p e s m below meth c C hr hlk => ?_)
  refine q_lv [(0, .ref (ad (249))), (1, .int a1)] rfl ?_
  rw [F_X12_cellOf] at hF
  refine q_aload_n C 0 dX12_cellOf_0 rfl rfl ?_
  refine qg_11_20 C pi_249 tw_1073 dX12_cellOf_1 ?_
  refine q_bipush (v := 13) C dX12_cellOf_4 (by decide) ?_
  refine q_iconst (v := 4) C dX12_cellOf_6 (by decide) ?_
  refine q_iload_n C 1 dX12_cellOf_7 rfl rfl ?_
  refine q_imul C dX12_cellOf_8 ?_
  refine q_iadd C dX12_cellOf_9 ?_
  obtain ⟨g1, hF⟩ := grd hF
  refine q_iald C pa_259 (vp_of g1) dX12_cellOf_10 ?_
  exact q_iret C hr hlk dX12_cellOf_11 hF
-- X12_measures
def L_X12_measures_2 (n : Nat) : Nat → Int32 → Int32 → PS → Option (Int32 × PS)
  | 0, _, _, _ => none
  | k + 1, x1, x2, σ => (if (36 : Int32) ≤ x2 then some (x1, σ) else (if 0 ≤ x2 ∧ x2.toNatClampNeg < 36 then L_X12_measures_2 n k x1 (x2 + 1) (psI σ 260 x2.toNatClampNeg (99 : Int32)) else none))
def L_X12_measures_59 (n : Nat) : Nat → Int32 → Int32 → Int32 → Int32 → PS → Option (Int32 × Int32 × PS)
  | 0, _, _, _, _, _ => none
  | k + 1, x2, x3, x4, x5, σ => (if (4 : Int32) ≤ x5 then some (x2, x3, σ) else (F_X12_besideOf n x4 x5 σ).bind (fun q9 => (if q9.1 < 0 then L_X12_measures_59 n k x2 x3 x4 (x5 + 1) q9.2 else (F_X12_isBush n q9.1 q9.2).bind (fun q12 => (if q12.1 = 0 then (if 0 ≤ q9.1 ∧ q9.1.toNatClampNeg < 36 then (if (99 : Int32) ≤ (q12.2.1 260 q9.1.toNatClampNeg) then (if 0 ≤ x4 ∧ x4.toNatClampNeg < 36 then (if 0 ≤ x3 ∧ x3.toNatClampNeg < 36 then L_X12_measures_59 n k x2 (x3 + 1) x4 (x5 + 1) (psI (psI q12.2 260 q9.1.toNatClampNeg ((q12.2.1 260 x4.toNatClampNeg) + (1 : Int32))) 261 x3.toNatClampNeg q9.1) else none) else none) else L_X12_measures_59 n k x2 x3 x4 (x5 + 1) q12.2) else none) else L_X12_measures_59 n k x2 x3 x4 (x5 + 1) q12.2)))))
def L_X12_measures_40 (n : Nat) : Nat → Int32 → Int32 → PS → Option (PS)
  | 0, _, _, _ => none
  | k + 1, x2, x3, σ => (if x3 ≤ x2 then some σ else (if 0 ≤ x2 ∧ x2.toNatClampNeg < 36 then (L_X12_measures_59 n n (x2 + 1) x3 (σ.1 261 x2.toNatClampNeg) (0 : Int32) σ).bind (fun o8 => L_X12_measures_40 n k o8.1 o8.2.1 o8.2.2) else none))
def F_X12_measures (n : Nat) (a1 : Int32) (σ : PS) : Option (PS) := (L_X12_measures_2 n n a1 (0 : Int32) σ).bind (fun o3 => (if 0 ≤ o3.1 ∧ o3.1.toNatClampNeg < 36 then (L_X12_measures_40 n n (0 : Int32) (1 : Int32) (psI (psI o3.2 260 o3.1.toNatClampNeg (0 : Int32)) 261 0 o3.1)).bind (fun o10 => some o10) else none))
theorem gm_X12_measures : gM "AskedCampModel" yX12_measures (Cond.code yX12_measures cX12_measures 7 (Option.none : Option Jvm.ClassFile.FieldType)) 1 := ⟨by decide +kernel, tw_1425, tw_p69, tw_12, tw_1426⟩
set_option maxHeartbeats 4000000 in
set_option maxRecDepth 100000 in
theorem l_X12_measures_2 {p : Program} {l : Launch} {e : Env} {R : Room} {s : State} {m : MethodId} {args : Array Value} {below : List Frame} {meth : Method} {c : Code} {D : va_G} {ad : Nat → Nat} {ca : Nat → ClassId} {kz : Nat → Nat} {Q : State → Prop} (C : pC p s m args c cX12_measures "AskedCampModel" 7 D ad ca kz) (hR : 2 ≤ R.frames ∧ 43 ≤ R.locals) {n : Nat} (o : Int32 × PS) (hx0 : PW p l e R s m args below meth c 7 D ad ca 0 0 Q (o.2) 22 [(0, .ref (ad (249))), (1, .int o.1)] []) : ∀ (k : Nat) (x1 : Int32) (x2 : Int32) (σ : PS), L_X12_measures_2 n k x1 x2 σ = some o → PW p l e R s m args below meth c 7 D ad ca 0 0 Q σ 2 [(0, .ref (ad (249))), (1, .int x1), (2, .int x2)] [] := by
  intro k
  induction k with
  | zero => intro x1 x2 σ hF; exact nomatch (show (none : Option (Int32 × PS)) = some o from hF)
  | succ k ih =>
    intro x1 x2 σ hF
    rw [L_X12_measures_2] at hF
    refine q_iload_n C 2 dX12_measures_2 rfl rfl ?_
    refine q_bipush (v := 36) C dX12_measures_3 (by decide) ?_
    refine q_icmp_ge (tgt := 22) C dX12_measures_5 (by decide) (fun c1 => ?_) (fun c1 => ?_)
    · replace hF := ift c1 hF
      cases hF
      refine q_sub [0, 1] rfl ?_
      exact hx0
    · replace hF := ife c1 hF
      refine q_aload_n C 0 dX12_measures_8 rfl rfl ?_
      refine qg_11_23 C pi_249 tw_1076 dX12_measures_9 ?_
      refine q_iload_n C 2 dX12_measures_12 rfl rfl ?_
      refine q_bipush (v := 99) C dX12_measures_13 (by decide) ?_
      obtain ⟨g2, hF⟩ := grd hF
      refine q_iast C pa_260 (vp_of g2) dX12_measures_15 ?_
      refine q_iinc C 2 [(2, .int (x2 + 1)), (0, .ref (ad (249))), (1, .int x1)] dX12_measures_16 rfl rfl (by decide) rfl ?_
      refine q_goto (tgt := 2) C dX12_measures_19 (by decide) ?_
      refine q_sub [1, 2, 0] rfl ?_
      exact ih _ _ _ hF
set_option maxHeartbeats 4000000 in
set_option maxRecDepth 100000 in
theorem l_X12_measures_59 {p : Program} {l : Launch} {e : Env} {R : Room} {s : State} {m : MethodId} {args : Array Value} {below : List Frame} {meth : Method} {c : Code} {D : va_G} {ad : Nat → Nat} {ca : Nat → ClassId} {kz : Nat → Nat} {Q : State → Prop} (C : pC p s m args c cX12_measures "AskedCampModel" 7 D ad ca kz) (hR : 2 ≤ R.frames ∧ 43 ≤ R.locals) {n : Nat} (o : Int32 × Int32 × PS) (hx0 : PW p l e R s m args below meth c 7 D ad ca 0 0 Q (o.2.2) 137 [(0, .ref (ad (249))), (2, .int o.1), (3, .int o.2.1)] []) : ∀ (k : Nat) (x2 : Int32) (x3 : Int32) (x4 : Int32) (x5 : Int32) (σ : PS), L_X12_measures_59 n k x2 x3 x4 x5 σ = some o → PW p l e R s m args below meth c 7 D ad ca 0 0 Q σ 59 [(0, .ref (ad (249))), (2, .int x2), (3, .int x3), (4, .int x4), (5, .int x5)] [] := by
  intro k
  induction k with
  | zero => intro x2 x3 x4 x5 σ hF; exact nomatch (show (none : Option (Int32 × Int32 × PS)) = some o from hF)
  | succ k ih =>
    intro x2 x3 x4 x5 σ hF
    rw [L_X12_measures_59] at hF
    refine q_iload C 4 dX12_measures_59 rfl ?_
    refine q_iconst (v := 4) C dX12_measures_61 (by decide) ?_
    refine q_icmp_ge (tgt := 137) C dX12_measures_62 (by decide) (fun c8 => ?_) (fun c8 => ?_)
    · replace hF := ift c8 hF
      cases hF
      refine q_sub [0, 1, 2] rfl ?_
      exact hx0
    · replace hF := ife c8 hF
      refine q_aload_n C 0 dX12_measures_65 rfl rfl ?_
      refine q_iload C 3 dX12_measures_66 rfl ?_
      refine q_iload C 4 dX12_measures_68 rfl ?_
      obtain ⟨q9, h10, hF⟩ := bnd hF
      try dsimp only at hF
      refine q_callVi C [.int x4, .int x5] (c_X12_besideOf l D ad ca kz C.2.2.2.2.2.2.1 _ _ _ _ _ h10) tw_1427 gm_X12_besideOf pi_249.1 (pe_11 pi_249.2) rfl ⟨rfl, rfl⟩ ⟨Nat.le_trans (Nat.le_of_ble_eq_true rfl) hR.1, Nat.le_trans (Nat.le_of_ble_eq_true rfl) hR.2⟩ rfl (Nat.le_of_ble_eq_true rfl) dX12_measures_70 q00 ?_
      refine q_istore C [(6, .int q9.1), (0, .ref (ad (249))), (2, .int x2), (3, .int x3), (4, .int x4), (5, .int x5)] dX12_measures_73 (by decide) rfl ?_
      refine q_iload C 0 dX12_measures_75 rfl ?_
      refine q_if_lt (tgt := 131) C dX12_measures_77 (by decide) (fun c11 => ?_) (fun c11 => ?_)
      · replace hF := ift c11 hF
        refine q_iinc C 5 [(5, .int (x5 + 1)), (6, .int q9.1), (0, .ref (ad (249))), (2, .int x2), (3, .int x3), (4, .int x4)] dX12_measures_131 rfl rfl (by decide) rfl ?_
        refine q_goto (tgt := 59) C dX12_measures_134 (by decide) ?_
        refine q_sub [2, 3, 4, 5, 0] rfl ?_
        exact ih _ _ _ _ _ hF
      · replace hF := ife c11 hF
        refine q_aload_n C 1 dX12_measures_80 rfl rfl ?_
        refine q_iload C 0 dX12_measures_81 rfl ?_
        obtain ⟨q12, h13, hF⟩ := bnd hF
        try dsimp only at hF
        refine q_callVi C [.int q9.1] (c_X12_isBush l D ad ca kz C.2.2.2.2.2.2.1 _ _ _ _ h13) tw_1431 gm_X12_isBush pi_249.1 (pe_11 pi_249.2) rfl ⟨rfl, rfl⟩ ⟨Nat.le_trans (Nat.le_of_ble_eq_true rfl) hR.1, Nat.le_trans (Nat.le_of_ble_eq_true rfl) hR.2⟩ rfl (Nat.le_of_ble_eq_true rfl) dX12_measures_83 q00 ?_
        refine q_if_ne (tgt := 131) C dX12_measures_86 (by decide) (fun c14 => ?_) (fun c14 => ?_)
        · replace hF := ife c14 hF
          refine q_iinc C 5 [(5, .int (x5 + 1)), (6, .int q9.1), (0, .ref (ad (249))), (2, .int x2), (3, .int x3), (4, .int x4)] dX12_measures_131 rfl rfl (by decide) rfl ?_
          refine q_goto (tgt := 59) C dX12_measures_134 (by decide) ?_
          refine q_sub [2, 3, 4, 5, 0] rfl ?_
          exact ih _ _ _ _ _ hF
        · replace hF := ift c14 hF
          refine q_aload_n C 1 dX12_measures_89 rfl rfl ?_
          refine qg_11_23 C pi_249 tw_1076 dX12_measures_90 ?_
          refine q_iload C 0 dX12_measures_93 rfl ?_
          obtain ⟨g15, hF⟩ := grd hF
          refine q_iald C pa_260 (vp_of g15) dX12_measures_95 ?_
          refine q_bipush (v := 99) C dX12_measures_96 (by decide) ?_
          refine q_icmp_ge (tgt := 104) C dX12_measures_98 (by decide) (fun c16 => ?_) (fun c16 => ?_)
          · replace hF := ift c16 hF
            refine q_aload_n C 1 dX12_measures_104 rfl rfl ?_
            refine qg_11_23 C pi_249 tw_1076 dX12_measures_105 ?_
            refine q_iload C 0 dX12_measures_108 rfl ?_
            refine q_aload_n C 1 dX12_measures_110 rfl rfl ?_
            refine qg_11_23 C pi_249 tw_1076 dX12_measures_111 ?_
            refine q_iload C 4 dX12_measures_114 rfl ?_
            obtain ⟨g17, hF⟩ := grd hF
            refine q_iald C pa_260 (vp_of g17) dX12_measures_116 ?_
            refine q_iconst (v := 1) C dX12_measures_117 (by decide) ?_
            refine q_iadd C dX12_measures_118 ?_
            refine q_iast C pa_260 (vp_of g15) dX12_measures_119 ?_
            refine q_aload_n C 1 dX12_measures_120 rfl rfl ?_
            refine qg_11_24 C pi_249 tw_1077 dX12_measures_121 ?_
            refine q_iload_n C 3 dX12_measures_124 rfl rfl ?_
            refine q_iload C 0 dX12_measures_125 rfl ?_
            obtain ⟨g18, hF⟩ := grd hF
            refine q_iast C pa_261 (vp_of g18) dX12_measures_127 ?_
            refine q_iinc C 3 [(3, .int (x3 + 1)), (6, .int q9.1), (0, .ref (ad (249))), (2, .int x2), (4, .int x4), (5, .int x5)] dX12_measures_128 rfl rfl (by decide) rfl ?_
            refine q_iinc C 5 [(5, .int (x5 + 1)), (3, .int (x3 + 1)), (6, .int q9.1), (0, .ref (ad (249))), (2, .int x2), (4, .int x4)] dX12_measures_131 rfl rfl (by decide) rfl ?_
            refine q_goto (tgt := 59) C dX12_measures_134 (by decide) ?_
            refine q_sub [3, 4, 1, 5, 0] rfl ?_
            exact ih _ _ _ _ _ hF
          · replace hF := ife c16 hF
            refine q_goto (tgt := 131) C dX12_measures_101 (by decide) ?_
            refine q_iinc C 5 [(5, .int (x5 + 1)), (6, .int q9.1), (0, .ref (ad (249))), (2, .int x2), (3, .int x3), (4, .int x4)] dX12_measures_131 rfl rfl (by decide) rfl ?_
            refine q_goto (tgt := 59) C dX12_measures_134 (by decide) ?_
            refine q_sub [2, 3, 4, 5, 0] rfl ?_
            exact ih _ _ _ _ _ hF
set_option maxHeartbeats 4000000 in
set_option maxRecDepth 100000 in
theorem l_X12_measures_40 {p : Program} {l : Launch} {e : Env} {R : Room} {s : State} {m : MethodId} {args : Array Value} {below : List Frame} {meth : Method} {c : Code} {D : va_G} {ad : Nat → Nat} {ca : Nat → ClassId} {kz : Nat → Nat} {Q : State → Prop} (C : pC p s m args c cX12_measures "AskedCampModel" 7 D ad ca kz) (hR : 2 ≤ R.frames ∧ 43 ≤ R.locals) {n : Nat} (o : PS) (hx0 : PW p l e R s m args below meth c 7 D ad ca 0 0 Q (o) 140 [] []) : ∀ (k : Nat) (x2 : Int32) (x3 : Int32) (σ : PS), L_X12_measures_40 n k x2 x3 σ = some o → PW p l e R s m args below meth c 7 D ad ca 0 0 Q σ 40 [(0, .ref (ad (249))), (2, .int x2), (3, .int x3)] [] := by
  intro k
  induction k with
  | zero => intro x2 x3 σ hF; exact nomatch (show (none : Option (PS)) = some o from hF)
  | succ k ih =>
    intro x2 x3 σ hF
    rw [L_X12_measures_40] at hF
    refine q_iload_n C 1 dX12_measures_40 rfl rfl ?_
    refine q_iload_n C 2 dX12_measures_41 rfl rfl ?_
    refine q_icmp_ge (tgt := 140) C dX12_measures_42 (by decide) (fun c6 => ?_) (fun c6 => ?_)
    · replace hF := ift c6 hF
      cases hF
      refine q_sub [] rfl ?_
      exact hx0
    · replace hF := ife c6 hF
      refine q_aload_n C 0 dX12_measures_45 rfl rfl ?_
      refine qg_11_24 C pi_249 tw_1077 dX12_measures_46 ?_
      refine q_iload_n C 1 dX12_measures_49 rfl rfl ?_
      obtain ⟨g7, hF⟩ := grd hF
      refine q_iald C pa_261 (vp_of g7) dX12_measures_50 ?_
      refine q_istore C [(4, .int (σ.1 261 x2.toNatClampNeg)), (0, .ref (ad (249))), (2, .int x2), (3, .int x3)] dX12_measures_51 (by decide) rfl ?_
      refine q_iinc C 2 [(2, .int (x2 + 1)), (4, .int (σ.1 261 x2.toNatClampNeg)), (0, .ref (ad (249))), (3, .int x3)] dX12_measures_53 rfl rfl (by decide) rfl ?_
      refine q_iconst (v := 0) C dX12_measures_56 (by decide) ?_
      refine q_istore C [(5, .int 0), (2, .int (x2 + 1)), (4, .int (σ.1 261 x2.toNatClampNeg)), (0, .ref (ad (249))), (3, .int x3)] dX12_measures_57 (by decide) rfl ?_
      obtain ⟨o8, h9, hF⟩ := bnd hF
      try dsimp only at hF
      refine q_sub [3, 1, 4, 2, 0] rfl ?_
      refine l_X12_measures_59 C ⟨hR.1, hR.2⟩ o8 ?_ n _ _ _ _ _ h9
      refine q_goto (tgt := 40) C dX12_measures_137 (by decide) ?_
      refine q_sub [0, 1, 2] rfl ?_
      exact ih _ _ _ hF
set_option maxHeartbeats 4000000 in
set_option maxRecDepth 100000 in
theorem c_X12_measures (l : Launch) (D : va_G) (ad : Nat → Nat) (ca : Nat → ClassId) (kz : Nat → Nat) (hJ : pInj ad) (n : Nat) (a1 : Int32) (σ : PS) (out : PS) (hF : F_X12_measures n a1 σ = some out) : Met l yX12_measures (Cond.code yX12_measures cX12_measures 7 (Option.none : Option Jvm.ClassFile.FieldType) :: gw_tbl) { frames := 2, cells := 0, slots := 0, locals := 43 } (va_Pc [.ref (ad (249)), .int a1] (pU D ad ca kz σ)) (pQv D ad ca out) 0 0 (pAD ad) := by
  refine q_entry (own := "AskedCampModel") hJ (by decide) rfl (Nat.le_of_ble_eq_true rfl) (fun p e s m below meth c C hr hlk => ?_)
  refine q_lv [(0, .ref (ad (249))), (1, .int a1)] rfl ?_
  rw [F_X12_measures] at hF
  refine q_iconst (v := 0) C dX12_measures_0 (by decide) ?_
  refine q_istore_n C [(2, .int 0), (0, .ref (ad (249))), (1, .int a1)] dX12_measures_1 rfl (by decide) rfl ?_
  obtain ⟨o3, h4, hF⟩ := bnd hF
  try dsimp only at hF
  refine q_sub [1, 2, 0] rfl ?_
  refine l_X12_measures_2 C ⟨Nat.le_of_ble_eq_true rfl, Nat.le_of_ble_eq_true rfl⟩ o3 ?_ n _ _ _ h4
  refine q_iconst (v := 0) C dX12_measures_22 (by decide) ?_
  refine q_istore_n C [(2, .int 0), (0, .ref (ad (249))), (1, .int o3.1)] dX12_measures_23 rfl (by decide) rfl ?_
  refine q_iconst (v := 1) C dX12_measures_24 (by decide) ?_
  refine q_istore_n C [(3, .int 1), (2, .int 0), (0, .ref (ad (249))), (1, .int o3.1)] dX12_measures_25 rfl (by decide) rfl ?_
  refine q_aload_n C 2 dX12_measures_26 rfl rfl ?_
  refine qg_11_23 C pi_249 tw_1076 dX12_measures_27 ?_
  refine q_iload_n C 3 dX12_measures_30 rfl rfl ?_
  refine q_iconst (v := 0) C dX12_measures_31 (by decide) ?_
  obtain ⟨g5, hF⟩ := grd hF
  refine q_iast C pa_260 (vp_of g5) dX12_measures_32 ?_
  refine q_aload_n C 2 dX12_measures_33 rfl rfl ?_
  refine qg_11_24 C pi_249 tw_1077 dX12_measures_34 ?_
  refine q_iconst (v := 0) C dX12_measures_37 (by decide) ?_
  refine q_iload_n C 3 dX12_measures_38 rfl rfl ?_
  refine q_iastk (jn := 0) C pa_261 (vp_of (by decide)) rfl dX12_measures_39 ?_
  obtain ⟨o10, h11, hF⟩ := bnd hF
  try dsimp only at hF
  refine q_sub [2, 1, 0] rfl ?_
  refine l_X12_measures_40 C ⟨Nat.le_of_ble_eq_true rfl, Nat.le_of_ble_eq_true rfl⟩ o10 ?_ n _ _ _ h11
  exact q_vret C hr hlk dX12_measures_140 hF
-- X12_nearest
def L_X12_nearest_10 (n : Nat) : Nat → Int32 → Int32 → PS → Option (Int32 × PS)
  | 0, _, _, _ => none
  | k + 1, x2, x3, σ => (if (σ.1 259 2) ≤ x3 then some (x2, σ) else (F_X12_askedOf n x3 σ).bind (fun q4 => (if q4.1 = 0 then (F_X12_cellOf n x3 q4.2).bind (fun q7 => (if 0 ≤ q7.1 ∧ q7.1.toNatClampNeg < 36 then (if x2 ≤ (q7.2.1 260 q7.1.toNatClampNeg) then L_X12_nearest_10 n k x2 (x3 + 1) q7.2 else (F_X12_cellOf n x3 q7.2).bind (fun q11 => (if 0 ≤ q11.1 ∧ q11.1.toNatClampNeg < 36 then L_X12_nearest_10 n k (q11.2.1 260 q11.1.toNatClampNeg) (x3 + 1) q11.2 else none))) else none)) else L_X12_nearest_10 n k x2 (x3 + 1) q4.2)))
def F_X12_nearest (n : Nat) (a1 : Int32) (σ : PS) : Option (Int32 × PS) := (F_X12_measures n a1 σ).bind (fun q1 => (L_X12_nearest_10 n n (99 : Int32) (0 : Int32) q1).bind (fun o14 => some (o14.1, o14.2)))
theorem gm_X12_nearest : gM "AskedCampModel" yX12_nearest (Cond.code yX12_nearest cX12_nearest 4 (Option.some Jvm.ClassFile.FieldType.int)) 1 := ⟨by decide +kernel, tw_1421, tw_p68, tw_12, tw_1422⟩
set_option maxHeartbeats 4000000 in
set_option maxRecDepth 100000 in
theorem l_X12_nearest_10 {p : Program} {l : Launch} {e : Env} {R : Room} {s : State} {m : MethodId} {args : Array Value} {below : List Frame} {meth : Method} {c : Code} {D : va_G} {ad : Nat → Nat} {ca : Nat → ClassId} {kz : Nat → Nat} {Q : State → Prop} (C : pC p s m args c cX12_nearest "AskedCampModel" 4 D ad ca kz) (hR : 3 ≤ R.frames ∧ 69 ≤ R.locals) {n : Nat} (o : Int32 × PS) (hx0 : PW p l e R s m args below meth c 4 D ad ca 0 0 Q (o.2) 59 [(2, .int o.1)] []) : ∀ (k : Nat) (x2 : Int32) (x3 : Int32) (σ : PS), L_X12_nearest_10 n k x2 x3 σ = some o → PW p l e R s m args below meth c 4 D ad ca 0 0 Q σ 10 [(0, .ref (ad (249))), (2, .int x2), (3, .int x3)] [] := by
  intro k
  induction k with
  | zero => intro x2 x3 σ hF; exact nomatch (show (none : Option (Int32 × PS)) = some o from hF)
  | succ k ih =>
    intro x2 x3 σ hF
    rw [L_X12_nearest_10] at hF
    refine q_iload_n C 2 dX12_nearest_10 rfl rfl ?_
    refine q_aload_n C 0 dX12_nearest_11 rfl rfl ?_
    refine qg_11_20 C pi_249 tw_1073 dX12_nearest_12 ?_
    refine q_iconst (v := 2) C dX12_nearest_15 (by decide) ?_
    refine q_ialdk (jn := 2) C pa_259 (vp_of (by decide)) rfl dX12_nearest_16 ?_
    refine q_icmp_ge (tgt := 59) C dX12_nearest_17 (by decide) (fun c3 => ?_) (fun c3 => ?_)
    · replace hF := ift c3 hF
      cases hF
      refine q_sub [1] rfl ?_
      exact hx0
    · replace hF := ife c3 hF
      refine q_aload_n C 0 dX12_nearest_20 rfl rfl ?_
      refine q_iload_n C 2 dX12_nearest_21 rfl rfl ?_
      obtain ⟨q4, h5, hF⟩ := bnd hF
      try dsimp only at hF
      refine q_callVi C [.int x3] (c_X12_askedOf l D ad ca kz C.2.2.2.2.2.2.1 _ _ _ _ h5) tw_1435 gm_X12_askedOf pi_249.1 (pe_11 pi_249.2) rfl ⟨rfl, rfl⟩ ⟨Nat.le_trans (Nat.le_of_ble_eq_true rfl) hR.1, Nat.le_trans (Nat.le_of_ble_eq_true rfl) hR.2⟩ rfl (Nat.le_of_ble_eq_true rfl) dX12_nearest_22 q00 ?_
      refine q_if_ne (tgt := 53) C dX12_nearest_25 (by decide) (fun c6 => ?_) (fun c6 => ?_)
      · replace hF := ife c6 hF
        refine q_iinc C 2 [(3, .int (x3 + 1)), (0, .ref (ad (249))), (2, .int x2)] dX12_nearest_53 rfl rfl (by decide) rfl ?_
        refine q_goto (tgt := 10) C dX12_nearest_56 (by decide) ?_
        refine q_sub [1, 2, 0] rfl ?_
        exact ih _ _ _ hF
      · replace hF := ift c6 hF
        refine q_aload_n C 0 dX12_nearest_28 rfl rfl ?_
        refine qg_11_23 C pi_249 tw_1076 dX12_nearest_29 ?_
        refine q_aload_n C 0 dX12_nearest_32 rfl rfl ?_
        refine q_iload_n C 2 dX12_nearest_33 rfl rfl ?_
        obtain ⟨q7, h8, hF⟩ := bnd hF
        try dsimp only at hF
        refine q_callVi C [.int x3] (c_X12_cellOf l D ad ca kz C.2.2.2.2.2.2.1 _ _ _ _ h8) tw_1391 gm_X12_cellOf pi_249.1 (pe_11 pi_249.2) rfl ⟨rfl, rfl⟩ ⟨Nat.le_trans (Nat.le_of_ble_eq_true rfl) hR.1, Nat.le_trans (Nat.le_of_ble_eq_true rfl) hR.2⟩ rfl (Nat.le_of_ble_eq_true rfl) dX12_nearest_34 q00 ?_
        obtain ⟨g9, hF⟩ := grd hF
        refine q_iald C pa_260 (vp_of g9) dX12_nearest_37 ?_
        refine q_iload_n C 1 dX12_nearest_38 rfl rfl ?_
        refine q_icmp_ge (tgt := 53) C dX12_nearest_39 (by decide) (fun c10 => ?_) (fun c10 => ?_)
        · replace hF := ift c10 hF
          refine q_iinc C 2 [(3, .int (x3 + 1)), (0, .ref (ad (249))), (2, .int x2)] dX12_nearest_53 rfl rfl (by decide) rfl ?_
          refine q_goto (tgt := 10) C dX12_nearest_56 (by decide) ?_
          refine q_sub [1, 2, 0] rfl ?_
          exact ih _ _ _ hF
        · replace hF := ife c10 hF
          refine q_aload_n C 0 dX12_nearest_42 rfl rfl ?_
          refine qg_11_23 C pi_249 tw_1076 dX12_nearest_43 ?_
          refine q_aload_n C 0 dX12_nearest_46 rfl rfl ?_
          refine q_iload_n C 2 dX12_nearest_47 rfl rfl ?_
          obtain ⟨q11, h12, hF⟩ := bnd hF
          try dsimp only at hF
          refine q_callVi C [.int x3] (c_X12_cellOf l D ad ca kz C.2.2.2.2.2.2.1 _ _ _ _ h12) tw_1391 gm_X12_cellOf pi_249.1 (pe_11 pi_249.2) rfl ⟨rfl, rfl⟩ ⟨Nat.le_trans (Nat.le_of_ble_eq_true rfl) hR.1, Nat.le_trans (Nat.le_of_ble_eq_true rfl) hR.2⟩ rfl (Nat.le_of_ble_eq_true rfl) dX12_nearest_48 q00 ?_
          obtain ⟨g13, hF⟩ := grd hF
          refine q_iald C pa_260 (vp_of g13) dX12_nearest_51 ?_
          refine q_istore_n C [(2, .int (q11.2.1 260 q11.1.toNatClampNeg)), (0, .ref (ad (249))), (3, .int x3)] dX12_nearest_52 rfl (by decide) rfl ?_
          refine q_iinc C 2 [(3, .int (x3 + 1)), (2, .int (q11.2.1 260 q11.1.toNatClampNeg)), (0, .ref (ad (249)))] dX12_nearest_53 rfl rfl (by decide) rfl ?_
          refine q_goto (tgt := 10) C dX12_nearest_56 (by decide) ?_
          refine q_sub [2, 1, 0] rfl ?_
          exact ih _ _ _ hF
set_option maxHeartbeats 4000000 in
set_option maxRecDepth 100000 in
theorem c_X12_nearest (l : Launch) (D : va_G) (ad : Nat → Nat) (ca : Nat → ClassId) (kz : Nat → Nat) (hJ : pInj ad) (n : Nat) (a1 : Int32) (σ : PS) (out : Int32 × PS) (hF : F_X12_nearest n a1 σ = some out) : Met l yX12_nearest (Cond.code yX12_nearest cX12_nearest 4 (Option.some Jvm.ClassFile.FieldType.int) :: gw_tbl) { frames := 3, cells := 0, slots := 0, locals := 69 } (va_Pc [.ref (ad (249)), .int a1] (pU D ad ca kz σ)) (pQi D ad ca out) 0 0 (pAD ad) := by
  refine q_entry (own := "AskedCampModel") hJ (by decide) rfl (Nat.le_of_ble_eq_true rfl) (fun p e s m below meth c C hr hlk => ?_)
  refine q_lv [(0, .ref (ad (249))), (1, .int a1)] rfl ?_
  rw [F_X12_nearest] at hF
  refine q_bipush (v := 99) C dX12_nearest_0 (by decide) ?_
  refine q_istore_n C [(2, .int 99), (0, .ref (ad (249))), (1, .int a1)] dX12_nearest_2 rfl (by decide) rfl ?_
  refine q_aload_n C 1 dX12_nearest_3 rfl rfl ?_
  refine q_iload_n C 2 dX12_nearest_4 rfl rfl ?_
  obtain ⟨q1, h2, hF⟩ := bnd hF
  try dsimp only at hF
  refine q_callVv C [.int a1] (c_X12_measures l D ad ca kz C.2.2.2.2.2.2.1 _ _ _ _ h2) tw_1423 gm_X12_measures pi_249.1 (pe_11 pi_249.2) rfl ⟨rfl, rfl⟩ ⟨Nat.le_of_ble_eq_true rfl, Nat.le_of_ble_eq_true rfl⟩ rfl (Nat.le_of_ble_eq_true rfl) dX12_nearest_5 q00 ?_
  refine q_iconst (v := 0) C dX12_nearest_8 (by decide) ?_
  refine q_istore_n C [(3, .int 0), (2, .int 99), (0, .ref (ad (249))), (1, .int a1)] dX12_nearest_9 rfl (by decide) rfl ?_
  obtain ⟨o14, h15, hF⟩ := bnd hF
  try dsimp only at hF
  refine q_sub [2, 1, 0] rfl ?_
  refine l_X12_nearest_10 C ⟨Nat.le_of_ble_eq_true rfl, Nat.le_of_ble_eq_true rfl⟩ o14 ?_ n _ _ _ h15
  refine q_iload_n C 0 dX12_nearest_59 rfl rfl ?_
  exact q_iret C hr hlk dX12_nearest_60 hF
-- X12_askedAll
def L_X12_askedAll_4 (n : Nat) : Nat → Int32 → Int32 → PS → Option (Int32 × PS)
  | 0, _, _, _ => none
  | k + 1, x1, x2, σ => (if (σ.1 259 2) ≤ x2 then some (x1, σ) else (F_X12_askedOf n x2 σ).bind (fun q2 => L_X12_askedAll_4 n k (x1 + q2.1) (x2 + 1) q2.2))
def F_X12_askedAll (n : Nat) (σ : PS) : Option (Int32 × PS) := (L_X12_askedAll_4 n n (0 : Int32) (0 : Int32) σ).bind (fun o4 => some (o4.1, o4.2))
theorem gm_X12_askedAll : gM "AskedCampModel" yX12_askedAll (Cond.code yX12_askedAll cX12_askedAll 3 (Option.some Jvm.ClassFile.FieldType.int)) 0 := ⟨by decide +kernel, tw_1456, tw_p76, tw_12, tw_1457⟩
set_option maxHeartbeats 4000000 in
set_option maxRecDepth 100000 in
theorem l_X12_askedAll_4 {p : Program} {l : Launch} {e : Env} {R : Room} {s : State} {m : MethodId} {args : Array Value} {below : List Frame} {meth : Method} {c : Code} {D : va_G} {ad : Nat → Nat} {ca : Nat → ClassId} {kz : Nat → Nat} {Q : State → Prop} (C : pC p s m args c cX12_askedAll "AskedCampModel" 3 D ad ca kz) (hR : 1 ≤ R.frames ∧ 21 ≤ R.locals) {n : Nat} (o : Int32 × PS) (hx0 : PW p l e R s m args below meth c 3 D ad ca 0 0 Q (o.2) 28 [(1, .int o.1)] []) : ∀ (k : Nat) (x1 : Int32) (x2 : Int32) (σ : PS), L_X12_askedAll_4 n k x1 x2 σ = some o → PW p l e R s m args below meth c 3 D ad ca 0 0 Q σ 4 [(0, .ref (ad (249))), (1, .int x1), (2, .int x2)] [] := by
  intro k
  induction k with
  | zero => intro x1 x2 σ hF; exact nomatch (show (none : Option (Int32 × PS)) = some o from hF)
  | succ k ih =>
    intro x1 x2 σ hF
    rw [L_X12_askedAll_4] at hF
    refine q_iload_n C 2 dX12_askedAll_4 rfl rfl ?_
    refine q_aload_n C 0 dX12_askedAll_5 rfl rfl ?_
    refine qg_11_20 C pi_249 tw_1073 dX12_askedAll_6 ?_
    refine q_iconst (v := 2) C dX12_askedAll_9 (by decide) ?_
    refine q_ialdk (jn := 2) C pa_259 (vp_of (by decide)) rfl dX12_askedAll_10 ?_
    refine q_icmp_ge (tgt := 28) C dX12_askedAll_11 (by decide) (fun c1 => ?_) (fun c1 => ?_)
    · replace hF := ift c1 hF
      cases hF
      refine q_sub [1] rfl ?_
      exact hx0
    · replace hF := ife c1 hF
      refine q_iload_n C 1 dX12_askedAll_14 rfl rfl ?_
      refine q_aload_n C 0 dX12_askedAll_15 rfl rfl ?_
      refine q_iload_n C 2 dX12_askedAll_16 rfl rfl ?_
      obtain ⟨q2, h3, hF⟩ := bnd hF
      try dsimp only at hF
      refine q_callVi C [.int x2] (c_X12_askedOf l D ad ca kz C.2.2.2.2.2.2.1 _ _ _ _ h3) tw_1435 gm_X12_askedOf pi_249.1 (pe_11 pi_249.2) rfl ⟨rfl, rfl⟩ ⟨Nat.le_trans (Nat.le_of_ble_eq_true rfl) hR.1, Nat.le_trans (Nat.le_of_ble_eq_true rfl) hR.2⟩ rfl (Nat.le_of_ble_eq_true rfl) dX12_askedAll_17 q00 ?_
      refine q_iadd C dX12_askedAll_20 ?_
      refine q_istore_n C [(1, .int (x1 + q2.1)), (0, .ref (ad (249))), (2, .int x2)] dX12_askedAll_21 rfl (by decide) rfl ?_
      refine q_iinc C 2 [(2, .int (x2 + 1)), (1, .int (x1 + q2.1)), (0, .ref (ad (249)))] dX12_askedAll_22 rfl rfl (by decide) rfl ?_
      refine q_goto (tgt := 4) C dX12_askedAll_25 (by decide) ?_
      refine q_sub [2, 1, 0] rfl ?_
      exact ih _ _ _ hF
set_option maxHeartbeats 4000000 in
set_option maxRecDepth 100000 in
theorem c_X12_askedAll (l : Launch) (D : va_G) (ad : Nat → Nat) (ca : Nat → ClassId) (kz : Nat → Nat) (hJ : pInj ad) (n : Nat) (σ : PS) (out : Int32 × PS) (hF : F_X12_askedAll n σ = some out) : Met l yX12_askedAll (Cond.code yX12_askedAll cX12_askedAll 3 (Option.some Jvm.ClassFile.FieldType.int) :: gw_tbl) { frames := 1, cells := 0, slots := 0, locals := 21 } (va_Pc [.ref (ad (249))] (pU D ad ca kz σ)) (pQi D ad ca out) 0 0 (pAD ad) := by
  refine q_entry (own := "AskedCampModel") hJ (by decide) rfl (Nat.le_of_ble_eq_true rfl) (fun p e s m below meth c C hr hlk => ?_)
  refine q_lv [(0, .ref (ad (249)))] rfl ?_
  rw [F_X12_askedAll] at hF
  refine q_iconst (v := 0) C dX12_askedAll_0 (by decide) ?_
  refine q_istore_n C [(1, .int 0), (0, .ref (ad (249)))] dX12_askedAll_1 rfl (by decide) rfl ?_
  refine q_iconst (v := 0) C dX12_askedAll_2 (by decide) ?_
  refine q_istore_n C [(2, .int 0), (1, .int 0), (0, .ref (ad (249)))] dX12_askedAll_3 rfl (by decide) rfl ?_
  obtain ⟨o4, h5, hF⟩ := bnd hF
  try dsimp only at hF
  refine q_sub [2, 1, 0] rfl ?_
  refine l_X12_askedAll_4 C ⟨Nat.le_of_ble_eq_true rfl, Nat.le_of_ble_eq_true rfl⟩ o4 ?_ n _ _ _ h5
  refine q_iload_n C 0 dX12_askedAll_28 rfl rfl ?_
  exact q_iret C hr hlk dX12_askedAll_29 hF
-- X12_bits
def L_X12_bits_4 (n : Nat) : Nat → Int32 → Int32 → PS → Option (Int32 × PS)
  | 0, _, _, _ => none
  | k + 1, x1, x2, σ => (if x2 = 0 then some (x1, σ) else L_X12_bits_4 n k (x1 + 1) (x2 &&& (x2 - (1 : Int32))) σ)
def F_X12_bits (n : Nat) (a0 : Int32) (σ : PS) : Option (Int32 × PS) := (L_X12_bits_4 n n (0 : Int32) a0 σ).bind (fun o2 => some (o2.1, o2.2))
theorem gm_X12_bits : gS yX12_bits (Cond.code yX12_bits cX12_bits 3 (Option.some Jvm.ClassFile.FieldType.int)) 1 := ⟨by decide +kernel, tw_1452, tw_12, tw_1453⟩
set_option maxHeartbeats 4000000 in
set_option maxRecDepth 100000 in
theorem l_X12_bits_4 {p : Program} {l : Launch} {e : Env} {R : Room} {s : State} {m : MethodId} {args : Array Value} {below : List Frame} {meth : Method} {c : Code} {D : va_G} {ad : Nat → Nat} {ca : Nat → ClassId} {kz : Nat → Nat} {Q : State → Prop} (C : pC p s m args c cX12_bits "AskedCampModel" 3 D ad ca kz) (hR : 0 ≤ R.frames ∧ 0 ≤ R.locals) {n : Nat} (o : Int32 × PS) (hx0 : PW p l e R s m args below meth c 3 D ad ca 0 0 Q (o.2) 20 [(1, .int o.1)] []) : ∀ (k : Nat) (x1 : Int32) (x2 : Int32) (σ : PS), L_X12_bits_4 n k x1 x2 σ = some o → PW p l e R s m args below meth c 3 D ad ca 0 0 Q σ 4 [(1, .int x1), (2, .int x2)] [] := by
  intro k
  induction k with
  | zero => intro x1 x2 σ hF; exact nomatch (show (none : Option (Int32 × PS)) = some o from hF)
  | succ k ih =>
    intro x1 x2 σ hF
    rw [L_X12_bits_4] at hF
    refine q_iload_n C 1 dX12_bits_4 rfl rfl ?_
    refine q_if_eq (tgt := 20) C dX12_bits_5 (by decide) (fun c1 => ?_) (fun c1 => ?_)
    · replace hF := ift c1 hF
      cases hF
      refine q_sub [0] rfl ?_
      exact hx0
    · replace hF := ife c1 hF
      refine q_iinc C 0 [(1, .int (x1 + 1)), (2, .int x2)] dX12_bits_8 rfl rfl (by decide) rfl ?_
      refine q_iload_n C 1 dX12_bits_11 rfl rfl ?_
      refine q_iload_n C 1 dX12_bits_12 rfl rfl ?_
      refine q_iconst (v := 1) C dX12_bits_13 (by decide) ?_
      refine q_isub C dX12_bits_14 ?_
      refine q_iand C dX12_bits_15 ?_
      refine q_istore_n C [(2, .int (x2 &&& (x2 - (1 : Int32)))), (1, .int (x1 + 1))] dX12_bits_16 rfl (by decide) rfl ?_
      refine q_goto (tgt := 4) C dX12_bits_17 (by decide) ?_
      refine q_sub [1, 0] rfl ?_
      exact ih _ _ _ hF
set_option maxHeartbeats 4000000 in
set_option maxRecDepth 100000 in
theorem c_X12_bits (l : Launch) (D : va_G) (ad : Nat → Nat) (ca : Nat → ClassId) (kz : Nat → Nat) (hJ : pInj ad) (n : Nat) (a0 : Int32) (σ : PS) (out : Int32 × PS) (hF : F_X12_bits n a0 σ = some out) : Met l yX12_bits (Cond.code yX12_bits cX12_bits 3 (Option.some Jvm.ClassFile.FieldType.int) :: gw_tbl) { frames := 0, cells := 0, slots := 0, locals := 0 } (va_Pc [.int a0] (pU D ad ca kz σ)) (pQi D ad ca out) 0 0 (pAD ad) := by
  refine q_entry (own := "AskedCampModel") hJ (by decide) rfl (Nat.le_of_ble_eq_true rfl) (fun p e s m below meth c C hr hlk => ?_)
  refine q_lv [(0, .int a0)] rfl ?_
  rw [F_X12_bits] at hF
  refine q_iconst (v := 0) C dX12_bits_0 (by decide) ?_
  refine q_istore_n C [(1, .int 0), (0, .int a0)] dX12_bits_1 rfl (by decide) rfl ?_
  refine q_iload_n C 1 dX12_bits_2 rfl rfl ?_
  refine q_istore_n C [(2, .int a0), (1, .int 0), (0, .int a0)] dX12_bits_3 rfl (by decide) rfl ?_
  obtain ⟨o2, h3, hF⟩ := bnd hF
  try dsimp only at hF
  refine q_sub [1, 0] rfl ?_
  refine l_X12_bits_4 C ⟨Nat.le_of_ble_eq_true rfl, Nat.le_of_ble_eq_true rfl⟩ o2 ?_ n _ _ _ h3
  refine q_iload_n C 0 dX12_bits_20 rfl rfl ?_
  exact q_iret C hr hlk dX12_bits_21 hF
-- X12_nerveOf
def F_X12_nerveOf (n : Nat) (a1 : Int32) (σ : PS) : Option (Int32 × PS) := (if 0 ≤ (((13 : Int32) + ((4 : Int32) * a1)) + (1 : Int32)) ∧ (((13 : Int32) + ((4 : Int32) * a1)) + (1 : Int32)).toNatClampNeg < 179 then some ((σ.1 259 ((((13 : Int32) + ((4 : Int32) * a1)) + (1 : Int32)).toNatClampNeg)), σ) else none)
theorem gm_X12_nerveOf : gM "AskedCampModel" yX12_nerveOf (Cond.code yX12_nerveOf cX12_nerveOf 2 (Option.some Jvm.ClassFile.FieldType.int)) 1 := ⟨by decide +kernel, tw_1449, tw_p75, tw_12, tw_1450⟩
set_option maxHeartbeats 4000000 in
set_option maxRecDepth 100000 in
theorem c_X12_nerveOf (l : Launch) (D : va_G) (ad : Nat → Nat) (ca : Nat → ClassId) (kz : Nat → Nat) (hJ : pInj ad) (n : Nat) (a1 : Int32) (σ : PS) (out : Int32 × PS) (hF : F_X12_nerveOf n a1 σ = some out) : Met l yX12_nerveOf (Cond.code yX12_nerveOf cX12_nerveOf 2 (Option.some Jvm.ClassFile.FieldType.int) :: gw_tbl) { frames := 0, cells := 0, slots := 0, locals := 0 } (va_Pc [.ref (ad (249)), .int a1] (pU D ad ca kz σ)) (pQi D ad ca out) 0 0 (pAD ad) := by
  refine q_entry (own := "AskedCampModel") hJ (by decide) rfl (Nat.le_of_ble_eq_true rfl) (fun p e s m below meth c C hr hlk => ?_)
  refine q_lv [(0, .ref (ad (249))), (1, .int a1)] rfl ?_
  rw [F_X12_nerveOf] at hF
  refine q_aload_n C 0 dX12_nerveOf_0 rfl rfl ?_
  refine qg_11_20 C pi_249 tw_1073 dX12_nerveOf_1 ?_
  refine q_bipush (v := 13) C dX12_nerveOf_4 (by decide) ?_
  refine q_iconst (v := 4) C dX12_nerveOf_6 (by decide) ?_
  refine q_iload_n C 1 dX12_nerveOf_7 rfl rfl ?_
  refine q_imul C dX12_nerveOf_8 ?_
  refine q_iadd C dX12_nerveOf_9 ?_
  refine q_iconst (v := 1) C dX12_nerveOf_10 (by decide) ?_
  refine q_iadd C dX12_nerveOf_11 ?_
  obtain ⟨g1, hF⟩ := grd hF
  refine q_iald C pa_259 (vp_of g1) dX12_nerveOf_12 ?_
  exact q_iret C hr hlk dX12_nerveOf_13 hF
-- X12_one
def F_X12_one (n : Nat) (a0 : Int32) (a1 : Int64) (a3 : Int64) (σ : PS) : Option (Int64 × PS) := (if a0 = (2 : Int32) then some ((a1 + a3), σ) else (if a0 = (3 : Int32) then some ((a1 - a3), σ) else (if a0 = (4 : Int32) then some ((a1 * a3), σ) else (if a0 = (5 : Int32) then (if (lg_cmp a3 (0 : Int64)) = 0 then some ((0 : Int64), σ) else (if a3 = 0 then none else some ((a1 / a3), σ))) else (if a0 = (6 : Int32) then (if 0 ≤ (lg_cmp a1 a3) then some ((0 : Int64), σ) else some ((1 : Int64), σ)) else (if a0 = (7 : Int32) then (if 0 < (lg_cmp a1 a3) then some ((0 : Int64), σ) else some ((1 : Int64), σ)) else (if a0 = (8 : Int32) then (if (lg_cmp a1 a3) = 0 then some ((1 : Int64), σ) else some ((0 : Int64), σ)) else (if a0 = (9 : Int32) then (if (lg_cmp a1 a3) < 0 then some ((0 : Int64), σ) else some ((1 : Int64), σ)) else (if a0 = (10 : Int32) then (if (lg_cmp a1 a3) ≤ 0 then some ((0 : Int64), σ) else some ((1 : Int64), σ)) else (if a0 = (12 : Int32) then some ((a1 &&& a3), σ) else (if a0 = (14 : Int32) then (if (lg_cmp a3 (0 : Int64)) = 0 then some ((0 : Int64), σ) else (if a3 = 0 then none else some ((a1 - a1 / a3 * a3), σ))) else some ((a1 ||| a3), σ))))))))))))
theorem gm_X12_one : gS yX12_one (Cond.code yX12_one cX12_one 5 (Option.some Jvm.ClassFile.FieldType.long)) 3 := ⟨by decide +kernel, tw_1475, tw_12, tw_1476⟩
set_option maxHeartbeats 4000000 in
set_option maxRecDepth 100000 in
theorem c_X12_one (l : Launch) (D : va_G) (ad : Nat → Nat) (ca : Nat → ClassId) (kz : Nat → Nat) (hJ : pInj ad) (n : Nat) (a0 : Int32) (a1 : Int64) (a3 : Int64) (σ : PS) (out : Int64 × PS) (hF : F_X12_one n a0 a1 a3 σ = some out) : Met l yX12_one (Cond.code yX12_one cX12_one 5 (Option.some Jvm.ClassFile.FieldType.long) :: gw_tbl) { frames := 0, cells := 0, slots := 0, locals := 0 } (va_Pc [.int a0, .long a1, .long a3] (pU D ad ca kz σ)) (pQl D ad ca out) 0 0 (pAD ad) := by
  refine q_entry (own := "AskedCampModel") hJ (by decide) rfl (Nat.le_of_ble_eq_true rfl) (fun p e s m below meth c C hr hlk => ?_)
  refine q_lv [(0, .int a0), (1, .long a1), (3, .long a3)] rfl ?_
  rw [F_X12_one] at hF
  refine q_iload_n C 0 dX12_one_0 rfl rfl ?_
  by_cases c1 : a0 = (2 : Int32)
  · replace hF := ift c1 hF
    refine q_tableIn (off := 67) (tgt := 68) C dX12_one_1 (by rw [c1]; decide) (by rw [c1]; decide) (by rw [c1] <;> rfl) (by decide) ?_
    refine q_lload_n C 1 dX12_one_68 rfl rfl ?_
    refine q_lload_n C 2 dX12_one_69 rfl rfl ?_
    refine q_ladd C dX12_one_70 ?_
    exact q_lret C hr hlk dX12_one_71 hF
  replace hF := ife c1 hF
  by_cases c2 : a0 = (3 : Int32)
  · replace hF := ift c2 hF
    refine q_tableIn (off := 71) (tgt := 72) C dX12_one_1 (by rw [c2]; decide) (by rw [c2]; decide) (by rw [c2] <;> rfl) (by decide) ?_
    refine q_lload_n C 1 dX12_one_72 rfl rfl ?_
    refine q_lload_n C 2 dX12_one_73 rfl rfl ?_
    refine q_lsub C dX12_one_74 ?_
    exact q_lret C hr hlk dX12_one_75 hF
  replace hF := ife c2 hF
  by_cases c3 : a0 = (4 : Int32)
  · replace hF := ift c3 hF
    refine q_tableIn (off := 75) (tgt := 76) C dX12_one_1 (by rw [c3]; decide) (by rw [c3]; decide) (by rw [c3] <;> rfl) (by decide) ?_
    refine q_lload_n C 1 dX12_one_76 rfl rfl ?_
    refine q_lload_n C 2 dX12_one_77 rfl rfl ?_
    refine q_lmul C dX12_one_78 ?_
    exact q_lret C hr hlk dX12_one_79 hF
  replace hF := ife c3 hF
  by_cases c4 : a0 = (5 : Int32)
  · replace hF := ift c4 hF
    refine q_tableIn (off := 79) (tgt := 80) C dX12_one_1 (by rw [c4]; decide) (by rw [c4]; decide) (by rw [c4] <;> rfl) (by decide) ?_
    refine q_lload_n C 2 dX12_one_80 rfl rfl ?_
    refine q_lconst (v := 0) C dX12_one_81 (by decide) ?_
    refine q_lcmp C dX12_one_82 ?_
    refine q_if_ne (tgt := 90) C dX12_one_83 (by decide) (fun c5 => ?_) (fun c5 => ?_)
    · replace hF := ife c5 hF
      refine q_lload_n C 1 dX12_one_90 rfl rfl ?_
      refine q_lload_n C 2 dX12_one_91 rfl rfl ?_
      obtain ⟨g6, hF⟩ := grn hF
      refine q_ldiv C dX12_one_92 g6 ?_
      exact q_lret C hr hlk dX12_one_93 hF
    · replace hF := ift c5 hF
      refine q_lconst (v := 0) C dX12_one_86 (by decide) ?_
      refine q_goto (tgt := 93) C dX12_one_87 (by decide) ?_
      exact q_lret C hr hlk dX12_one_93 hF
  replace hF := ife c4 hF
  by_cases c7 : a0 = (6 : Int32)
  · replace hF := ift c7 hF
    refine q_tableIn (off := 107) (tgt := 108) C dX12_one_1 (by rw [c7]; decide) (by rw [c7]; decide) (by rw [c7] <;> rfl) (by decide) ?_
    refine q_lload_n C 1 dX12_one_108 rfl rfl ?_
    refine q_lload_n C 2 dX12_one_109 rfl rfl ?_
    refine q_lcmp C dX12_one_110 ?_
    refine q_if_ge (tgt := 118) C dX12_one_111 (by decide) (fun c8 => ?_) (fun c8 => ?_)
    · replace hF := ift c8 hF
      refine q_lconst (v := 0) C dX12_one_118 (by decide) ?_
      exact q_lret C hr hlk dX12_one_119 hF
    · replace hF := ife c8 hF
      refine q_lconst (v := 1) C dX12_one_114 (by decide) ?_
      refine q_goto (tgt := 119) C dX12_one_115 (by decide) ?_
      exact q_lret C hr hlk dX12_one_119 hF
  replace hF := ife c7 hF
  by_cases c9 : a0 = (7 : Int32)
  · replace hF := ift c9 hF
    refine q_tableIn (off := 119) (tgt := 120) C dX12_one_1 (by rw [c9]; decide) (by rw [c9]; decide) (by rw [c9] <;> rfl) (by decide) ?_
    refine q_lload_n C 1 dX12_one_120 rfl rfl ?_
    refine q_lload_n C 2 dX12_one_121 rfl rfl ?_
    refine q_lcmp C dX12_one_122 ?_
    refine q_if_gt (tgt := 130) C dX12_one_123 (by decide) (fun c10 => ?_) (fun c10 => ?_)
    · replace hF := ift c10 hF
      refine q_lconst (v := 0) C dX12_one_130 (by decide) ?_
      exact q_lret C hr hlk dX12_one_131 hF
    · replace hF := ife c10 hF
      refine q_lconst (v := 1) C dX12_one_126 (by decide) ?_
      refine q_goto (tgt := 131) C dX12_one_127 (by decide) ?_
      exact q_lret C hr hlk dX12_one_131 hF
  replace hF := ife c9 hF
  by_cases c11 : a0 = (8 : Int32)
  · replace hF := ift c11 hF
    refine q_tableIn (off := 131) (tgt := 132) C dX12_one_1 (by rw [c11]; decide) (by rw [c11]; decide) (by rw [c11] <;> rfl) (by decide) ?_
    refine q_lload_n C 1 dX12_one_132 rfl rfl ?_
    refine q_lload_n C 2 dX12_one_133 rfl rfl ?_
    refine q_lcmp C dX12_one_134 ?_
    refine q_if_ne (tgt := 142) C dX12_one_135 (by decide) (fun c12 => ?_) (fun c12 => ?_)
    · replace hF := ife c12 hF
      refine q_lconst (v := 0) C dX12_one_142 (by decide) ?_
      exact q_lret C hr hlk dX12_one_143 hF
    · replace hF := ift c12 hF
      refine q_lconst (v := 1) C dX12_one_138 (by decide) ?_
      refine q_goto (tgt := 143) C dX12_one_139 (by decide) ?_
      exact q_lret C hr hlk dX12_one_143 hF
  replace hF := ife c11 hF
  by_cases c13 : a0 = (9 : Int32)
  · replace hF := ift c13 hF
    refine q_tableIn (off := 143) (tgt := 144) C dX12_one_1 (by rw [c13]; decide) (by rw [c13]; decide) (by rw [c13] <;> rfl) (by decide) ?_
    refine q_lload_n C 1 dX12_one_144 rfl rfl ?_
    refine q_lload_n C 2 dX12_one_145 rfl rfl ?_
    refine q_lcmp C dX12_one_146 ?_
    refine q_if_lt (tgt := 154) C dX12_one_147 (by decide) (fun c14 => ?_) (fun c14 => ?_)
    · replace hF := ift c14 hF
      refine q_lconst (v := 0) C dX12_one_154 (by decide) ?_
      exact q_lret C hr hlk dX12_one_155 hF
    · replace hF := ife c14 hF
      refine q_lconst (v := 1) C dX12_one_150 (by decide) ?_
      refine q_goto (tgt := 155) C dX12_one_151 (by decide) ?_
      exact q_lret C hr hlk dX12_one_155 hF
  replace hF := ife c13 hF
  by_cases c15 : a0 = (10 : Int32)
  · replace hF := ift c15 hF
    refine q_tableIn (off := 155) (tgt := 156) C dX12_one_1 (by rw [c15]; decide) (by rw [c15]; decide) (by rw [c15] <;> rfl) (by decide) ?_
    refine q_lload_n C 1 dX12_one_156 rfl rfl ?_
    refine q_lload_n C 2 dX12_one_157 rfl rfl ?_
    refine q_lcmp C dX12_one_158 ?_
    refine q_if_le (tgt := 166) C dX12_one_159 (by decide) (fun c16 => ?_) (fun c16 => ?_)
    · replace hF := ift c16 hF
      refine q_lconst (v := 0) C dX12_one_166 (by decide) ?_
      exact q_lret C hr hlk dX12_one_167 hF
    · replace hF := ife c16 hF
      refine q_lconst (v := 1) C dX12_one_162 (by decide) ?_
      refine q_goto (tgt := 167) C dX12_one_163 (by decide) ?_
      exact q_lret C hr hlk dX12_one_167 hF
  replace hF := ife c15 hF
  by_cases c17 : a0 = (12 : Int32)
  · replace hF := ift c17 hF
    refine q_tableIn (off := 167) (tgt := 168) C dX12_one_1 (by rw [c17]; decide) (by rw [c17]; decide) (by rw [c17] <;> rfl) (by decide) ?_
    refine q_lload_n C 1 dX12_one_168 rfl rfl ?_
    refine q_lload_n C 2 dX12_one_169 rfl rfl ?_
    refine q_land C dX12_one_170 ?_
    exact q_lret C hr hlk dX12_one_171 hF
  replace hF := ife c17 hF
  by_cases c18 : a0 = (14 : Int32)
  · replace hF := ift c18 hF
    refine q_tableIn (off := 93) (tgt := 94) C dX12_one_1 (by rw [c18]; decide) (by rw [c18]; decide) (by rw [c18] <;> rfl) (by decide) ?_
    refine q_lload_n C 2 dX12_one_94 rfl rfl ?_
    refine q_lconst (v := 0) C dX12_one_95 (by decide) ?_
    refine q_lcmp C dX12_one_96 ?_
    refine q_if_ne (tgt := 104) C dX12_one_97 (by decide) (fun c19 => ?_) (fun c19 => ?_)
    · replace hF := ife c19 hF
      refine q_lload_n C 1 dX12_one_104 rfl rfl ?_
      refine q_lload_n C 2 dX12_one_105 rfl rfl ?_
      obtain ⟨g20, hF⟩ := grn hF
      refine q_lrem C dX12_one_106 g20 ?_
      exact q_lret C hr hlk dX12_one_107 hF
    · replace hF := ift c19 hF
      refine q_lconst (v := 0) C dX12_one_100 (by decide) ?_
      refine q_goto (tgt := 107) C dX12_one_101 (by decide) ?_
      exact q_lret C hr hlk dX12_one_107 hF
  replace hF := ife c18 hF
  by_cases c21 : a0 = (11 : Int32)
  · refine q_tableIn (off := 171) (tgt := 172) C dX12_one_1 (by rw [c21]; decide) (by rw [c21]; decide) (by rw [c21] <;> rfl) (by decide) ?_
    refine q_lload_n C 1 dX12_one_172 rfl rfl ?_
    refine q_lload_n C 2 dX12_one_173 rfl rfl ?_
    refine q_lor C dX12_one_174 ?_
    exact q_lret C hr hlk dX12_one_175 hF
  by_cases c22 : a0 = (13 : Int32)
  · refine q_tableIn (off := 171) (tgt := 172) C dX12_one_1 (by rw [c22]; decide) (by rw [c22]; decide) (by rw [c22] <;> rfl) (by decide) ?_
    refine q_lload_n C 1 dX12_one_172 rfl rfl ?_
    refine q_lload_n C 2 dX12_one_173 rfl rfl ?_
    refine q_lor C dX12_one_174 ?_
    exact q_lret C hr hlk dX12_one_175 hF
  refine q_tableOut (tgt := 172) C dX12_one_1 (by have ec1 := sw_ne c1; have ec2 := sw_ne c2; have ec3 := sw_ne c3; have ec4 := sw_ne c4; have ec7 := sw_ne c7; have ec9 := sw_ne c9; have ec11 := sw_ne c11; have ec13 := sw_ne c13; have ec15 := sw_ne c15; have ec17 := sw_ne c17; have ec18 := sw_ne c18; have ec21 := sw_ne c21; have ec22 := sw_ne c22; simp only [sw_lit] at ec1 ec2 ec3 ec4 ec7 ec9 ec11 ec13 ec15 ec17 ec18 ec21 ec22; omega) (by decide) ?_
  refine q_lload_n C 1 dX12_one_172 rfl rfl ?_
  refine q_lload_n C 2 dX12_one_173 rfl rfl ?_
  refine q_lor C dX12_one_174 ?_
  exact q_lret C hr hlk dX12_one_175 hF
-- X12_pop
def F_X12_pop (n : Nat) (σ : PS) : Option (Int64 × PS) := (if 0 ≤ ((psI σ 249 18 ((σ.1 249 18) - (1 : Int32))).1 249 18) ∧ ((psI σ 249 18 ((σ.1 249 18) - (1 : Int32))).1 249 18).toNatClampNeg < 64 then some (((psI σ 249 18 ((σ.1 249 18) - (1 : Int32))).2 257 (((psI σ 249 18 ((σ.1 249 18) - (1 : Int32))).1 249 18).toNatClampNeg)), psI σ 249 18 ((σ.1 249 18) - (1 : Int32))) else none)
theorem gm_X12_pop : gM "AskedCampModel" yX12_pop (Cond.code yX12_pop cX12_pop 1 (Option.some Jvm.ClassFile.FieldType.long)) 0 := ⟨by decide +kernel, tw_1472, tw_p80, tw_12, tw_1473⟩
set_option maxHeartbeats 4000000 in
set_option maxRecDepth 100000 in
theorem c_X12_pop (l : Launch) (D : va_G) (ad : Nat → Nat) (ca : Nat → ClassId) (kz : Nat → Nat) (hJ : pInj ad) (n : Nat) (σ : PS) (out : Int64 × PS) (hF : F_X12_pop n σ = some out) : Met l yX12_pop (Cond.code yX12_pop cX12_pop 1 (Option.some Jvm.ClassFile.FieldType.long) :: gw_tbl) { frames := 0, cells := 0, slots := 0, locals := 0 } (va_Pc [.ref (ad (249))] (pU D ad ca kz σ)) (pQl D ad ca out) 0 0 (pAD ad) := by
  refine q_entry (own := "AskedCampModel") hJ (by decide) rfl (Nat.le_of_ble_eq_true rfl) (fun p e s m below meth c C hr hlk => ?_)
  refine q_lv [(0, .ref (ad (249)))] rfl ?_
  rw [F_X12_pop] at hF
  refine q_aload_n C 0 dX12_pop_0 rfl rfl ?_
  refine q_dup C dX12_pop_1 rfl ?_
  refine qg_11_18 C pi_249 tw_1071 dX12_pop_2 ?_
  refine q_iconst (v := 1) C dX12_pop_5 (by decide) ?_
  refine q_isub C dX12_pop_6 ?_
  refine qs_11_18 C pi_249 tw_1071 dX12_pop_7 ?_
  refine q_aload_n C 0 dX12_pop_10 rfl rfl ?_
  refine qg_11_17 C pi_249 tw_1070 dX12_pop_11 ?_
  refine q_aload_n C 0 dX12_pop_14 rfl rfl ?_
  refine qg_11_18 C pi_249 tw_1071 dX12_pop_15 ?_
  obtain ⟨g1, hF⟩ := grd hF
  refine q_lald C pa_257 (vp_of g1) dX12_pop_18 ?_
  exact q_lret C hr hlk dX12_pop_19 hF
-- X12_push
def F_X12_push (n : Nat) (a1 : Int64) (σ : PS) : Option (PS) := (if 0 ≤ (σ.1 249 18) ∧ (σ.1 249 18).toNatClampNeg < 64 then some (psI (psJ σ 257 ((σ.1 249 18).toNatClampNeg) a1) 249 18 (((psJ σ 257 ((σ.1 249 18).toNatClampNeg) a1).1 249 18) + (1 : Int32))) else none)
theorem gm_X12_push : gM "AskedCampModel" yX12_push (Cond.code yX12_push cX12_push 3 (Option.none : Option Jvm.ClassFile.FieldType)) 1 := ⟨by decide +kernel, tw_1468, tw_p79, tw_12, tw_1469⟩
set_option maxHeartbeats 4000000 in
set_option maxRecDepth 100000 in
theorem c_X12_push (l : Launch) (D : va_G) (ad : Nat → Nat) (ca : Nat → ClassId) (kz : Nat → Nat) (hJ : pInj ad) (n : Nat) (a1 : Int64) (σ : PS) (out : PS) (hF : F_X12_push n a1 σ = some out) : Met l yX12_push (Cond.code yX12_push cX12_push 3 (Option.none : Option Jvm.ClassFile.FieldType) :: gw_tbl) { frames := 0, cells := 0, slots := 0, locals := 0 } (va_Pc [.ref (ad (249)), .long a1] (pU D ad ca kz σ)) (pQv D ad ca out) 0 0 (pAD ad) := by
  refine q_entry (own := "AskedCampModel") hJ (by decide) rfl (Nat.le_of_ble_eq_true rfl) (fun p e s m below meth c C hr hlk => ?_)
  refine q_lv [(0, .ref (ad (249))), (1, .long a1)] rfl ?_
  rw [F_X12_push] at hF
  refine q_aload_n C 0 dX12_push_0 rfl rfl ?_
  refine qg_11_17 C pi_249 tw_1070 dX12_push_1 ?_
  refine q_aload_n C 0 dX12_push_4 rfl rfl ?_
  refine qg_11_18 C pi_249 tw_1071 dX12_push_5 ?_
  refine q_lload_n C 1 dX12_push_8 rfl rfl ?_
  obtain ⟨g1, hF⟩ := grd hF
  refine q_last C pa_257 (vp_of g1) dX12_push_9 ?_
  refine q_aload_n C 0 dX12_push_10 rfl rfl ?_
  refine q_dup C dX12_push_11 rfl ?_
  refine qg_11_18 C pi_249 tw_1071 dX12_push_12 ?_
  refine q_iconst (v := 1) C dX12_push_15 (by decide) ?_
  refine q_iadd C dX12_push_16 ?_
  refine qs_11_18 C pi_249 tw_1071 dX12_push_17 ?_
  exact q_vret C hr hlk dX12_push_20 hF
-- X12_reckons
def L_X12_reckons_8 (n : Nat) : Nat → Int32 → Int32 → Int32 → PS → Option (PS)
  | 0, _, _, _, _ => none
  | k + 1, x1, x3, x4, σ => (if x3 ≤ x4 then some σ else (if 0 ≤ (((400 : Int32) * x1) + x4) ∧ (((400 : Int32) * x1) + x4).toNatClampNeg < 2400 then (if ((σ.1 251 ((((400 : Int32) * x1) + x4).toNatClampNeg)) &&& (15 : Int32)) = 0 then (F_X12_push n (((σ.1 251 ((((400 : Int32) * x1) + x4).toNatClampNeg)) >>> ((4 : Int32) &&& 31)).toInt64) σ).bind (fun q21 => L_X12_reckons_8 n k x1 x3 (x4 + 1) q21) else (if ((σ.1 251 ((((400 : Int32) * x1) + x4).toNatClampNeg)) &&& (15 : Int32)) = (1 : Int32) then (if 0 ≤ ((σ.1 251 ((((400 : Int32) * x1) + x4).toNatClampNeg)) >>> ((4 : Int32) &&& 31)) ∧ ((σ.1 251 ((((400 : Int32) * x1) + x4).toNatClampNeg)) >>> ((4 : Int32) &&& 31)).toNatClampNeg < 11 then (F_X12_push n (σ.2 258 (((σ.1 251 ((((400 : Int32) * x1) + x4).toNatClampNeg)) >>> ((4 : Int32) &&& 31)).toNatClampNeg)) σ).bind (fun q19 => L_X12_reckons_8 n k x1 x3 (x4 + 1) q19) else none) else (if ((σ.1 251 ((((400 : Int32) * x1) + x4).toNatClampNeg)) &&& (15 : Int32)) = (11 : Int32) then (F_X12_pop n σ).bind (fun q14 => (F_X12_push n ((1 : Int64) - q14.1) q14.2).bind (fun q16 => L_X12_reckons_8 n k x1 x3 (x4 + 1) q16)) else (F_X12_pop n σ).bind (fun q6 => (F_X12_pop n q6.2).bind (fun q8 => (F_X12_one n ((σ.1 251 ((((400 : Int32) * x1) + x4).toNatClampNeg)) &&& (15 : Int32)) q8.1 q6.1 q8.2).bind (fun q10 => (F_X12_push n q10.1 q10.2).bind (fun q12 => L_X12_reckons_8 n k x1 x3 (x4 + 1) q12))))))) else none))
def F_X12_reckons (n : Nat) (a1 : Int32) (a2 : Int32) (a3 : Int32) (σ : PS) : Option (Int64 × PS) := (L_X12_reckons_8 n n a1 a3 a2 (psI σ 249 18 (0 : Int32))).bind (fun o23 => (F_X12_pop n o23).bind (fun q25 => some (q25.1, q25.2)))
theorem gm_X12_reckons : gM "AskedCampModel" yX12_reckons (Cond.code yX12_reckons cX12_reckons 11 (Option.some Jvm.ClassFile.FieldType.long)) 3 := ⟨by decide +kernel, tw_1464, tw_p78, tw_12, tw_1465⟩
set_option maxHeartbeats 4000000 in
set_option maxRecDepth 100000 in
theorem l_X12_reckons_8 {p : Program} {l : Launch} {e : Env} {R : Room} {s : State} {m : MethodId} {args : Array Value} {below : List Frame} {meth : Method} {c : Code} {D : va_G} {ad : Nat → Nat} {ca : Nat → ClassId} {kz : Nat → Nat} {Q : State → Prop} (C : pC p s m args c cX12_reckons "AskedCampModel" 11 D ad ca kz) (hR : 1 ≤ R.frames ∧ 24 ≤ R.locals) {n : Nat} (o : PS) (hx0 : PW p l e R s m args below meth c 11 D ad ca 0 0 Q (o) 135 [(0, .ref (ad (249)))] []) : ∀ (k : Nat) (x1 : Int32) (x3 : Int32) (x4 : Int32) (σ : PS), L_X12_reckons_8 n k x1 x3 x4 σ = some o → PW p l e R s m args below meth c 11 D ad ca 0 0 Q σ 8 [(0, .ref (ad (249))), (1, .int x1), (3, .int x3), (4, .int x4)] [] := by
  intro k
  induction k with
  | zero => intro x1 x3 x4 σ hF; exact nomatch (show (none : Option (PS)) = some o from hF)
  | succ k ih =>
    intro x1 x3 x4 σ hF
    rw [L_X12_reckons_8] at hF
    refine q_iload C 3 dX12_reckons_8 rfl ?_
    refine q_iload_n C 2 dX12_reckons_10 rfl rfl ?_
    refine q_icmp_ge (tgt := 135) C dX12_reckons_11 (by decide) (fun c1 => ?_) (fun c1 => ?_)
    · replace hF := ift c1 hF
      cases hF
      refine q_sub [0] rfl ?_
      exact hx0
    · replace hF := ife c1 hF
      refine q_aload_n C 0 dX12_reckons_14 rfl rfl ?_
      refine qg_11_3 C pi_249 tw_1056 dX12_reckons_15 ?_
      refine q_sipush (v := 400) C dX12_reckons_18 (by decide) ?_
      refine q_iload_n C 1 dX12_reckons_21 rfl rfl ?_
      refine q_imul C dX12_reckons_22 ?_
      refine q_iload C 3 dX12_reckons_23 rfl ?_
      refine q_iadd C dX12_reckons_25 ?_
      obtain ⟨g2, hF⟩ := grd hF
      refine q_iald C pa_251 (vp_of g2) dX12_reckons_26 ?_
      refine q_bipush (v := 15) C dX12_reckons_27 (by decide) ?_
      refine q_iand C dX12_reckons_29 ?_
      refine q_istore C [(5, .int ((σ.1 251 ((((400 : Int32) * x1) + x4).toNatClampNeg)) &&& (15 : Int32))), (0, .ref (ad (249))), (1, .int x1), (3, .int x3), (4, .int x4)] dX12_reckons_30 (by decide) rfl ?_
      refine q_aload_n C 1 dX12_reckons_32 rfl rfl ?_
      refine qg_11_3 C pi_249 tw_1056 dX12_reckons_33 ?_
      refine q_sipush (v := 400) C dX12_reckons_36 (by decide) ?_
      refine q_iload_n C 2 dX12_reckons_39 rfl rfl ?_
      refine q_imul C dX12_reckons_40 ?_
      refine q_iload C 4 dX12_reckons_41 rfl ?_
      refine q_iadd C dX12_reckons_43 ?_
      refine q_iald C pa_251 (vp_of g2) dX12_reckons_44 ?_
      refine q_iconst (v := 4) C dX12_reckons_45 (by decide) ?_
      refine q_ishr C dX12_reckons_46 ?_
      refine q_istore C [(6, .int ((σ.1 251 ((((400 : Int32) * x1) + x4).toNatClampNeg)) >>> ((4 : Int32) &&& 31))), (5, .int ((σ.1 251 ((((400 : Int32) * x1) + x4).toNatClampNeg)) &&& (15 : Int32))), (0, .ref (ad (249))), (1, .int x1), (3, .int x3), (4, .int x4)] dX12_reckons_47 (by decide) rfl ?_
      refine q_iload C 1 dX12_reckons_49 rfl ?_
      refine q_if_ne (tgt := 64) C dX12_reckons_51 (by decide) (fun c3 => ?_) (fun c3 => ?_)
      · replace hF := ife c3 hF
        refine q_iload C 1 dX12_reckons_64 rfl ?_
        refine q_iconst (v := 1) C dX12_reckons_66 (by decide) ?_
        refine q_icmp_ne (tgt := 84) C dX12_reckons_67 (by decide) (fun c4 => ?_) (fun c4 => ?_)
        · replace hF := ife c4 hF
          refine q_iload C 1 dX12_reckons_84 rfl ?_
          refine q_bipush (v := 11) C dX12_reckons_86 (by decide) ?_
          refine q_icmp_ne (tgt := 104) C dX12_reckons_88 (by decide) (fun c5 => ?_) (fun c5 => ?_)
          · replace hF := ife c5 hF
            refine q_aload_n C 2 dX12_reckons_104 rfl rfl ?_
            obtain ⟨q6, h7, hF⟩ := bnd hF
            try dsimp only at hF
            refine q_callVl C [] (c_X12_pop l D ad ca kz C.2.2.2.2.2.2.1 _ _ _ h7) tw_1470 gm_X12_pop pi_249.1 (pe_11 pi_249.2) rfl ⟨rfl, rfl⟩ ⟨Nat.le_trans (Nat.le_of_ble_eq_true rfl) hR.1, Nat.le_trans (Nat.le_of_ble_eq_true rfl) hR.2⟩ rfl (Nat.le_of_ble_eq_true rfl) dX12_reckons_105 q00 ?_
            refine q_lstore C [(7, .long q6.1), (6, .int ((σ.1 251 ((((400 : Int32) * x1) + x4).toNatClampNeg)) >>> ((4 : Int32) &&& 31))), (5, .int ((σ.1 251 ((((400 : Int32) * x1) + x4).toNatClampNeg)) &&& (15 : Int32))), (0, .ref (ad (249))), (1, .int x1), (3, .int x3), (4, .int x4)] dX12_reckons_108 (by decide) rfl ?_
            refine q_aload_n C 3 dX12_reckons_110 rfl rfl ?_
            obtain ⟨q8, h9, hF⟩ := bnd hF
            try dsimp only at hF
            refine q_callVl C [] (c_X12_pop l D ad ca kz C.2.2.2.2.2.2.1 _ _ _ h9) tw_1470 gm_X12_pop pi_249.1 (pe_11 pi_249.2) rfl ⟨rfl, rfl⟩ ⟨Nat.le_trans (Nat.le_of_ble_eq_true rfl) hR.1, Nat.le_trans (Nat.le_of_ble_eq_true rfl) hR.2⟩ rfl (Nat.le_of_ble_eq_true rfl) dX12_reckons_111 q00 ?_
            refine q_lstore C [(9, .long q8.1), (7, .long q6.1), (6, .int ((σ.1 251 ((((400 : Int32) * x1) + x4).toNatClampNeg)) >>> ((4 : Int32) &&& 31))), (5, .int ((σ.1 251 ((((400 : Int32) * x1) + x4).toNatClampNeg)) &&& (15 : Int32))), (0, .ref (ad (249))), (1, .int x1), (3, .int x3), (4, .int x4)] dX12_reckons_114 (by decide) rfl ?_
            refine q_aload_n C 4 dX12_reckons_116 rfl rfl ?_
            refine q_iload C 3 dX12_reckons_117 rfl ?_
            refine q_lload C 0 dX12_reckons_119 rfl ?_
            refine q_lload C 1 dX12_reckons_121 rfl ?_
            obtain ⟨q10, h11, hF⟩ := bnd hF
            try dsimp only at hF
            refine q_callSl C [.int ((σ.1 251 ((((400 : Int32) * x1) + x4).toNatClampNeg)) &&& (15 : Int32)), .long q8.1, .long q6.1] (c_X12_one l D ad ca kz C.2.2.2.2.2.2.1 _ _ _ _ _ _ h11) tw_1474 gm_X12_one ⟨rfl, rfl⟩ ⟨Nat.le_trans (Nat.le_of_ble_eq_true rfl) hR.1, Nat.le_trans (Nat.le_of_ble_eq_true rfl) hR.2⟩ rfl (Nat.le_of_ble_eq_true rfl) dX12_reckons_123 q00 ?_
            obtain ⟨q12, h13, hF⟩ := bnd hF
            try dsimp only at hF
            refine q_callVv C [.long q10.1] (c_X12_push l D ad ca kz C.2.2.2.2.2.2.1 _ _ _ _ h13) tw_1466 gm_X12_push pi_249.1 (pe_11 pi_249.2) rfl ⟨rfl, rfl⟩ ⟨Nat.le_trans (Nat.le_of_ble_eq_true rfl) hR.1, Nat.le_trans (Nat.le_of_ble_eq_true rfl) hR.2⟩ rfl (Nat.le_of_ble_eq_true rfl) dX12_reckons_126 q00 ?_
            refine q_iinc C 7 [(4, .int (x4 + 1)), (9, .long q8.1), (7, .long q6.1), (6, .int ((σ.1 251 ((((400 : Int32) * x1) + x4).toNatClampNeg)) >>> ((4 : Int32) &&& 31))), (5, .int ((σ.1 251 ((((400 : Int32) * x1) + x4).toNatClampNeg)) &&& (15 : Int32))), (0, .ref (ad (249))), (1, .int x1), (3, .int x3)] dX12_reckons_129 rfl rfl (by decide) rfl ?_
            refine q_goto (tgt := 8) C dX12_reckons_132 (by decide) ?_
            refine q_sub [5, 6, 7, 0] rfl ?_
            exact ih _ _ _ _ hF
          · replace hF := ift c5 hF
            refine q_aload_n C 2 dX12_reckons_91 rfl rfl ?_
            refine q_lconst (v := 1) C dX12_reckons_92 (by decide) ?_
            refine q_aload_n C 2 dX12_reckons_93 rfl rfl ?_
            obtain ⟨q14, h15, hF⟩ := bnd hF
            try dsimp only at hF
            refine q_callVl C [] (c_X12_pop l D ad ca kz C.2.2.2.2.2.2.1 _ _ _ h15) tw_1470 gm_X12_pop pi_249.1 (pe_11 pi_249.2) rfl ⟨rfl, rfl⟩ ⟨Nat.le_trans (Nat.le_of_ble_eq_true rfl) hR.1, Nat.le_trans (Nat.le_of_ble_eq_true rfl) hR.2⟩ rfl (Nat.le_of_ble_eq_true rfl) dX12_reckons_94 q00 ?_
            refine q_lsub C dX12_reckons_97 ?_
            obtain ⟨q16, h17, hF⟩ := bnd hF
            try dsimp only at hF
            refine q_callVv C [.long ((1 : Int64) - q14.1)] (c_X12_push l D ad ca kz C.2.2.2.2.2.2.1 _ _ _ _ h17) tw_1466 gm_X12_push pi_249.1 (pe_11 pi_249.2) rfl ⟨rfl, rfl⟩ ⟨Nat.le_trans (Nat.le_of_ble_eq_true rfl) hR.1, Nat.le_trans (Nat.le_of_ble_eq_true rfl) hR.2⟩ rfl (Nat.le_of_ble_eq_true rfl) dX12_reckons_98 q00 ?_
            refine q_goto (tgt := 129) C dX12_reckons_101 (by decide) ?_
            refine q_iinc C 5 [(4, .int (x4 + 1)), (6, .int ((σ.1 251 ((((400 : Int32) * x1) + x4).toNatClampNeg)) >>> ((4 : Int32) &&& 31))), (5, .int ((σ.1 251 ((((400 : Int32) * x1) + x4).toNatClampNeg)) &&& (15 : Int32))), (0, .ref (ad (249))), (1, .int x1), (3, .int x3)] dX12_reckons_129 rfl rfl (by decide) rfl ?_
            refine q_goto (tgt := 8) C dX12_reckons_132 (by decide) ?_
            refine q_sub [3, 4, 5, 0] rfl ?_
            exact ih _ _ _ _ hF
        · replace hF := ift c4 hF
          refine q_aload_n C 2 dX12_reckons_70 rfl rfl ?_
          refine q_aload_n C 2 dX12_reckons_71 rfl rfl ?_
          refine qg_11_19 C pi_249 tw_1072 dX12_reckons_72 ?_
          refine q_iload C 0 dX12_reckons_75 rfl ?_
          obtain ⟨g18, hF⟩ := grd hF
          refine q_lald C pa_258 (vp_of g18) dX12_reckons_77 ?_
          obtain ⟨q19, h20, hF⟩ := bnd hF
          try dsimp only at hF
          refine q_callVv C [.long (σ.2 258 (((σ.1 251 ((((400 : Int32) * x1) + x4).toNatClampNeg)) >>> ((4 : Int32) &&& 31)).toNatClampNeg))] (c_X12_push l D ad ca kz C.2.2.2.2.2.2.1 _ _ _ _ h20) tw_1466 gm_X12_push pi_249.1 (pe_11 pi_249.2) rfl ⟨rfl, rfl⟩ ⟨Nat.le_trans (Nat.le_of_ble_eq_true rfl) hR.1, Nat.le_trans (Nat.le_of_ble_eq_true rfl) hR.2⟩ rfl (Nat.le_of_ble_eq_true rfl) dX12_reckons_78 q00 ?_
          refine q_goto (tgt := 129) C dX12_reckons_81 (by decide) ?_
          refine q_iinc C 5 [(4, .int (x4 + 1)), (6, .int ((σ.1 251 ((((400 : Int32) * x1) + x4).toNatClampNeg)) >>> ((4 : Int32) &&& 31))), (5, .int ((σ.1 251 ((((400 : Int32) * x1) + x4).toNatClampNeg)) &&& (15 : Int32))), (0, .ref (ad (249))), (1, .int x1), (3, .int x3)] dX12_reckons_129 rfl rfl (by decide) rfl ?_
          refine q_goto (tgt := 8) C dX12_reckons_132 (by decide) ?_
          refine q_sub [3, 4, 5, 0] rfl ?_
          exact ih _ _ _ _ hF
      · replace hF := ift c3 hF
        refine q_aload_n C 2 dX12_reckons_54 rfl rfl ?_
        refine q_iload C 0 dX12_reckons_55 rfl ?_
        refine q_i2l C dX12_reckons_57 ?_
        obtain ⟨q21, h22, hF⟩ := bnd hF
        try dsimp only at hF
        refine q_callVv C [.long (((σ.1 251 ((((400 : Int32) * x1) + x4).toNatClampNeg)) >>> ((4 : Int32) &&& 31)).toInt64)] (c_X12_push l D ad ca kz C.2.2.2.2.2.2.1 _ _ _ _ h22) tw_1466 gm_X12_push pi_249.1 (pe_11 pi_249.2) rfl ⟨rfl, rfl⟩ ⟨Nat.le_trans (Nat.le_of_ble_eq_true rfl) hR.1, Nat.le_trans (Nat.le_of_ble_eq_true rfl) hR.2⟩ rfl (Nat.le_of_ble_eq_true rfl) dX12_reckons_58 q00 ?_
        refine q_goto (tgt := 129) C dX12_reckons_61 (by decide) ?_
        refine q_iinc C 5 [(4, .int (x4 + 1)), (6, .int ((σ.1 251 ((((400 : Int32) * x1) + x4).toNatClampNeg)) >>> ((4 : Int32) &&& 31))), (5, .int ((σ.1 251 ((((400 : Int32) * x1) + x4).toNatClampNeg)) &&& (15 : Int32))), (0, .ref (ad (249))), (1, .int x1), (3, .int x3)] dX12_reckons_129 rfl rfl (by decide) rfl ?_
        refine q_goto (tgt := 8) C dX12_reckons_132 (by decide) ?_
        refine q_sub [3, 4, 5, 0] rfl ?_
        exact ih _ _ _ _ hF
set_option maxHeartbeats 4000000 in
set_option maxRecDepth 100000 in
theorem c_X12_reckons (l : Launch) (D : va_G) (ad : Nat → Nat) (ca : Nat → ClassId) (kz : Nat → Nat) (hJ : pInj ad) (n : Nat) (a1 : Int32) (a2 : Int32) (a3 : Int32) (σ : PS) (out : Int64 × PS) (hF : F_X12_reckons n a1 a2 a3 σ = some out) : Met l yX12_reckons (Cond.code yX12_reckons cX12_reckons 11 (Option.some Jvm.ClassFile.FieldType.long) :: gw_tbl) { frames := 1, cells := 0, slots := 0, locals := 24 } (va_Pc [.ref (ad (249)), .int a1, .int a2, .int a3] (pU D ad ca kz σ)) (pQl D ad ca out) 0 0 (pAD ad) := by
  refine q_entry (own := "AskedCampModel") hJ (by decide) rfl (Nat.le_of_ble_eq_true rfl) (fun p e s m below meth c C hr hlk => ?_)
  refine q_lv [(0, .ref (ad (249))), (1, .int a1), (2, .int a2), (3, .int a3)] rfl ?_
  rw [F_X12_reckons] at hF
  refine q_aload_n C 0 dX12_reckons_0 rfl rfl ?_
  refine q_iconst (v := 0) C dX12_reckons_1 (by decide) ?_
  refine qs_11_18 C pi_249 tw_1071 dX12_reckons_2 ?_
  refine q_iload_n C 2 dX12_reckons_5 rfl rfl ?_
  refine q_istore C [(4, .int a2), (0, .ref (ad (249))), (1, .int a1), (2, .int a2), (3, .int a3)] dX12_reckons_6 (by decide) rfl ?_
  obtain ⟨o23, h24, hF⟩ := bnd hF
  try dsimp only at hF
  refine q_sub [1, 2, 4, 0] rfl ?_
  refine l_X12_reckons_8 C ⟨Nat.le_of_ble_eq_true rfl, Nat.le_of_ble_eq_true rfl⟩ o23 ?_ n _ _ _ _ h24
  refine q_aload_n C 0 dX12_reckons_135 rfl rfl ?_
  obtain ⟨q25, h26, hF⟩ := bnd hF
  try dsimp only at hF
  refine q_callVl C [] (c_X12_pop l D ad ca kz C.2.2.2.2.2.2.1 _ _ _ h26) tw_1470 gm_X12_pop pi_249.1 (pe_11 pi_249.2) rfl ⟨rfl, rfl⟩ ⟨Nat.le_of_ble_eq_true rfl, Nat.le_of_ble_eq_true rfl⟩ rfl (Nat.le_of_ble_eq_true rfl) dX12_reckons_136 q00 ?_
  exact q_lret C hr hlk dX12_reckons_139 hF
