-- X7_play
def L_X7_play_8 (n : Nat) (a1 : Nat) : Nat → Int32 → Int32 → Int32 → PS → Option (PS)
  | 0, _, _, _, _ => none
  | k + 1, x2, x3, x4, σ => (if (5 : Int32) ≤ x4 then some σ else (if 0 ≤ x4 ∧ x4.toNatClampNeg < 5 then (F_X10_passable n a1 (σ.1 a1 2) (pTb1.getD x4.toNatClampNeg 0) σ).bind (fun q3 => (if q3.1 = (-1 : Int32) then L_X7_play_8 n a1 k x2 x3 (x4 + 1) q3.2 else (if 0 ≤ x2 ∧ x2.toNatClampNeg < 6 then (F_X7_ended n a1 6 q3.1 (q3.2.1 (a1 + 1) x2.toNatClampNeg) (x3 - (1 : Int32)) (0 : Int32) q3.2).bind (fun q7 => (if (q7.2.1 240 2) = (-1 : Int32) then L_X7_play_8 n a1 k x2 x3 (x4 + 1) (psI (psI q7.2 240 2 q7.1) 240 3 q3.1) else (if (q7.2.1 240 2) ≤ q7.1 then L_X7_play_8 n a1 k x2 x3 (x4 + 1) q7.2 else L_X7_play_8 n a1 k x2 x3 (x4 + 1) (psI (psI q7.2 240 2 q7.1) 240 3 q3.1)))) else none))) else none))
def F_X7_play (n : Nat) (a1 : Nat) (a2 : Int32) (a3 : Int32) (σ : PS) : Option (PS) := (L_X7_play_8 n a1 n a2 a3 (0 : Int32) (psI σ 240 2 (-1 : Int32))).bind (fun o11 => some o11)
theorem gm_X7_play : gM "AskedCamp$Siege" yX7_play (Cond.code yX7_play cX7_play 7 (Option.none : Option Jvm.ClassFile.FieldType)) 3 := ⟨by decide +kernel, tw_963, tw_964, tw_11, tw_965⟩
set_option maxHeartbeats 4000000 in
set_option maxRecDepth 100000 in
theorem l_X7_play_8 {p : Program} {l : Launch} {e : Env} {R : Room} {s : State} {m : MethodId} {args : Array Value} {below : List Frame} {meth : Method} {c : Code} {D : va_G} {ad : Nat → Nat} {ca : Nat → ClassId} {kz : Nat → Nat} {Q : State → Prop} (C : pC p s m args c cX7_play "AskedCamp$Siege" 7 D ad ca kz) (hR : 9 ≤ R.frames ∧ 249 ≤ R.locals) {n : Nat} {a1 : Nat} (ha1 : pis a1 9) (o : PS) (hx0 : PW p l e R s m args below meth c 7 D ad ca 0 0 Q (o) 95 [] []) : ∀ (k : Nat) (x2 : Int32) (x3 : Int32) (x4 : Int32) (σ : PS), L_X7_play_8 n a1 k x2 x3 x4 σ = some o → PW p l e R s m args below meth c 7 D ad ca 0 0 Q σ 8 [(0, .ref (ad (240))), (1, .ref (ad (a1))), (2, .int x2), (3, .int x3), (4, .int x4)] [] := by
  intro k
  induction k with
  | zero => intro x2 x3 x4 σ hF; exact nomatch (show (none : Option (PS)) = some o from hF)
  | succ k ih =>
    intro x2 x3 x4 σ hF
    rw [L_X7_play_8] at hF
    refine q_iload C 4 dX7_play_8 rfl ?_
    refine q_sn2 C dX7_play_10 ?_
    refine q_stlen1 C dX7_play_13 ?_
    refine q_icmp_ge (tgt := 95) C dX7_play_14 (by decide) (fun c1 => ?_) (fun c1 => ?_)
    · replace hF := ift c1 hF
      cases hF
      refine q_sub [] rfl ?_
      exact hx0
    · replace hF := ife c1 hF
      refine q_aload_n C 1 dX7_play_17 rfl rfl ?_
      refine q_aload_n C 1 dX7_play_18 rfl rfl ?_
      refine qg_9_2 C ha1 tw_165 dX7_play_19 ?_
      refine q_sn2 C dX7_play_22 ?_
      refine q_iload C 4 dX7_play_25 rfl ?_
      obtain ⟨g2, hF⟩ := grd hF
      refine q_stald1 C (vp_of g2) dX7_play_27 ?_
      obtain ⟨q3, h4, hF⟩ := bnd hF
      try dsimp only at hF
      refine q_callVi C [.int (σ.1 a1 2), .int (pTb1.getD x4.toNatClampNeg 0)] (c_X10_passable l D ad ca kz C.2.2.2.2.2.2.1 _ ha1 _ _ _ _ h4) tw_968 gm_X10_passable ha1.1 (pe_9 ha1.2) rfl ⟨rfl, rfl⟩ ⟨Nat.le_trans (Nat.le_of_ble_eq_true rfl) hR.1, Nat.le_trans (Nat.le_of_ble_eq_true rfl) hR.2⟩ rfl (Nat.le_of_ble_eq_true rfl) dX7_play_28 q00 ?_
      refine q_istore C [(5, .int q3.1), (0, .ref (ad (240))), (1, .ref (ad (a1))), (2, .int x2), (3, .int x3), (4, .int x4)] dX7_play_31 (by decide) rfl ?_
      refine q_iload C 0 dX7_play_33 rfl ?_
      refine q_iconst (v := -1) C dX7_play_35 (by decide) ?_
      refine q_icmp_ne (tgt := 42) C dX7_play_36 (by decide) (fun c5 => ?_) (fun c5 => ?_)
      · replace hF := ife c5 hF
        refine q_aload_n C 2 dX7_play_42 rfl rfl ?_
        refine q_iload C 0 dX7_play_43 rfl ?_
        refine q_aload_n C 2 dX7_play_45 rfl rfl ?_
        refine qg_9_7 C ha1 tw_188 dX7_play_46 ?_
        refine q_iload_n C 3 dX7_play_49 rfl rfl ?_
        obtain ⟨g6, hF⟩ := grd hF
        refine q_iald C (pkW ha1).1 (vp_of g6) dX7_play_50 ?_
        refine q_iload_n C 4 dX7_play_51 rfl rfl ?_
        refine q_iconst (v := 1) C dX7_play_52 (by decide) ?_
        refine q_isub C dX7_play_53 ?_
        refine q_iconst (v := 0) C dX7_play_54 (by decide) ?_
        obtain ⟨q7, h8, hF⟩ := bnd hF
        try dsimp only at hF
        refine q_callSi C [.ref (ad (a1)), .int q3.1, .int (q3.2.1 (a1 + 1) x2.toNatClampNeg), .int (x3 - (1 : Int32)), .int 0] (c_X7_ended l D ad ca kz C.2.2.2.2.2.2.1 _ ha1 _ _ _ _ _ _ h8) tw_969 gm_X7_ended ⟨rfl, rfl⟩ ⟨Nat.le_trans (Nat.le_of_ble_eq_true rfl) hR.1, Nat.le_trans (Nat.le_of_ble_eq_true rfl) hR.2⟩ rfl (Nat.le_of_ble_eq_true rfl) dX7_play_55 q00 ?_
        refine q_istore C [(6, .int q7.1), (5, .int q3.1), (0, .ref (ad (240))), (1, .ref (ad (a1))), (2, .int x2), (3, .int x3), (4, .int x4)] dX7_play_58 (by decide) rfl ?_
        refine q_aload_n C 2 dX7_play_60 rfl rfl ?_
        refine qg_6_2 C pi_240 tw_361 dX7_play_61 ?_
        refine q_iconst (v := -1) C dX7_play_64 (by decide) ?_
        refine q_icmp_eq (tgt := 77) C dX7_play_65 (by decide) (fun c9 => ?_) (fun c9 => ?_)
        · replace hF := ift c9 hF
          refine q_aload_n C 2 dX7_play_77 rfl rfl ?_
          refine q_iload C 0 dX7_play_78 rfl ?_
          refine qs_6_2 C pi_240 tw_361 dX7_play_80 ?_
          refine q_aload_n C 2 dX7_play_83 rfl rfl ?_
          refine q_iload C 1 dX7_play_84 rfl ?_
          refine qs_6_3 C pi_240 tw_363 dX7_play_86 ?_
          refine q_iinc C 6 [(4, .int (x4 + 1)), (6, .int q7.1), (5, .int q3.1), (0, .ref (ad (240))), (1, .ref (ad (a1))), (2, .int x2), (3, .int x3)] dX7_play_89 rfl rfl (by decide) rfl ?_
          refine q_goto (tgt := 8) C dX7_play_92 (by decide) ?_
          refine q_sub [3, 4, 5, 6, 0] rfl ?_
          exact ih _ _ _ _ hF
        · replace hF := ife c9 hF
          refine q_iload C 0 dX7_play_68 rfl ?_
          refine q_aload_n C 2 dX7_play_70 rfl rfl ?_
          refine qg_6_2 C pi_240 tw_361 dX7_play_71 ?_
          refine q_icmp_ge (tgt := 89) C dX7_play_74 (by decide) (fun c10 => ?_) (fun c10 => ?_)
          · replace hF := ift c10 hF
            refine q_iinc C 6 [(4, .int (x4 + 1)), (6, .int q7.1), (5, .int q3.1), (0, .ref (ad (240))), (1, .ref (ad (a1))), (2, .int x2), (3, .int x3)] dX7_play_89 rfl rfl (by decide) rfl ?_
            refine q_goto (tgt := 8) C dX7_play_92 (by decide) ?_
            refine q_sub [3, 4, 5, 6, 0] rfl ?_
            exact ih _ _ _ _ hF
          · replace hF := ife c10 hF
            refine q_aload_n C 2 dX7_play_77 rfl rfl ?_
            refine q_iload C 0 dX7_play_78 rfl ?_
            refine qs_6_2 C pi_240 tw_361 dX7_play_80 ?_
            refine q_aload_n C 2 dX7_play_83 rfl rfl ?_
            refine q_iload C 1 dX7_play_84 rfl ?_
            refine qs_6_3 C pi_240 tw_363 dX7_play_86 ?_
            refine q_iinc C 6 [(4, .int (x4 + 1)), (6, .int q7.1), (5, .int q3.1), (0, .ref (ad (240))), (1, .ref (ad (a1))), (2, .int x2), (3, .int x3)] dX7_play_89 rfl rfl (by decide) rfl ?_
            refine q_goto (tgt := 8) C dX7_play_92 (by decide) ?_
            refine q_sub [3, 4, 5, 6, 0] rfl ?_
            exact ih _ _ _ _ hF
      · replace hF := ift c5 hF
        refine q_goto (tgt := 89) C dX7_play_39 (by decide) ?_
        refine q_iinc C 5 [(4, .int (x4 + 1)), (5, .int q3.1), (0, .ref (ad (240))), (1, .ref (ad (a1))), (2, .int x2), (3, .int x3)] dX7_play_89 rfl rfl (by decide) rfl ?_
        refine q_goto (tgt := 8) C dX7_play_92 (by decide) ?_
        refine q_sub [2, 3, 4, 5, 0] rfl ?_
        exact ih _ _ _ _ hF
set_option maxHeartbeats 4000000 in
set_option maxRecDepth 100000 in
theorem c_X7_play (l : Launch) (D : va_G) (ad : Nat → Nat) (ca : Nat → ClassId) (kz : Nat → Nat) (hJ : pInj ad) (n : Nat) {a1 : Nat} (ha1 : pis a1 9) (a2 : Int32) (a3 : Int32) (σ : PS) (out : PS) (hF : F_X7_play n a1 a2 a3 σ = some out) : Met l yX7_play (Cond.code yX7_play cX7_play 7 (Option.none : Option Jvm.ClassFile.FieldType) :: gw_tbl) { frames := 9, cells := 0, slots := 0, locals := 249 } (va_Pc [.ref (ad (240)), .ref (ad (a1)), .int a2, .int a3] (pU D ad ca kz σ)) (pQv D ad ca out) 0 0 (pAD ad) := by
  refine q_entry (own := "AskedCamp$Siege") hJ (by decide) rfl (Nat.le_of_ble_eq_true rfl) (fun p e s m below meth c C hr hlk => ?_)
  refine q_lv [(0, .ref (ad (240))), (1, .ref (ad (a1))), (2, .int a2), (3, .int a3)] rfl ?_
  rw [F_X7_play] at hF
  refine q_aload_n C 0 dX7_play_0 rfl rfl ?_
  refine q_iconst (v := -1) C dX7_play_1 (by decide) ?_
  refine qs_6_2 C pi_240 tw_361 dX7_play_2 ?_
  refine q_iconst (v := 0) C dX7_play_5 (by decide) ?_
  refine q_istore C [(4, .int 0), (0, .ref (ad (240))), (1, .ref (ad (a1))), (2, .int a2), (3, .int a3)] dX7_play_6 (by decide) rfl ?_
  obtain ⟨o11, h12, hF⟩ := bnd hF
  try dsimp only at hF
  refine q_sub [1, 2, 3, 4, 0] rfl ?_
  refine l_X7_play_8 C ⟨Nat.le_of_ble_eq_true rfl, Nat.le_of_ble_eq_true rfl⟩ ha1 o11 ?_ n _ _ _ _ h12
  exact q_vret C hr hlk dX7_play_95 hF
-- X11_game
def F_X11_game (n : Nat) (a1 : Int32) (a2 : Int32) (a3 : Int32) (σ : PS) : Option (Int32 × PS) := (F_X10_hasTent n 25 a1 σ).bind (fun q1 => (if q1.1 = 0 then some ((-1 : Int32), q1.2) else (if a2 < (1 : Int32) then some ((-1 : Int32), q1.2) else (if (4 : Int32) < a2 then some ((-1 : Int32), q1.2) else (if a3 < 0 then some ((-1 : Int32), q1.2) else (if a3 ≤ (1 : Int32) then (F_X7_play n 25 a1 a2 q1.2).bind (fun q8 => (if a3 = 0 then some ((q8.1 240 2), q8) else some ((q8.1 240 3), q8))) else some ((-1 : Int32), q1.2)))))))
theorem gm_X11_game : gM "AskedCamp" yX11_game (Cond.code yX11_game cX11_game 4 (Option.some Jvm.ClassFile.FieldType.int)) 3 := ⟨by decide +kernel, tw_959, tw_960, tw_1, tw_961⟩
set_option maxHeartbeats 4000000 in
set_option maxRecDepth 100000 in
theorem c_X11_game (l : Launch) (D : va_G) (ad : Nat → Nat) (ca : Nat → ClassId) (kz : Nat → Nat) (hJ : pInj ad) (n : Nat) (a1 : Int32) (a2 : Int32) (a3 : Int32) (σ : PS) (out : Int32 × PS) (hF : F_X11_game n a1 a2 a3 σ = some out) : Met l yX11_game (Cond.code yX11_game cX11_game 4 (Option.some Jvm.ClassFile.FieldType.int) :: gw_tbl) { frames := 10, cells := 0, slots := 0, locals := 275 } (va_Pc [.ref (ad (0)), .int a1, .int a2, .int a3] (pU D ad ca kz σ)) (pQi D ad ca out) 0 0 (pAD ad) := by
  refine q_entry (own := "AskedCamp") hJ (by decide) rfl (Nat.le_of_ble_eq_true rfl) (fun p e s m below meth c C hr hlk => ?_)
  refine q_lv [(0, .ref (ad (0))), (1, .int a1), (2, .int a2), (3, .int a3)] rfl ?_
  rw [F_X11_game] at hF
  refine q_aload_n C 0 dX11_game_0 rfl rfl ?_
  refine qg_10_4 C pi_0 tw_384 dX11_game_1 ?_
  refine qg_5_1 C pi_18 tw_232 dX11_game_4 ?_
  refine q_iload_n C 1 dX11_game_7 rfl rfl ?_
  obtain ⟨q1, h2, hF⟩ := bnd hF
  try dsimp only at hF
  refine q_callVi C [.int a1] (c_X10_hasTent l D ad ca kz C.2.2.2.2.2.2.1 _ pi_25 _ _ _ h2) tw_663 gm_X10_hasTent pi_25.1 (pe_9 pi_25.2) rfl ⟨rfl, rfl⟩ ⟨Nat.le_of_ble_eq_true rfl, Nat.le_of_ble_eq_true rfl⟩ rfl (Nat.le_of_ble_eq_true rfl) dX11_game_8 q00 ?_
  refine q_if_eq (tgt := 33) C dX11_game_11 (by decide) (fun c3 => ?_) (fun c3 => ?_)
  · replace hF := ift c3 hF
    refine q_iconst (v := -1) C dX11_game_33 (by decide) ?_
    exact q_iret C hr hlk dX11_game_34 hF
  · replace hF := ife c3 hF
    refine q_iload_n C 2 dX11_game_14 rfl rfl ?_
    refine q_iconst (v := 1) C dX11_game_15 (by decide) ?_
    refine q_icmp_lt (tgt := 33) C dX11_game_16 (by decide) (fun c4 => ?_) (fun c4 => ?_)
    · replace hF := ift c4 hF
      refine q_iconst (v := -1) C dX11_game_33 (by decide) ?_
      exact q_iret C hr hlk dX11_game_34 hF
    · replace hF := ife c4 hF
      refine q_iload_n C 2 dX11_game_19 rfl rfl ?_
      refine q_iconst (v := 4) C dX11_game_20 (by decide) ?_
      refine q_icmp_gt (tgt := 33) C dX11_game_21 (by decide) (fun c5 => ?_) (fun c5 => ?_)
      · replace hF := ift c5 hF
        refine q_iconst (v := -1) C dX11_game_33 (by decide) ?_
        exact q_iret C hr hlk dX11_game_34 hF
      · replace hF := ife c5 hF
        refine q_iload_n C 3 dX11_game_24 rfl rfl ?_
        refine q_if_lt (tgt := 33) C dX11_game_25 (by decide) (fun c6 => ?_) (fun c6 => ?_)
        · replace hF := ift c6 hF
          refine q_iconst (v := -1) C dX11_game_33 (by decide) ?_
          exact q_iret C hr hlk dX11_game_34 hF
        · replace hF := ife c6 hF
          refine q_iload_n C 3 dX11_game_28 rfl rfl ?_
          refine q_iconst (v := 1) C dX11_game_29 (by decide) ?_
          refine q_icmp_le (tgt := 35) C dX11_game_30 (by decide) (fun c7 => ?_) (fun c7 => ?_)
          · replace hF := ift c7 hF
            refine q_aload_n C 0 dX11_game_35 rfl rfl ?_
            refine qg_10_9 C pi_0 tw_389 dX11_game_36 ?_
            refine q_aload_n C 0 dX11_game_39 rfl rfl ?_
            refine qg_10_4 C pi_0 tw_384 dX11_game_40 ?_
            refine qg_5_1 C pi_18 tw_232 dX11_game_43 ?_
            refine q_iload_n C 1 dX11_game_46 rfl rfl ?_
            refine q_iload_n C 2 dX11_game_47 rfl rfl ?_
            obtain ⟨q8, h9, hF⟩ := bnd hF
            try dsimp only at hF
            refine q_callVv C [.ref (ad (25)), .int a1, .int a2] (c_X7_play l D ad ca kz C.2.2.2.2.2.2.1 _ pi_25 _ _ _ _ h9) tw_962 gm_X7_play pi_240.1 (pe_6 pi_240.2) rfl ⟨rfl, rfl⟩ ⟨Nat.le_of_ble_eq_true rfl, Nat.le_of_ble_eq_true rfl⟩ rfl (Nat.le_of_ble_eq_true rfl) dX11_game_48 q00 ?_
            refine q_iload_n C 3 dX11_game_51 rfl rfl ?_
            refine q_if_ne (tgt := 65) C dX11_game_52 (by decide) (fun c10 => ?_) (fun c10 => ?_)
            · replace hF := ife c10 hF
              refine q_aload_n C 0 dX11_game_65 rfl rfl ?_
              refine qg_10_9 C pi_0 tw_389 dX11_game_66 ?_
              refine qg_6_3 C pi_240 tw_364 dX11_game_69 ?_
              exact q_iret C hr hlk dX11_game_72 hF
            · replace hF := ift c10 hF
              refine q_aload_n C 0 dX11_game_55 rfl rfl ?_
              refine qg_10_9 C pi_0 tw_389 dX11_game_56 ?_
              refine qg_6_2 C pi_240 tw_362 dX11_game_59 ?_
              refine q_goto (tgt := 72) C dX11_game_62 (by decide) ?_
              exact q_iret C hr hlk dX11_game_72 hF
          · replace hF := ife c7 hF
            refine q_iconst (v := -1) C dX11_game_33 (by decide) ?_
            exact q_iret C hr hlk dX11_game_34 hF
-- X2_findHidingCell
def L_X2_findHidingCell_13 (n : Nat) (a1 : Nat) : Nat → Int32 → Int32 → Int32 → PS → Option (PS)
  | 0, _, _, _, _ => none
  | k + 1, x2, x3, x4, σ => (if (σ.1 (a1 + 7) 1) ≤ x4 then some σ else (F_X10_copyFrom n 217 (a1 + 7) σ).bind (fun q2 => (if 0 ≤ x2 ∧ x2.toNatClampNeg < 6 then (F_X4_stride n 217 ((psI q2 218 x2.toNatClampNeg x4).1 a1 5) x3 (psI q2 218 x2.toNatClampNeg x4)).bind (fun q5 => (if (q5.1 216 3) = (-1 : Int32) then L_X2_findHidingCell_13 n a1 k x2 x3 (x4 + 1) (psI (psI q5 216 3 x4) 216 4 ((q5.1 220 x2.toNatClampNeg) - (q5.1 (a1 + 7 + 3) x2.toNatClampNeg))) else (if (q5.1 216 4) ≤ ((q5.1 220 x2.toNatClampNeg) - (q5.1 (a1 + 7 + 3) x2.toNatClampNeg)) then L_X2_findHidingCell_13 n a1 k x2 x3 (x4 + 1) q5 else L_X2_findHidingCell_13 n a1 k x2 x3 (x4 + 1) (psI (psI q5 216 3 x4) 216 4 ((q5.1 220 x2.toNatClampNeg) - (q5.1 (a1 + 7 + 3) x2.toNatClampNeg)))))) else none)))
def F_X2_findHidingCell (n : Nat) (a1 : Nat) (a2 : Int32) (a3 : Int32) (σ : PS) : Option (PS) := (L_X2_findHidingCell_13 n a1 n a2 a3 (0 : Int32) (psI (psI σ 216 3 (-1 : Int32)) 216 4 (0 : Int32))).bind (fun o9 => some o9)
theorem gm_X2_findHidingCell : gM "AskedCamp$Foresight" yX2_findHidingCell (Cond.code yX2_findHidingCell cX2_findHidingCell 6 (Option.none : Option Jvm.ClassFile.FieldType)) 3 := ⟨by decide +kernel, tw_874, tw_875, tw_9, tw_876⟩
set_option maxHeartbeats 4000000 in
set_option maxRecDepth 100000 in
theorem l_X2_findHidingCell_13 {p : Program} {l : Launch} {e : Env} {R : Room} {s : State} {m : MethodId} {args : Array Value} {below : List Frame} {meth : Method} {c : Code} {D : va_G} {ad : Nat → Nat} {ca : Nat → ClassId} {kz : Nat → Nat} {Q : State → Prop} (C : pC p s m args c cX2_findHidingCell "AskedCamp$Foresight" 6 D ad ca kz) (hR : 6 ≤ R.frames ∧ 154 ≤ R.locals) {n : Nat} {a1 : Nat} (ha1 : pis a1 5) (o : PS) (hx0 : PW p l e R s m args below meth c 6 D ad ca 0 0 Q (o) 119 [] []) : ∀ (k : Nat) (x2 : Int32) (x3 : Int32) (x4 : Int32) (σ : PS), L_X2_findHidingCell_13 n a1 k x2 x3 x4 σ = some o → PW p l e R s m args below meth c 6 D ad ca 0 0 Q σ 13 [(0, .ref (ad (216))), (1, .ref (ad (a1))), (2, .int x2), (3, .int x3), (4, .int x4)] [] := by
  intro k
  induction k with
  | zero => intro x2 x3 x4 σ hF; exact nomatch (show (none : Option (PS)) = some o from hF)
  | succ k ih =>
    intro x2 x3 x4 σ hF
    rw [L_X2_findHidingCell_13] at hF
    refine q_iload C 4 dX2_findHidingCell_13 rfl ?_
    refine q_aload_n C 1 dX2_findHidingCell_15 rfl rfl ?_
    refine qg_5_1 C ha1 tw_231 dX2_findHidingCell_16 ?_
    refine qg_9_1 C (pkS ha1).2.1 tw_162 dX2_findHidingCell_19 ?_
    refine q_icmp_ge (tgt := 119) C dX2_findHidingCell_22 (by decide) (fun c1 => ?_) (fun c1 => ?_)
    · replace hF := ift c1 hF
      cases hF
      refine q_sub [] rfl ?_
      exact hx0
    · replace hF := ife c1 hF
      refine q_aload_n C 0 dX2_findHidingCell_25 rfl rfl ?_
      refine qg_2_0 C pi_216 tw_293 dX2_findHidingCell_26 ?_
      refine q_aload_n C 1 dX2_findHidingCell_29 rfl rfl ?_
      refine qg_5_1 C ha1 tw_231 dX2_findHidingCell_30 ?_
      obtain ⟨q2, h3, hF⟩ := bnd hF
      try dsimp only at hF
      refine q_callVv C [.ref (ad (a1 + 7))] (c_X10_copyFrom l D ad ca kz C.2.2.2.2.2.2.1 _ pi_217 (pkS ha1).2.1 _ _ h3) tw_843 gm_X10_copyFrom pi_217.1 (pe_9 pi_217.2) rfl ⟨rfl, rfl⟩ ⟨Nat.le_trans (Nat.le_of_ble_eq_true rfl) hR.1, Nat.le_trans (Nat.le_of_ble_eq_true rfl) hR.2⟩ rfl (Nat.le_of_ble_eq_true rfl) dX2_findHidingCell_33 q00 ?_
      refine q_aload_n C 0 dX2_findHidingCell_36 rfl rfl ?_
      refine qg_2_0 C pi_216 tw_293 dX2_findHidingCell_37 ?_
      refine qg_9_7 C pi_217 tw_189 dX2_findHidingCell_40 ?_
      refine q_iload_n C 2 dX2_findHidingCell_43 rfl rfl ?_
      refine q_iload C 4 dX2_findHidingCell_44 rfl ?_
      obtain ⟨g4, hF⟩ := grd hF
      refine q_iast C pa_218 (vp_of g4) dX2_findHidingCell_46 ?_
      refine q_aload_n C 0 dX2_findHidingCell_47 rfl rfl ?_
      refine qg_2_1 C pi_216 tw_295 dX2_findHidingCell_48 ?_
      refine q_aload_n C 0 dX2_findHidingCell_51 rfl rfl ?_
      refine qg_2_0 C pi_216 tw_293 dX2_findHidingCell_52 ?_
      refine q_aload_n C 1 dX2_findHidingCell_55 rfl rfl ?_
      refine qg_5_5 C ha1 tw_241 dX2_findHidingCell_56 ?_
      refine q_iload_n C 3 dX2_findHidingCell_59 rfl rfl ?_
      obtain ⟨q5, h6, hF⟩ := bnd hF
      try dsimp only at hF
      refine q_callVv C [.ref (ad (217)), .int ((psI q2 218 x2.toNatClampNeg x4).1 a1 5), .int x3] (c_X4_stride l D ad ca kz C.2.2.2.2.2.2.1 _ pi_217 _ _ _ _ h6) tw_844 gm_X4_stride pi_7.1 (pe_3 pi_7.2) rfl ⟨rfl, rfl⟩ ⟨Nat.le_trans (Nat.le_of_ble_eq_true rfl) hR.1, Nat.le_trans (Nat.le_of_ble_eq_true rfl) hR.2⟩ rfl (Nat.le_of_ble_eq_true rfl) dX2_findHidingCell_60 q00 ?_
      refine q_aload_n C 0 dX2_findHidingCell_63 rfl rfl ?_
      refine qg_2_0 C pi_216 tw_293 dX2_findHidingCell_64 ?_
      refine qg_9_9 C pi_217 tw_194 dX2_findHidingCell_67 ?_
      refine q_iload_n C 2 dX2_findHidingCell_70 rfl rfl ?_
      refine q_iald C pa_220 (vp_of g4) dX2_findHidingCell_71 ?_
      refine q_aload_n C 1 dX2_findHidingCell_72 rfl rfl ?_
      refine qg_5_1 C ha1 tw_231 dX2_findHidingCell_73 ?_
      refine qg_9_9 C (pkS ha1).2.1 tw_194 dX2_findHidingCell_76 ?_
      refine q_iload_n C 2 dX2_findHidingCell_79 rfl rfl ?_
      refine q_iald C (pkW (pkS ha1).2.1).2.2.1 (vp_of g4) dX2_findHidingCell_80 ?_
      refine q_isub C dX2_findHidingCell_81 ?_
      refine q_istore C [(5, .int ((q5.1 220 x2.toNatClampNeg) - (q5.1 (a1 + 7 + 3) x2.toNatClampNeg))), (0, .ref (ad (216))), (1, .ref (ad (a1))), (2, .int x2), (3, .int x3), (4, .int x4)] dX2_findHidingCell_82 (by decide) rfl ?_
      refine q_aload_n C 1 dX2_findHidingCell_84 rfl rfl ?_
      refine qg_2_3 C pi_216 tw_297 dX2_findHidingCell_85 ?_
      refine q_iconst (v := -1) C dX2_findHidingCell_88 (by decide) ?_
      refine q_icmp_eq (tgt := 101) C dX2_findHidingCell_89 (by decide) (fun c7 => ?_) (fun c7 => ?_)
      · replace hF := ift c7 hF
        refine q_aload_n C 1 dX2_findHidingCell_101 rfl rfl ?_
        refine q_iload C 5 dX2_findHidingCell_102 rfl ?_
        refine qs_2_3 C pi_216 tw_297 dX2_findHidingCell_104 ?_
        refine q_aload_n C 1 dX2_findHidingCell_107 rfl rfl ?_
        refine q_iload C 0 dX2_findHidingCell_108 rfl ?_
        refine qs_2_4 C pi_216 tw_299 dX2_findHidingCell_110 ?_
        refine q_iinc C 5 [(4, .int (x4 + 1)), (5, .int ((q5.1 220 x2.toNatClampNeg) - (q5.1 (a1 + 7 + 3) x2.toNatClampNeg))), (0, .ref (ad (216))), (1, .ref (ad (a1))), (2, .int x2), (3, .int x3)] dX2_findHidingCell_113 rfl rfl (by decide) rfl ?_
        refine q_goto (tgt := 13) C dX2_findHidingCell_116 (by decide) ?_
        refine q_sub [2, 3, 4, 5, 0] rfl ?_
        exact ih _ _ _ _ hF
      · replace hF := ife c7 hF
        refine q_iload C 0 dX2_findHidingCell_92 rfl ?_
        refine q_aload_n C 1 dX2_findHidingCell_94 rfl rfl ?_
        refine qg_2_4 C pi_216 tw_299 dX2_findHidingCell_95 ?_
        refine q_icmp_ge (tgt := 113) C dX2_findHidingCell_98 (by decide) (fun c8 => ?_) (fun c8 => ?_)
        · replace hF := ift c8 hF
          refine q_iinc C 5 [(4, .int (x4 + 1)), (5, .int ((q5.1 220 x2.toNatClampNeg) - (q5.1 (a1 + 7 + 3) x2.toNatClampNeg))), (0, .ref (ad (216))), (1, .ref (ad (a1))), (2, .int x2), (3, .int x3)] dX2_findHidingCell_113 rfl rfl (by decide) rfl ?_
          refine q_goto (tgt := 13) C dX2_findHidingCell_116 (by decide) ?_
          refine q_sub [2, 3, 4, 5, 0] rfl ?_
          exact ih _ _ _ _ hF
        · replace hF := ife c8 hF
          refine q_aload_n C 1 dX2_findHidingCell_101 rfl rfl ?_
          refine q_iload C 5 dX2_findHidingCell_102 rfl ?_
          refine qs_2_3 C pi_216 tw_297 dX2_findHidingCell_104 ?_
          refine q_aload_n C 1 dX2_findHidingCell_107 rfl rfl ?_
          refine q_iload C 0 dX2_findHidingCell_108 rfl ?_
          refine qs_2_4 C pi_216 tw_299 dX2_findHidingCell_110 ?_
          refine q_iinc C 5 [(4, .int (x4 + 1)), (5, .int ((q5.1 220 x2.toNatClampNeg) - (q5.1 (a1 + 7 + 3) x2.toNatClampNeg))), (0, .ref (ad (216))), (1, .ref (ad (a1))), (2, .int x2), (3, .int x3)] dX2_findHidingCell_113 rfl rfl (by decide) rfl ?_
          refine q_goto (tgt := 13) C dX2_findHidingCell_116 (by decide) ?_
          refine q_sub [2, 3, 4, 5, 0] rfl ?_
          exact ih _ _ _ _ hF
set_option maxHeartbeats 4000000 in
set_option maxRecDepth 100000 in
theorem c_X2_findHidingCell (l : Launch) (D : va_G) (ad : Nat → Nat) (ca : Nat → ClassId) (kz : Nat → Nat) (hJ : pInj ad) (n : Nat) {a1 : Nat} (ha1 : pis a1 5) (a2 : Int32) (a3 : Int32) (σ : PS) (out : PS) (hF : F_X2_findHidingCell n a1 a2 a3 σ = some out) : Met l yX2_findHidingCell (Cond.code yX2_findHidingCell cX2_findHidingCell 6 (Option.none : Option Jvm.ClassFile.FieldType) :: gw_tbl) { frames := 6, cells := 0, slots := 0, locals := 154 } (va_Pc [.ref (ad (216)), .ref (ad (a1)), .int a2, .int a3] (pU D ad ca kz σ)) (pQv D ad ca out) 0 0 (pAD ad) := by
  refine q_entry (own := "AskedCamp$Foresight") hJ (by decide) rfl (Nat.le_of_ble_eq_true rfl) (fun p e s m below meth c C hr hlk => ?_)
  refine q_lv [(0, .ref (ad (216))), (1, .ref (ad (a1))), (2, .int a2), (3, .int a3)] rfl ?_
  rw [F_X2_findHidingCell] at hF
  refine q_aload_n C 0 dX2_findHidingCell_0 rfl rfl ?_
  refine q_iconst (v := -1) C dX2_findHidingCell_1 (by decide) ?_
  refine qs_2_3 C pi_216 tw_297 dX2_findHidingCell_2 ?_
  refine q_aload_n C 0 dX2_findHidingCell_5 rfl rfl ?_
  refine q_iconst (v := 0) C dX2_findHidingCell_6 (by decide) ?_
  refine qs_2_4 C pi_216 tw_299 dX2_findHidingCell_7 ?_
  refine q_iconst (v := 0) C dX2_findHidingCell_10 (by decide) ?_
  refine q_istore C [(4, .int 0), (0, .ref (ad (216))), (1, .ref (ad (a1))), (2, .int a2), (3, .int a3)] dX2_findHidingCell_11 (by decide) rfl ?_
  obtain ⟨o9, h10, hF⟩ := bnd hF
  try dsimp only at hF
  refine q_sub [1, 2, 3, 4, 0] rfl ?_
  refine l_X2_findHidingCell_13 C ⟨Nat.le_of_ble_eq_true rfl, Nat.le_of_ble_eq_true rfl⟩ ha1 o9 ?_ n _ _ _ _ h10
  exact q_vret C hr hlk dX2_findHidingCell_119 hF
-- X11_hide
def F_X11_hide (n : Nat) (a1 : Int32) (a2 : Int32) (a3 : Int32) (σ : PS) : Option (Int32 × PS) := (F_X10_hasTent n 25 a1 σ).bind (fun q1 => (if q1.1 = 0 then some ((-1 : Int32), q1.2) else (if a2 < (1 : Int32) then some ((-1 : Int32), q1.2) else (if (30 : Int32) < a2 then some ((-1 : Int32), q1.2) else (if a3 < 0 then some ((-1 : Int32), q1.2) else (if a3 ≤ (1 : Int32) then (F_X2_findHidingCell n 18 a1 a2 q1.2).bind (fun q8 => (if a3 = 0 then some ((q8.1 216 3), q8) else some ((q8.1 216 4), q8))) else some ((-1 : Int32), q1.2)))))))
theorem gm_X11_hide : gM "AskedCamp" yX11_hide (Cond.code yX11_hide cX11_hide 4 (Option.some Jvm.ClassFile.FieldType.int)) 3 := ⟨by decide +kernel, tw_870, tw_871, tw_1, tw_872⟩
set_option maxHeartbeats 4000000 in
set_option maxRecDepth 100000 in
theorem c_X11_hide (l : Launch) (D : va_G) (ad : Nat → Nat) (ca : Nat → ClassId) (kz : Nat → Nat) (hJ : pInj ad) (n : Nat) (a1 : Int32) (a2 : Int32) (a3 : Int32) (σ : PS) (out : Int32 × PS) (hF : F_X11_hide n a1 a2 a3 σ = some out) : Met l yX11_hide (Cond.code yX11_hide cX11_hide 4 (Option.some Jvm.ClassFile.FieldType.int) :: gw_tbl) { frames := 7, cells := 0, slots := 0, locals := 179 } (va_Pc [.ref (ad (0)), .int a1, .int a2, .int a3] (pU D ad ca kz σ)) (pQi D ad ca out) 0 0 (pAD ad) := by
  refine q_entry (own := "AskedCamp") hJ (by decide) rfl (Nat.le_of_ble_eq_true rfl) (fun p e s m below meth c C hr hlk => ?_)
  refine q_lv [(0, .ref (ad (0))), (1, .int a1), (2, .int a2), (3, .int a3)] rfl ?_
  rw [F_X11_hide] at hF
  refine q_aload_n C 0 dX11_hide_0 rfl rfl ?_
  refine qg_10_4 C pi_0 tw_384 dX11_hide_1 ?_
  refine qg_5_1 C pi_18 tw_232 dX11_hide_4 ?_
  refine q_iload_n C 1 dX11_hide_7 rfl rfl ?_
  obtain ⟨q1, h2, hF⟩ := bnd hF
  try dsimp only at hF
  refine q_callVi C [.int a1] (c_X10_hasTent l D ad ca kz C.2.2.2.2.2.2.1 _ pi_25 _ _ _ h2) tw_663 gm_X10_hasTent pi_25.1 (pe_9 pi_25.2) rfl ⟨rfl, rfl⟩ ⟨Nat.le_of_ble_eq_true rfl, Nat.le_of_ble_eq_true rfl⟩ rfl (Nat.le_of_ble_eq_true rfl) dX11_hide_8 q00 ?_
  refine q_if_eq (tgt := 34) C dX11_hide_11 (by decide) (fun c3 => ?_) (fun c3 => ?_)
  · replace hF := ift c3 hF
    refine q_iconst (v := -1) C dX11_hide_34 (by decide) ?_
    exact q_iret C hr hlk dX11_hide_35 hF
  · replace hF := ife c3 hF
    refine q_iload_n C 2 dX11_hide_14 rfl rfl ?_
    refine q_iconst (v := 1) C dX11_hide_15 (by decide) ?_
    refine q_icmp_lt (tgt := 34) C dX11_hide_16 (by decide) (fun c4 => ?_) (fun c4 => ?_)
    · replace hF := ift c4 hF
      refine q_iconst (v := -1) C dX11_hide_34 (by decide) ?_
      exact q_iret C hr hlk dX11_hide_35 hF
    · replace hF := ife c4 hF
      refine q_iload_n C 2 dX11_hide_19 rfl rfl ?_
      refine q_bipush (v := 30) C dX11_hide_20 (by decide) ?_
      refine q_icmp_gt (tgt := 34) C dX11_hide_22 (by decide) (fun c5 => ?_) (fun c5 => ?_)
      · replace hF := ift c5 hF
        refine q_iconst (v := -1) C dX11_hide_34 (by decide) ?_
        exact q_iret C hr hlk dX11_hide_35 hF
      · replace hF := ife c5 hF
        refine q_iload_n C 3 dX11_hide_25 rfl rfl ?_
        refine q_if_lt (tgt := 34) C dX11_hide_26 (by decide) (fun c6 => ?_) (fun c6 => ?_)
        · replace hF := ift c6 hF
          refine q_iconst (v := -1) C dX11_hide_34 (by decide) ?_
          exact q_iret C hr hlk dX11_hide_35 hF
        · replace hF := ife c6 hF
          refine q_iload_n C 3 dX11_hide_29 rfl rfl ?_
          refine q_iconst (v := 1) C dX11_hide_30 (by decide) ?_
          refine q_icmp_le (tgt := 36) C dX11_hide_31 (by decide) (fun c7 => ?_) (fun c7 => ?_)
          · replace hF := ift c7 hF
            refine q_aload_n C 0 dX11_hide_36 rfl rfl ?_
            refine qg_10_7 C pi_0 tw_387 dX11_hide_37 ?_
            refine q_aload_n C 0 dX11_hide_40 rfl rfl ?_
            refine qg_10_4 C pi_0 tw_384 dX11_hide_41 ?_
            refine q_iload_n C 1 dX11_hide_44 rfl rfl ?_
            refine q_iload_n C 2 dX11_hide_45 rfl rfl ?_
            obtain ⟨q8, h9, hF⟩ := bnd hF
            try dsimp only at hF
            refine q_callVv C [.ref (ad (18)), .int a1, .int a2] (c_X2_findHidingCell l D ad ca kz C.2.2.2.2.2.2.1 _ pi_18 _ _ _ _ h9) tw_873 gm_X2_findHidingCell pi_216.1 (pe_2 pi_216.2) rfl ⟨rfl, rfl⟩ ⟨Nat.le_of_ble_eq_true rfl, Nat.le_of_ble_eq_true rfl⟩ rfl (Nat.le_of_ble_eq_true rfl) dX11_hide_46 q00 ?_
            refine q_iload_n C 3 dX11_hide_49 rfl rfl ?_
            refine q_if_ne (tgt := 63) C dX11_hide_50 (by decide) (fun c10 => ?_) (fun c10 => ?_)
            · replace hF := ife c10 hF
              refine q_aload_n C 0 dX11_hide_63 rfl rfl ?_
              refine qg_10_7 C pi_0 tw_387 dX11_hide_64 ?_
              refine qg_2_4 C pi_216 tw_300 dX11_hide_67 ?_
              exact q_iret C hr hlk dX11_hide_70 hF
            · replace hF := ift c10 hF
              refine q_aload_n C 0 dX11_hide_53 rfl rfl ?_
              refine qg_10_7 C pi_0 tw_387 dX11_hide_54 ?_
              refine qg_2_3 C pi_216 tw_298 dX11_hide_57 ?_
              refine q_goto (tgt := 70) C dX11_hide_60 (by decide) ?_
              exact q_iret C hr hlk dX11_hide_70 hF
          · replace hF := ife c7 hF
            refine q_iconst (v := -1) C dX11_hide_34 (by decide) ?_
            exact q_iret C hr hlk dX11_hide_35 hF
-- X11_image
def F_X11_image (n : Nat) (a1 : Int32) (σ : PS) : Option (Int32 × PS) := (if a1 < 0 then some ((-1 : Int32), σ) else (if a1 < (4 : Int32) then (if 0 ≤ a1 ∧ a1.toNatClampNeg < 4 then (F_X6_copyFrom n (34 + 15 * a1.toNatClampNeg) 18 σ).bind (fun q4 => some (((psI q4 (34 + 15 * a1.toNatClampNeg) 7 (1 : Int32)).1 25 3), psI q4 (34 + 15 * a1.toNatClampNeg) 7 (1 : Int32))) else none) else some ((-1 : Int32), σ)))
theorem gm_X11_image : gM "AskedCamp" yX11_image (Cond.code yX11_image cX11_image 2 (Option.some Jvm.ClassFile.FieldType.int)) 1 := ⟨by decide +kernel, tw_1035, tw_1036, tw_1, tw_1037⟩
set_option maxHeartbeats 4000000 in
set_option maxRecDepth 100000 in
theorem c_X11_image (l : Launch) (D : va_G) (ad : Nat → Nat) (ca : Nat → ClassId) (kz : Nat → Nat) (hJ : pInj ad) (n : Nat) (a1 : Int32) (σ : PS) (out : Int32 × PS) (hF : F_X11_image n a1 σ = some out) : Met l yX11_image (Cond.code yX11_image cX11_image 2 (Option.some Jvm.ClassFile.FieldType.int) :: gw_tbl) { frames := 3, cells := 0, slots := 0, locals := 124 } (va_Pc [.ref (ad (0)), .int a1] (pU D ad ca kz σ)) (pQi D ad ca out) 0 0 (pAD ad) := by
  refine q_entry (own := "AskedCamp") hJ (by decide) rfl (Nat.le_of_ble_eq_true rfl) (fun p e s m below meth c C hr hlk => ?_)
  refine q_lv [(0, .ref (ad (0))), (1, .int a1)] rfl ?_
  rw [F_X11_image] at hF
  refine q_iload_n C 1 dX11_image_0 rfl rfl ?_
  refine q_if_lt (tgt := 9) C dX11_image_1 (by decide) (fun c1 => ?_) (fun c1 => ?_)
  · replace hF := ift c1 hF
    refine q_iconst (v := -1) C dX11_image_9 (by decide) ?_
    exact q_iret C hr hlk dX11_image_10 hF
  · replace hF := ife c1 hF
    refine q_iload_n C 1 dX11_image_4 rfl rfl ?_
    refine q_iconst (v := 4) C dX11_image_5 (by decide) ?_
    refine q_icmp_lt (tgt := 11) C dX11_image_6 (by decide) (fun c2 => ?_) (fun c2 => ?_)
    · replace hF := ift c2 hF
      refine q_aload_n C 0 dX11_image_11 rfl rfl ?_
      refine qg_10_5 C pi_0 tw_385 dX11_image_12 ?_
      refine q_iload_n C 1 dX11_image_15 rfl rfl ?_
      obtain ⟨g3, hF⟩ := grd hF
      refine q_aald25 C pa_33 (vp_of g3) dX11_image_16 ?_
      refine q_aload_n C 0 dX11_image_17 rfl rfl ?_
      refine qg_10_4 C pi_0 tw_384 dX11_image_18 ?_
      obtain ⟨q4, h5, hF⟩ := bnd hF
      try dsimp only at hF
      refine q_callVv C [.ref (ad (18))] (c_X6_copyFrom l D ad ca kz C.2.2.2.2.2.2.1 _ (pk25 (vp_lt (vp_of g3))) pi_18 _ _ h5) tw_1038 gm_X6_copyFrom (pk25 (vp_lt (vp_of g3))).1 (pe_5 (pk25 (vp_lt (vp_of g3))).2) rfl ⟨rfl, rfl⟩ ⟨Nat.le_of_ble_eq_true rfl, Nat.le_of_ble_eq_true rfl⟩ rfl (Nat.le_of_ble_eq_true rfl) dX11_image_21 q00 ?_
      refine q_aload_n C 0 dX11_image_24 rfl rfl ?_
      refine qg_10_5 C pi_0 tw_385 dX11_image_25 ?_
      refine q_iload_n C 1 dX11_image_28 rfl rfl ?_
      refine q_aald25 C pa_33 (vp_of g3) dX11_image_29 ?_
      refine q_iconst (v := 1) C dX11_image_30 (by decide) ?_
      refine qs_5_7 C (pk25 (vp_lt (vp_of g3))) tw_246 (by decide) dX11_image_31 ?_
      refine q_aload_n C 0 dX11_image_34 rfl rfl ?_
      refine qg_10_4 C pi_0 tw_384 dX11_image_35 ?_
      refine qg_5_1 C pi_18 tw_232 dX11_image_38 ?_
      refine qg_9_3 C pi_25 tw_173 dX11_image_41 ?_
      exact q_iret C hr hlk dX11_image_44 hF
    · replace hF := ife c2 hF
      refine q_iconst (v := -1) C dX11_image_9 (by decide) ?_
      exact q_iret C hr hlk dX11_image_10 hF
-- X2_firstKnowing
def L_X2_firstKnowing_26 (n : Nat) (a1 : Nat) : Nat → Int32 → Int32 → Int32 → PS → Option (Nat × Int32 × PS)
  | 0, _, _, _, _ => none
  | k + 1, x2, x3, x4, σ => (if (200 : Int32) < x4 then some (1, 0, σ) else (if 0 ≤ x2 ∧ x2.toNatClampNeg < 6 then (if (σ.1 221 x2.toNatClampNeg) = x3 then some (0, x4, σ) else (F_X4_stride n 217 (σ.1 a1 5) (1 : Int32) σ).bind (fun q6 => L_X2_firstKnowing_26 n a1 k x2 x3 (x4 + 1) q6)) else none))
def F_X2_firstKnowing (n : Nat) (a1 : Nat) (a2 : Int32) (σ : PS) : Option (Int32 × PS) := (F_X10_copyFrom n 217 (a1 + 7) σ).bind (fun q1 => (L_X2_firstKnowing_26 n a1 n a2 (((1 : Int32) <<< ((σ.1 (a1 + 7) 5) &&& 31)) - (1 : Int32)) (0 : Int32) q1).bind (fun o8 => (if o8.1 = 0 then some ((((o8.2.2.1 (a1 + 7) 3) + o8.2.1) - (1 : Int32)), o8.2.2) else some ((-2 : Int32), o8.2.2))))
theorem gm_X2_firstKnowing : gM "AskedCamp$Foresight" yX2_firstKnowing (Cond.code yX2_firstKnowing cX2_firstKnowing 5 (Option.some Jvm.ClassFile.FieldType.int)) 2 := ⟨by decide +kernel, tw_858, tw_859, tw_9, tw_860⟩
set_option maxHeartbeats 4000000 in
set_option maxRecDepth 100000 in
theorem l_X2_firstKnowing_26 {p : Program} {l : Launch} {e : Env} {R : Room} {s : State} {m : MethodId} {args : Array Value} {below : List Frame} {meth : Method} {c : Code} {D : va_G} {ad : Nat → Nat} {ca : Nat → ClassId} {kz : Nat → Nat} {Q : State → Prop} (C : pC p s m args c cX2_firstKnowing "AskedCamp$Foresight" 5 D ad ca kz) (hR : 6 ≤ R.frames ∧ 154 ≤ R.locals) {n : Nat} {a1 : Nat} (ha1 : pis a1 5) (o : Nat × Int32 × PS) (hx0 : o.1 = 0 → PW p l e R s m args below meth c 5 D ad ca 0 0 Q (o.2.2) 47 [(1, .ref (ad (a1))), (4, .int o.2.1)] []) (hx1 : o.1 = 1 → PW p l e R s m args below meth c 5 D ad ca 0 0 Q (o.2.2) 82 [] []) : ∀ (k : Nat) (x2 : Int32) (x3 : Int32) (x4 : Int32) (σ : PS), L_X2_firstKnowing_26 n a1 k x2 x3 x4 σ = some o → PW p l e R s m args below meth c 5 D ad ca 0 0 Q σ 26 [(0, .ref (ad (216))), (1, .ref (ad (a1))), (2, .int x2), (3, .int x3), (4, .int x4)] [] := by
  intro k
  induction k with
  | zero => intro x2 x3 x4 σ hF; exact nomatch (show (none : Option (Nat × Int32 × PS)) = some o from hF)
  | succ k ih =>
    intro x2 x3 x4 σ hF
    rw [L_X2_firstKnowing_26] at hF
    refine q_iload C 4 dX2_firstKnowing_26 rfl ?_
    refine q_sipush (v := 200) C dX2_firstKnowing_28 (by decide) ?_
    refine q_icmp_gt (tgt := 82) C dX2_firstKnowing_31 (by decide) (fun c3 => ?_) (fun c3 => ?_)
    · replace hF := ift c3 hF
      cases hF
      refine q_sub [] rfl ?_
      exact hx1 rfl
    · replace hF := ife c3 hF
      refine q_aload_n C 0 dX2_firstKnowing_34 rfl rfl ?_
      refine qg_2_0 C pi_216 tw_293 dX2_firstKnowing_35 ?_
      refine qg_9_10 C pi_217 tw_197 dX2_firstKnowing_38 ?_
      refine q_iload_n C 2 dX2_firstKnowing_41 rfl rfl ?_
      obtain ⟨g4, hF⟩ := grd hF
      refine q_iald C pa_221 (vp_of g4) dX2_firstKnowing_42 ?_
      refine q_iload_n C 3 dX2_firstKnowing_43 rfl rfl ?_
      refine q_icmp_ne (tgt := 60) C dX2_firstKnowing_44 (by decide) (fun c5 => ?_) (fun c5 => ?_)
      · replace hF := ife c5 hF
        refine q_aload_n C 0 dX2_firstKnowing_60 rfl rfl ?_
        refine qg_2_1 C pi_216 tw_295 dX2_firstKnowing_61 ?_
        refine q_aload_n C 0 dX2_firstKnowing_64 rfl rfl ?_
        refine qg_2_0 C pi_216 tw_293 dX2_firstKnowing_65 ?_
        refine q_aload_n C 1 dX2_firstKnowing_68 rfl rfl ?_
        refine qg_5_5 C ha1 tw_241 dX2_firstKnowing_69 ?_
        refine q_iconst (v := 1) C dX2_firstKnowing_72 (by decide) ?_
        obtain ⟨q6, h7, hF⟩ := bnd hF
        try dsimp only at hF
        refine q_callVv C [.ref (ad (217)), .int (σ.1 a1 5), .int 1] (c_X4_stride l D ad ca kz C.2.2.2.2.2.2.1 _ pi_217 _ _ _ _ h7) tw_844 gm_X4_stride pi_7.1 (pe_3 pi_7.2) rfl ⟨rfl, rfl⟩ ⟨Nat.le_trans (Nat.le_of_ble_eq_true rfl) hR.1, Nat.le_trans (Nat.le_of_ble_eq_true rfl) hR.2⟩ rfl (Nat.le_of_ble_eq_true rfl) dX2_firstKnowing_73 q00 ?_
        refine q_iinc C 4 [(4, .int (x4 + 1)), (0, .ref (ad (216))), (1, .ref (ad (a1))), (2, .int x2), (3, .int x3)] dX2_firstKnowing_76 rfl rfl (by decide) rfl ?_
        refine q_goto (tgt := 26) C dX2_firstKnowing_79 (by decide) ?_
        refine q_sub [1, 2, 3, 4, 0] rfl ?_
        exact ih _ _ _ _ hF
      · replace hF := ift c5 hF
        cases hF
        refine q_sub [1, 4] rfl ?_
        exact hx0 rfl
set_option maxHeartbeats 4000000 in
set_option maxRecDepth 100000 in
theorem c_X2_firstKnowing (l : Launch) (D : va_G) (ad : Nat → Nat) (ca : Nat → ClassId) (kz : Nat → Nat) (hJ : pInj ad) (n : Nat) {a1 : Nat} (ha1 : pis a1 5) (a2 : Int32) (σ : PS) (out : Int32 × PS) (hF : F_X2_firstKnowing n a1 a2 σ = some out) : Met l yX2_firstKnowing (Cond.code yX2_firstKnowing cX2_firstKnowing 5 (Option.some Jvm.ClassFile.FieldType.int) :: gw_tbl) { frames := 6, cells := 0, slots := 0, locals := 154 } (va_Pc [.ref (ad (216)), .ref (ad (a1)), .int a2] (pU D ad ca kz σ)) (pQi D ad ca out) 0 0 (pAD ad) := by
  refine q_entry (own := "AskedCamp$Foresight") hJ (by decide) rfl (Nat.le_of_ble_eq_true rfl) (fun p e s m below meth c C hr hlk => ?_)
  refine q_lv [(0, .ref (ad (216))), (1, .ref (ad (a1))), (2, .int a2)] rfl ?_
  rw [F_X2_firstKnowing] at hF
  refine q_iconst (v := 1) C dX2_firstKnowing_0 (by decide) ?_
  refine q_aload_n C 1 dX2_firstKnowing_1 rfl rfl ?_
  refine qg_5_1 C ha1 tw_231 dX2_firstKnowing_2 ?_
  refine qg_9_5 C (pkS ha1).2.1 tw_180 dX2_firstKnowing_5 ?_
  refine q_ishl C dX2_firstKnowing_8 ?_
  refine q_iconst (v := 1) C dX2_firstKnowing_9 (by decide) ?_
  refine q_isub C dX2_firstKnowing_10 ?_
  refine q_istore_n C [(3, .int (((1 : Int32) <<< ((σ.1 (a1 + 7) 5) &&& 31)) - (1 : Int32))), (0, .ref (ad (216))), (1, .ref (ad (a1))), (2, .int a2)] dX2_firstKnowing_11 rfl (by decide) rfl ?_
  refine q_aload_n C 1 dX2_firstKnowing_12 rfl rfl ?_
  refine qg_2_0 C pi_216 tw_293 dX2_firstKnowing_13 ?_
  refine q_aload_n C 2 dX2_firstKnowing_16 rfl rfl ?_
  refine qg_5_1 C ha1 tw_231 dX2_firstKnowing_17 ?_
  obtain ⟨q1, h2, hF⟩ := bnd hF
  try dsimp only at hF
  refine q_callVv C [.ref (ad (a1 + 7))] (c_X10_copyFrom l D ad ca kz C.2.2.2.2.2.2.1 _ pi_217 (pkS ha1).2.1 _ _ h2) tw_843 gm_X10_copyFrom pi_217.1 (pe_9 pi_217.2) rfl ⟨rfl, rfl⟩ ⟨Nat.le_of_ble_eq_true rfl, Nat.le_of_ble_eq_true rfl⟩ rfl (Nat.le_of_ble_eq_true rfl) dX2_firstKnowing_20 q00 ?_
  refine q_iconst (v := 0) C dX2_firstKnowing_23 (by decide) ?_
  refine q_istore C [(4, .int 0), (3, .int (((1 : Int32) <<< ((σ.1 (a1 + 7) 5) &&& 31)) - (1 : Int32))), (0, .ref (ad (216))), (1, .ref (ad (a1))), (2, .int a2)] dX2_firstKnowing_24 (by decide) rfl ?_
  obtain ⟨o8, h9, hF⟩ := bnd hF
  try dsimp only at hF
  refine q_sub [2, 3, 4, 1, 0] rfl ?_
  refine l_X2_firstKnowing_26 C ⟨Nat.le_of_ble_eq_true rfl, Nat.le_of_ble_eq_true rfl⟩ ha1 o8 (fun eo8_0 => ?_) (fun eo8_1 => ?_) n _ _ _ _ h9
  · -- exit 0
    replace hF := ift eo8_0 hF
    refine q_aload_n C 0 dX2_firstKnowing_47 rfl rfl ?_
    refine qg_5_1 C ha1 tw_231 dX2_firstKnowing_48 ?_
    refine qg_9_3 C (pkS ha1).2.1 tw_171 dX2_firstKnowing_51 ?_
    refine q_iload C 1 dX2_firstKnowing_54 rfl ?_
    refine q_iadd C dX2_firstKnowing_56 ?_
    refine q_iconst (v := 1) C dX2_firstKnowing_57 (by decide) ?_
    refine q_isub C dX2_firstKnowing_58 ?_
    exact q_iret C hr hlk dX2_firstKnowing_59 hF
  · -- exit 1
    replace hF := ife (by rw [eo8_1]; decide) hF
    refine q_bipush (v := -2) C dX2_firstKnowing_82 (by decide) ?_
    exact q_iret C hr hlk dX2_firstKnowing_84 hF
-- X11_knowsAll
def F_X11_knowsAll (n : Nat) (a1 : Int32) (σ : PS) : Option (Int32 × PS) := (F_X10_hasTent n 25 a1 σ).bind (fun q1 => (if q1.1 = 0 then some ((-3 : Int32), q1.2) else (F_X2_firstKnowing n 18 a1 q1.2).bind (fun q4 => some (q4.1, q4.2))))
theorem gm_X11_knowsAll : gM "AskedCamp" yX11_knowsAll (Cond.code yX11_knowsAll cX11_knowsAll 2 (Option.some Jvm.ClassFile.FieldType.int)) 1 := ⟨by decide +kernel, tw_854, tw_855, tw_1, tw_856⟩
set_option maxHeartbeats 4000000 in
set_option maxRecDepth 100000 in
theorem c_X11_knowsAll (l : Launch) (D : va_G) (ad : Nat → Nat) (ca : Nat → ClassId) (kz : Nat → Nat) (hJ : pInj ad) (n : Nat) (a1 : Int32) (σ : PS) (out : Int32 × PS) (hF : F_X11_knowsAll n a1 σ = some out) : Met l yX11_knowsAll (Cond.code yX11_knowsAll cX11_knowsAll 2 (Option.some Jvm.ClassFile.FieldType.int) :: gw_tbl) { frames := 7, cells := 0, slots := 0, locals := 178 } (va_Pc [.ref (ad (0)), .int a1] (pU D ad ca kz σ)) (pQi D ad ca out) 0 0 (pAD ad) := by
  refine q_entry (own := "AskedCamp") hJ (by decide) rfl (Nat.le_of_ble_eq_true rfl) (fun p e s m below meth c C hr hlk => ?_)
  refine q_lv [(0, .ref (ad (0))), (1, .int a1)] rfl ?_
  rw [F_X11_knowsAll] at hF
  refine q_aload_n C 0 dX11_knowsAll_0 rfl rfl ?_
  refine qg_10_4 C pi_0 tw_384 dX11_knowsAll_1 ?_
  refine qg_5_1 C pi_18 tw_232 dX11_knowsAll_4 ?_
  refine q_iload_n C 1 dX11_knowsAll_7 rfl rfl ?_
  obtain ⟨q1, h2, hF⟩ := bnd hF
  try dsimp only at hF
  refine q_callVi C [.int a1] (c_X10_hasTent l D ad ca kz C.2.2.2.2.2.2.1 _ pi_25 _ _ _ h2) tw_663 gm_X10_hasTent pi_25.1 (pe_9 pi_25.2) rfl ⟨rfl, rfl⟩ ⟨Nat.le_of_ble_eq_true rfl, Nat.le_of_ble_eq_true rfl⟩ rfl (Nat.le_of_ble_eq_true rfl) dX11_knowsAll_8 q00 ?_
  refine q_if_eq (tgt := 29) C dX11_knowsAll_11 (by decide) (fun c3 => ?_) (fun c3 => ?_)
  · replace hF := ift c3 hF
    refine q_bipush (v := -3) C dX11_knowsAll_29 (by decide) ?_
    exact q_iret C hr hlk dX11_knowsAll_31 hF
  · replace hF := ife c3 hF
    refine q_aload_n C 0 dX11_knowsAll_14 rfl rfl ?_
    refine qg_10_7 C pi_0 tw_387 dX11_knowsAll_15 ?_
    refine q_aload_n C 0 dX11_knowsAll_18 rfl rfl ?_
    refine qg_10_4 C pi_0 tw_384 dX11_knowsAll_19 ?_
    refine q_iload_n C 1 dX11_knowsAll_22 rfl rfl ?_
    obtain ⟨q4, h5, hF⟩ := bnd hF
    try dsimp only at hF
    refine q_callVi C [.ref (ad (18)), .int a1] (c_X2_firstKnowing l D ad ca kz C.2.2.2.2.2.2.1 _ pi_18 _ _ _ h5) tw_857 gm_X2_firstKnowing pi_216.1 (pe_2 pi_216.2) rfl ⟨rfl, rfl⟩ ⟨Nat.le_of_ble_eq_true rfl, Nat.le_of_ble_eq_true rfl⟩ rfl (Nat.le_of_ble_eq_true rfl) dX11_knowsAll_23 q00 ?_
    refine q_goto (tgt := 31) C dX11_knowsAll_26 (by decide) ?_
    exact q_iret C hr hlk dX11_knowsAll_31 hF
-- X8_fitting
def L_X8_fitting_4 (n : Nat) : Nat → Int32 → Int32 → PS → Option (Int32 × PS)
  | 0, _, _, _ => none
  | k + 1, x1, x2, σ => (if (7 : Int32) ≤ x2 then some (x1, σ) else (if 0 ≤ x2 ∧ x2.toNatClampNeg < 7 then (if (σ.1 239 x2.toNatClampNeg) = 0 then L_X8_fitting_4 n k x1 (x2 + 1) σ else L_X8_fitting_4 n k (x1 + 1) (x2 + 1) σ) else none))
def F_X8_fitting (n : Nat) (σ : PS) : Option (Int32 × PS) := (L_X8_fitting_4 n n (0 : Int32) (0 : Int32) σ).bind (fun o4 => some (o4.1, o4.2))
theorem gm_X8_fitting : gM "AskedCamp$Sleuth" yX8_fitting (Cond.code yX8_fitting cX8_fitting 3 (Option.some Jvm.ClassFile.FieldType.int)) 0 := ⟨by decide +kernel, tw_1014, tw_1015, tw_10, tw_1016⟩
set_option maxHeartbeats 4000000 in
set_option maxRecDepth 100000 in
theorem l_X8_fitting_4 {p : Program} {l : Launch} {e : Env} {R : Room} {s : State} {m : MethodId} {args : Array Value} {below : List Frame} {meth : Method} {c : Code} {D : va_G} {ad : Nat → Nat} {ca : Nat → ClassId} {kz : Nat → Nat} {Q : State → Prop} (C : pC p s m args c cX8_fitting "AskedCamp$Sleuth" 3 D ad ca kz) (hR : 0 ≤ R.frames ∧ 0 ≤ R.locals) {n : Nat} (o : Int32 × PS) (hx0 : PW p l e R s m args below meth c 3 D ad ca 0 0 Q (o.2) 28 [(1, .int o.1)] []) : ∀ (k : Nat) (x1 : Int32) (x2 : Int32) (σ : PS), L_X8_fitting_4 n k x1 x2 σ = some o → PW p l e R s m args below meth c 3 D ad ca 0 0 Q σ 4 [(0, .ref (ad (224))), (1, .int x1), (2, .int x2)] [] := by
  intro k
  induction k with
  | zero => intro x1 x2 σ hF; exact nomatch (show (none : Option (Int32 × PS)) = some o from hF)
  | succ k ih =>
    intro x1 x2 σ hF
    rw [L_X8_fitting_4] at hF
    refine q_iload_n C 2 dX8_fitting_4 rfl rfl ?_
    refine q_bipush (v := 7) C dX8_fitting_5 (by decide) ?_
    refine q_icmp_ge (tgt := 28) C dX8_fitting_7 (by decide) (fun c1 => ?_) (fun c1 => ?_)
    · replace hF := ift c1 hF
      cases hF
      refine q_sub [1] rfl ?_
      exact hx0
    · replace hF := ife c1 hF
      refine q_aload_n C 0 dX8_fitting_10 rfl rfl ?_
      refine qg_7_5 C pi_224 tw_335 dX8_fitting_11 ?_
      refine q_iload_n C 2 dX8_fitting_14 rfl rfl ?_
      obtain ⟨g2, hF⟩ := grd hF
      refine q_zald C pa_239 (vp_of g2) dX8_fitting_15 ?_
      refine q_if_eq (tgt := 22) C dX8_fitting_16 (by decide) (fun c3 => ?_) (fun c3 => ?_)
      · replace hF := ift c3 hF
        refine q_iinc C 2 [(2, .int (x2 + 1)), (0, .ref (ad (224))), (1, .int x1)] dX8_fitting_22 rfl rfl (by decide) rfl ?_
        refine q_goto (tgt := 4) C dX8_fitting_25 (by decide) ?_
        refine q_sub [1, 2, 0] rfl ?_
        exact ih _ _ _ hF
      · replace hF := ife c3 hF
        refine q_iinc C 1 [(1, .int (x1 + 1)), (0, .ref (ad (224))), (2, .int x2)] dX8_fitting_19 rfl rfl (by decide) rfl ?_
        refine q_iinc C 2 [(2, .int (x2 + 1)), (1, .int (x1 + 1)), (0, .ref (ad (224)))] dX8_fitting_22 rfl rfl (by decide) rfl ?_
        refine q_goto (tgt := 4) C dX8_fitting_25 (by decide) ?_
        refine q_sub [2, 1, 0] rfl ?_
        exact ih _ _ _ hF
set_option maxHeartbeats 4000000 in
set_option maxRecDepth 100000 in
theorem c_X8_fitting (l : Launch) (D : va_G) (ad : Nat → Nat) (ca : Nat → ClassId) (kz : Nat → Nat) (hJ : pInj ad) (n : Nat) (σ : PS) (out : Int32 × PS) (hF : F_X8_fitting n σ = some out) : Met l yX8_fitting (Cond.code yX8_fitting cX8_fitting 3 (Option.some Jvm.ClassFile.FieldType.int) :: gw_tbl) { frames := 0, cells := 0, slots := 0, locals := 0 } (va_Pc [.ref (ad (224))] (pU D ad ca kz σ)) (pQi D ad ca out) 0 0 (pAD ad) := by
  refine q_entry (own := "AskedCamp$Sleuth") hJ (by decide) rfl (Nat.le_of_ble_eq_true rfl) (fun p e s m below meth c C hr hlk => ?_)
  refine q_lv [(0, .ref (ad (224)))] rfl ?_
  rw [F_X8_fitting] at hF
  refine q_iconst (v := 0) C dX8_fitting_0 (by decide) ?_
  refine q_istore_n C [(1, .int 0), (0, .ref (ad (224)))] dX8_fitting_1 rfl (by decide) rfl ?_
  refine q_iconst (v := 0) C dX8_fitting_2 (by decide) ?_
  refine q_istore_n C [(2, .int 0), (1, .int 0), (0, .ref (ad (224)))] dX8_fitting_3 rfl (by decide) rfl ?_
  obtain ⟨o4, h5, hF⟩ := bnd hF
  try dsimp only at hF
  refine q_sub [2, 1, 0] rfl ?_
  refine l_X8_fitting_4 C ⟨Nat.le_of_ble_eq_true rfl, Nat.le_of_ble_eq_true rfl⟩ o4 ?_ n _ _ _ h5
  refine q_iload_n C 0 dX8_fitting_28 rfl rfl ?_
  exact q_iret C hr hlk dX8_fitting_29 hF
-- X8_greatestCrowd
def L_X8_greatestCrowd_16 (n : Nat) : Nat → Int32 → Int32 → Int32 → Int32 → Int32 → PS → Option (Int32 × Int32 × Int32 × Int32 × PS)
  | 0, _, _, _, _, _, _ => none
  | k + 1, x1, x2, x3, x4, x5, σ => (if (7 : Int32) ≤ x5 then some (x1, x2, x3, x4, σ) else (if 0 ≤ x5 ∧ x5.toNatClampNeg < 7 then (if (σ.1 239 x5.toNatClampNeg) = 0 then L_X8_greatestCrowd_16 n k x1 x2 x3 x4 (x5 + 1) σ else (if 0 ≤ x1 ∧ x1.toNatClampNeg < 61 then (if 0 ≤ x3 ∧ x3.toNatClampNeg < 7 then (if (σ.1 (232 + x5.toNatClampNeg) x1.toNatClampNeg) = (σ.1 (232 + x3.toNatClampNeg) x1.toNatClampNeg) then L_X8_greatestCrowd_16 n k x1 x2 x3 (x4 + 1) (x5 + 1) σ else L_X8_greatestCrowd_16 n k x1 x2 x3 x4 (x5 + 1) σ) else none) else none)) else none))
def L_X8_greatestCrowd_4 (n : Nat) : Nat → Int32 → Int32 → Int32 → PS → Option (Int32 × PS)
  | 0, _, _, _, _ => none
  | k + 1, x1, x2, x3, σ => (if (7 : Int32) ≤ x3 then some (x2, σ) else (L_X8_greatestCrowd_16 n n x1 x2 x3 (0 : Int32) (0 : Int32) σ).bind (fun o2 => (if 0 ≤ o2.2.2.1 ∧ o2.2.2.1.toNatClampNeg < 7 then (if (o2.2.2.2.2.1 239 o2.2.2.1.toNatClampNeg) = 0 then L_X8_greatestCrowd_4 n k o2.1 o2.2.1 (o2.2.2.1 + 1) o2.2.2.2.2 else (if o2.2.2.2.1 ≤ o2.2.1 then L_X8_greatestCrowd_4 n k o2.1 o2.2.1 (o2.2.2.1 + 1) o2.2.2.2.2 else L_X8_greatestCrowd_4 n k o2.1 o2.2.2.2.1 (o2.2.2.1 + 1) o2.2.2.2.2)) else none)))
def F_X8_greatestCrowd (n : Nat) (a1 : Int32) (σ : PS) : Option (Int32 × PS) := (L_X8_greatestCrowd_4 n n a1 (0 : Int32) (0 : Int32) σ).bind (fun o7 => some (o7.1, o7.2))
theorem gm_X8_greatestCrowd : gM "AskedCamp$Sleuth" yX8_greatestCrowd (Cond.code yX8_greatestCrowd cX8_greatestCrowd 6 (Option.some Jvm.ClassFile.FieldType.int)) 1 := ⟨by decide +kernel, tw_1032, tw_p24, tw_10, tw_1033⟩
set_option maxHeartbeats 4000000 in
set_option maxRecDepth 100000 in
theorem l_X8_greatestCrowd_16 {p : Program} {l : Launch} {e : Env} {R : Room} {s : State} {m : MethodId} {args : Array Value} {below : List Frame} {meth : Method} {c : Code} {D : va_G} {ad : Nat → Nat} {ca : Nat → ClassId} {kz : Nat → Nat} {Q : State → Prop} (C : pC p s m args c cX8_greatestCrowd "AskedCamp$Sleuth" 6 D ad ca kz) (hR : 0 ≤ R.frames ∧ 0 ≤ R.locals) {n : Nat} (o : Int32 × Int32 × Int32 × Int32 × PS) (hx0 : PW p l e R s m args below meth c 6 D ad ca 0 0 Q (o.2.2.2.2) 62 [(0, .ref (ad (224))), (1, .int o.1), (2, .int o.2.1), (3, .int o.2.2.1), (4, .int o.2.2.2.1)] []) : ∀ (k : Nat) (x1 : Int32) (x2 : Int32) (x3 : Int32) (x4 : Int32) (x5 : Int32) (σ : PS), L_X8_greatestCrowd_16 n k x1 x2 x3 x4 x5 σ = some o → PW p l e R s m args below meth c 6 D ad ca 0 0 Q σ 16 [(0, .ref (ad (224))), (1, .int x1), (2, .int x2), (3, .int x3), (4, .int x4), (5, .int x5)] [] := by
  intro k
  induction k with
  | zero => intro x1 x2 x3 x4 x5 σ hF; exact nomatch (show (none : Option (Int32 × Int32 × Int32 × Int32 × PS)) = some o from hF)
  | succ k ih =>
    intro x1 x2 x3 x4 x5 σ hF
    rw [L_X8_greatestCrowd_16] at hF
    refine q_iload C 5 dX8_greatestCrowd_16 rfl ?_
    refine q_bipush (v := 7) C dX8_greatestCrowd_18 (by decide) ?_
    refine q_icmp_ge (tgt := 62) C dX8_greatestCrowd_20 (by decide) (fun c2 => ?_) (fun c2 => ?_)
    · replace hF := ift c2 hF
      cases hF
      refine q_sub [0, 1, 2, 3, 4] rfl ?_
      exact hx0
    · replace hF := ife c2 hF
      refine q_aload_n C 0 dX8_greatestCrowd_23 rfl rfl ?_
      refine qg_7_5 C pi_224 tw_335 dX8_greatestCrowd_24 ?_
      refine q_iload C 5 dX8_greatestCrowd_27 rfl ?_
      obtain ⟨g3, hF⟩ := grd hF
      refine q_zald C pa_239 (vp_of g3) dX8_greatestCrowd_29 ?_
      refine q_if_eq (tgt := 56) C dX8_greatestCrowd_30 (by decide) (fun c4 => ?_) (fun c4 => ?_)
      · replace hF := ift c4 hF
        refine q_iinc C 5 [(5, .int (x5 + 1)), (0, .ref (ad (224))), (1, .int x1), (2, .int x2), (3, .int x3), (4, .int x4)] dX8_greatestCrowd_56 rfl rfl (by decide) rfl ?_
        refine q_goto (tgt := 16) C dX8_greatestCrowd_59 (by decide) ?_
        refine q_sub [1, 2, 3, 4, 5, 0] rfl ?_
        exact ih _ _ _ _ _ _ hF
      · replace hF := ife c4 hF
        refine q_aload_n C 0 dX8_greatestCrowd_33 rfl rfl ?_
        refine qg_7_4 C pi_224 tw_334 dX8_greatestCrowd_34 ?_
        refine q_iload C 5 dX8_greatestCrowd_37 rfl ?_
        refine q_aald27 C pa_231 (vp_of g3) dX8_greatestCrowd_39 ?_
        refine q_iload_n C 1 dX8_greatestCrowd_40 rfl rfl ?_
        obtain ⟨g5, hF⟩ := grd hF
        refine q_iald C (pk27 (vp_lt (vp_of g3))) (vp_of g5) dX8_greatestCrowd_41 ?_
        refine q_aload_n C 0 dX8_greatestCrowd_42 rfl rfl ?_
        refine qg_7_4 C pi_224 tw_334 dX8_greatestCrowd_43 ?_
        refine q_iload_n C 3 dX8_greatestCrowd_46 rfl rfl ?_
        obtain ⟨g6, hF⟩ := grd hF
        refine q_aald27 C pa_231 (vp_of g6) dX8_greatestCrowd_47 ?_
        refine q_iload_n C 1 dX8_greatestCrowd_48 rfl rfl ?_
        refine q_iald C (pk27 (vp_lt (vp_of g6))) (vp_of g5) dX8_greatestCrowd_49 ?_
        refine q_icmp_ne (tgt := 56) C dX8_greatestCrowd_50 (by decide) (fun c7 => ?_) (fun c7 => ?_)
        · replace hF := ife c7 hF
          refine q_iinc C 5 [(5, .int (x5 + 1)), (0, .ref (ad (224))), (1, .int x1), (2, .int x2), (3, .int x3), (4, .int x4)] dX8_greatestCrowd_56 rfl rfl (by decide) rfl ?_
          refine q_goto (tgt := 16) C dX8_greatestCrowd_59 (by decide) ?_
          refine q_sub [1, 2, 3, 4, 5, 0] rfl ?_
          exact ih _ _ _ _ _ _ hF
        · replace hF := ift c7 hF
          refine q_iinc C 4 [(4, .int (x4 + 1)), (0, .ref (ad (224))), (1, .int x1), (2, .int x2), (3, .int x3), (5, .int x5)] dX8_greatestCrowd_53 rfl rfl (by decide) rfl ?_
          refine q_iinc C 5 [(5, .int (x5 + 1)), (4, .int (x4 + 1)), (0, .ref (ad (224))), (1, .int x1), (2, .int x2), (3, .int x3)] dX8_greatestCrowd_56 rfl rfl (by decide) rfl ?_
          refine q_goto (tgt := 16) C dX8_greatestCrowd_59 (by decide) ?_
          refine q_sub [2, 3, 4, 5, 1, 0] rfl ?_
          exact ih _ _ _ _ _ _ hF
set_option maxHeartbeats 4000000 in
set_option maxRecDepth 100000 in
theorem l_X8_greatestCrowd_4 {p : Program} {l : Launch} {e : Env} {R : Room} {s : State} {m : MethodId} {args : Array Value} {below : List Frame} {meth : Method} {c : Code} {D : va_G} {ad : Nat → Nat} {ca : Nat → ClassId} {kz : Nat → Nat} {Q : State → Prop} (C : pC p s m args c cX8_greatestCrowd "AskedCamp$Sleuth" 6 D ad ca kz) (hR : 0 ≤ R.frames ∧ 0 ≤ R.locals) {n : Nat} (o : Int32 × PS) (hx0 : PW p l e R s m args below meth c 6 D ad ca 0 0 Q (o.2) 86 [(2, .int o.1)] []) : ∀ (k : Nat) (x1 : Int32) (x2 : Int32) (x3 : Int32) (σ : PS), L_X8_greatestCrowd_4 n k x1 x2 x3 σ = some o → PW p l e R s m args below meth c 6 D ad ca 0 0 Q σ 4 [(0, .ref (ad (224))), (1, .int x1), (2, .int x2), (3, .int x3)] [] := by
  intro k
  induction k with
  | zero => intro x1 x2 x3 σ hF; exact nomatch (show (none : Option (Int32 × PS)) = some o from hF)
  | succ k ih =>
    intro x1 x2 x3 σ hF
    rw [L_X8_greatestCrowd_4] at hF
    refine q_iload_n C 3 dX8_greatestCrowd_4 rfl rfl ?_
    refine q_bipush (v := 7) C dX8_greatestCrowd_5 (by decide) ?_
    refine q_icmp_ge (tgt := 86) C dX8_greatestCrowd_7 (by decide) (fun c1 => ?_) (fun c1 => ?_)
    · replace hF := ift c1 hF
      cases hF
      refine q_sub [2] rfl ?_
      exact hx0
    · replace hF := ife c1 hF
      refine q_iconst (v := 0) C dX8_greatestCrowd_10 (by decide) ?_
      refine q_istore C [(4, .int 0), (0, .ref (ad (224))), (1, .int x1), (2, .int x2), (3, .int x3)] dX8_greatestCrowd_11 (by decide) rfl ?_
      refine q_iconst (v := 0) C dX8_greatestCrowd_13 (by decide) ?_
      refine q_istore C [(5, .int 0), (4, .int 0), (0, .ref (ad (224))), (1, .int x1), (2, .int x2), (3, .int x3)] dX8_greatestCrowd_14 (by decide) rfl ?_
      obtain ⟨o2, h3, hF⟩ := bnd hF
      try dsimp only at hF
      refine q_sub [2, 3, 4, 5, 1, 0] rfl ?_
      refine l_X8_greatestCrowd_16 C ⟨hR.1, hR.2⟩ o2 ?_ n _ _ _ _ _ _ h3
      refine q_aload_n C 0 dX8_greatestCrowd_62 rfl rfl ?_
      refine qg_7_5 C pi_224 tw_335 dX8_greatestCrowd_63 ?_
      refine q_iload_n C 3 dX8_greatestCrowd_66 rfl rfl ?_
      obtain ⟨g4, hF⟩ := grd hF
      refine q_zald C pa_239 (vp_of g4) dX8_greatestCrowd_67 ?_
      refine q_if_eq (tgt := 80) C dX8_greatestCrowd_68 (by decide) (fun c5 => ?_) (fun c5 => ?_)
      · replace hF := ift c5 hF
        refine q_iinc C 3 [(3, .int (o2.2.2.1 + 1)), (0, .ref (ad (224))), (1, .int o2.1), (2, .int o2.2.1), (4, .int o2.2.2.2.1)] dX8_greatestCrowd_80 rfl rfl (by decide) rfl ?_
        refine q_goto (tgt := 4) C dX8_greatestCrowd_83 (by decide) ?_
        refine q_sub [1, 2, 3, 0] rfl ?_
        exact ih _ _ _ _ hF
      · replace hF := ife c5 hF
        refine q_iload C 4 dX8_greatestCrowd_71 rfl ?_
        refine q_iload_n C 2 dX8_greatestCrowd_73 rfl rfl ?_
        refine q_icmp_le (tgt := 80) C dX8_greatestCrowd_74 (by decide) (fun c6 => ?_) (fun c6 => ?_)
        · replace hF := ift c6 hF
          refine q_iinc C 3 [(3, .int (o2.2.2.1 + 1)), (0, .ref (ad (224))), (1, .int o2.1), (2, .int o2.2.1), (4, .int o2.2.2.2.1)] dX8_greatestCrowd_80 rfl rfl (by decide) rfl ?_
          refine q_goto (tgt := 4) C dX8_greatestCrowd_83 (by decide) ?_
          refine q_sub [1, 2, 3, 0] rfl ?_
          exact ih _ _ _ _ hF
        · replace hF := ife c6 hF
          refine q_iload C 4 dX8_greatestCrowd_77 rfl ?_
          refine q_istore_n C [(2, .int o2.2.2.2.1), (0, .ref (ad (224))), (1, .int o2.1), (3, .int o2.2.2.1), (4, .int o2.2.2.2.1)] dX8_greatestCrowd_79 rfl (by decide) rfl ?_
          refine q_iinc C 3 [(3, .int (o2.2.2.1 + 1)), (2, .int o2.2.2.2.1), (0, .ref (ad (224))), (1, .int o2.1), (4, .int o2.2.2.2.1)] dX8_greatestCrowd_80 rfl rfl (by decide) rfl ?_
          refine q_goto (tgt := 4) C dX8_greatestCrowd_83 (by decide) ?_
          refine q_sub [2, 3, 1, 0] rfl ?_
          exact ih _ _ _ _ hF
set_option maxHeartbeats 4000000 in
set_option maxRecDepth 100000 in
theorem c_X8_greatestCrowd (l : Launch) (D : va_G) (ad : Nat → Nat) (ca : Nat → ClassId) (kz : Nat → Nat) (hJ : pInj ad) (n : Nat) (a1 : Int32) (σ : PS) (out : Int32 × PS) (hF : F_X8_greatestCrowd n a1 σ = some out) : Met l yX8_greatestCrowd (Cond.code yX8_greatestCrowd cX8_greatestCrowd 6 (Option.some Jvm.ClassFile.FieldType.int) :: gw_tbl) { frames := 0, cells := 0, slots := 0, locals := 0 } (va_Pc [.ref (ad (224)), .int a1] (pU D ad ca kz σ)) (pQi D ad ca out) 0 0 (pAD ad) := by
  refine q_entry (own := "AskedCamp$Sleuth") hJ (by decide) rfl (Nat.le_of_ble_eq_true rfl) (fun p e s m below meth c C hr hlk => ?_)
  refine q_lv [(0, .ref (ad (224))), (1, .int a1)] rfl ?_
  rw [F_X8_greatestCrowd] at hF
  refine q_iconst (v := 0) C dX8_greatestCrowd_0 (by decide) ?_
  refine q_istore_n C [(2, .int 0), (0, .ref (ad (224))), (1, .int a1)] dX8_greatestCrowd_1 rfl (by decide) rfl ?_
  refine q_iconst (v := 0) C dX8_greatestCrowd_2 (by decide) ?_
  refine q_istore_n C [(3, .int 0), (2, .int 0), (0, .ref (ad (224))), (1, .int a1)] dX8_greatestCrowd_3 rfl (by decide) rfl ?_
  obtain ⟨o7, h8, hF⟩ := bnd hF
  try dsimp only at hF
  refine q_sub [2, 3, 1, 0] rfl ?_
  refine l_X8_greatestCrowd_4 C ⟨Nat.le_of_ble_eq_true rfl, Nat.le_of_ble_eq_true rfl⟩ o7 ?_ n _ _ _ _ h8
  refine q_iload_n C 0 dX8_greatestCrowd_86 rfl rfl ?_
  exact q_iret C hr hlk dX8_greatestCrowd_87 hF
-- X8_findParting
def L_X8_findParting_22 (n : Nat) : Nat → Int32 → PS → Option (PS)
  | 0, _, _ => none
  | k + 1, x1, σ => (if (60 : Int32) < x1 then some σ else (F_X8_greatestCrowd n x1 σ).bind (fun q5 => (if (q5.2.1 224 0) = (-2 : Int32) then L_X8_findParting_22 n k (x1 + 1) (psI (psI q5.2 224 0 x1) 224 1 q5.1) else (if (q5.2.1 224 1) ≤ q5.1 then L_X8_findParting_22 n k (x1 + 1) q5.2 else L_X8_findParting_22 n k (x1 + 1) (psI (psI q5.2 224 0 x1) 224 1 q5.1)))))
def F_X8_findParting (n : Nat) (σ : PS) : Option (PS) := (F_X8_fitting n (psI (psI σ 224 0 (-2 : Int32)) 224 1 (-2 : Int32))).bind (fun q1 => (if q1.1 = 0 then some q1.2 else (L_X8_findParting_22 n n (0 : Int32) q1.2).bind (fun o9 => some o9)))
theorem gm_X8_findParting : gM "AskedCamp$Sleuth" yX8_findParting (Cond.code yX8_findParting cX8_findParting 3 (Option.none : Option Jvm.ClassFile.FieldType)) 0 := ⟨by decide +kernel, tw_1026, tw_1027, tw_10, tw_1028⟩
set_option maxHeartbeats 4000000 in
set_option maxRecDepth 100000 in
theorem l_X8_findParting_22 {p : Program} {l : Launch} {e : Env} {R : Room} {s : State} {m : MethodId} {args : Array Value} {below : List Frame} {meth : Method} {c : Code} {D : va_G} {ad : Nat → Nat} {ca : Nat → ClassId} {kz : Nat → Nat} {Q : State → Prop} (C : pC p s m args c cX8_findParting "AskedCamp$Sleuth" 3 D ad ca kz) (hR : 1 ≤ R.frames ∧ 25 ≤ R.locals) {n : Nat} (o : PS) (hx0 : PW p l e R s m args below meth c 3 D ad ca 0 0 Q (o) 67 [] []) : ∀ (k : Nat) (x1 : Int32) (σ : PS), L_X8_findParting_22 n k x1 σ = some o → PW p l e R s m args below meth c 3 D ad ca 0 0 Q σ 22 [(0, .ref (ad (224))), (1, .int x1)] [] := by
  intro k
  induction k with
  | zero => intro x1 σ hF; exact nomatch (show (none : Option (PS)) = some o from hF)
  | succ k ih =>
    intro x1 σ hF
    rw [L_X8_findParting_22] at hF
    refine q_iload_n C 1 dX8_findParting_22 rfl rfl ?_
    refine q_bipush (v := 60) C dX8_findParting_23 (by decide) ?_
    refine q_icmp_gt (tgt := 67) C dX8_findParting_25 (by decide) (fun c4 => ?_) (fun c4 => ?_)
    · replace hF := ift c4 hF
      cases hF
      refine q_sub [] rfl ?_
      exact hx0
    · replace hF := ife c4 hF
      refine q_aload_n C 0 dX8_findParting_28 rfl rfl ?_
      refine q_iload_n C 1 dX8_findParting_29 rfl rfl ?_
      obtain ⟨q5, h6, hF⟩ := bnd hF
      try dsimp only at hF
      refine q_callVi C [.int x1] (c_X8_greatestCrowd l D ad ca kz C.2.2.2.2.2.2.1 _ _ _ _ h6) tw_1030 gm_X8_greatestCrowd pi_224.1 (pe_7 pi_224.2) rfl ⟨rfl, rfl⟩ ⟨Nat.le_trans (Nat.le_of_ble_eq_true rfl) hR.1, Nat.le_trans (Nat.le_of_ble_eq_true rfl) hR.2⟩ rfl (Nat.le_of_ble_eq_true rfl) dX8_findParting_30 q00 ?_
      refine q_istore_n C [(2, .int q5.1), (0, .ref (ad (224))), (1, .int x1)] dX8_findParting_33 rfl (by decide) rfl ?_
      refine q_aload_n C 1 dX8_findParting_34 rfl rfl ?_
      refine qg_7_0 C pi_224 tw_328 dX8_findParting_35 ?_
      refine q_bipush (v := -2) C dX8_findParting_38 (by decide) ?_
      refine q_icmp_eq (tgt := 51) C dX8_findParting_40 (by decide) (fun c7 => ?_) (fun c7 => ?_)
      · replace hF := ift c7 hF
        refine q_aload_n C 1 dX8_findParting_51 rfl rfl ?_
        refine q_iload_n C 2 dX8_findParting_52 rfl rfl ?_
        refine qs_7_0 C pi_224 tw_328 dX8_findParting_53 ?_
        refine q_aload_n C 1 dX8_findParting_56 rfl rfl ?_
        refine q_iload_n C 0 dX8_findParting_57 rfl rfl ?_
        refine qs_7_1 C pi_224 tw_330 dX8_findParting_58 ?_
        refine q_iinc C 2 [(1, .int (x1 + 1)), (2, .int q5.1), (0, .ref (ad (224)))] dX8_findParting_61 rfl rfl (by decide) rfl ?_
        refine q_goto (tgt := 22) C dX8_findParting_64 (by decide) ?_
        refine q_sub [2, 0] rfl ?_
        exact ih _ _ hF
      · replace hF := ife c7 hF
        refine q_iload_n C 0 dX8_findParting_43 rfl rfl ?_
        refine q_aload_n C 1 dX8_findParting_44 rfl rfl ?_
        refine qg_7_1 C pi_224 tw_330 dX8_findParting_45 ?_
        refine q_icmp_ge (tgt := 61) C dX8_findParting_48 (by decide) (fun c8 => ?_) (fun c8 => ?_)
        · replace hF := ift c8 hF
          refine q_iinc C 2 [(1, .int (x1 + 1)), (2, .int q5.1), (0, .ref (ad (224)))] dX8_findParting_61 rfl rfl (by decide) rfl ?_
          refine q_goto (tgt := 22) C dX8_findParting_64 (by decide) ?_
          refine q_sub [2, 0] rfl ?_
          exact ih _ _ hF
        · replace hF := ife c8 hF
          refine q_aload_n C 1 dX8_findParting_51 rfl rfl ?_
          refine q_iload_n C 2 dX8_findParting_52 rfl rfl ?_
          refine qs_7_0 C pi_224 tw_328 dX8_findParting_53 ?_
          refine q_aload_n C 1 dX8_findParting_56 rfl rfl ?_
          refine q_iload_n C 0 dX8_findParting_57 rfl rfl ?_
          refine qs_7_1 C pi_224 tw_330 dX8_findParting_58 ?_
          refine q_iinc C 2 [(1, .int (x1 + 1)), (2, .int q5.1), (0, .ref (ad (224)))] dX8_findParting_61 rfl rfl (by decide) rfl ?_
          refine q_goto (tgt := 22) C dX8_findParting_64 (by decide) ?_
          refine q_sub [2, 0] rfl ?_
          exact ih _ _ hF
set_option maxHeartbeats 4000000 in
set_option maxRecDepth 100000 in
theorem c_X8_findParting (l : Launch) (D : va_G) (ad : Nat → Nat) (ca : Nat → ClassId) (kz : Nat → Nat) (hJ : pInj ad) (n : Nat) (σ : PS) (out : PS) (hF : F_X8_findParting n σ = some out) : Met l yX8_findParting (Cond.code yX8_findParting cX8_findParting 3 (Option.none : Option Jvm.ClassFile.FieldType) :: gw_tbl) { frames := 1, cells := 0, slots := 0, locals := 25 } (va_Pc [.ref (ad (224))] (pU D ad ca kz σ)) (pQv D ad ca out) 0 0 (pAD ad) := by
  refine q_entry (own := "AskedCamp$Sleuth") hJ (by decide) rfl (Nat.le_of_ble_eq_true rfl) (fun p e s m below meth c C hr hlk => ?_)
  refine q_lv [(0, .ref (ad (224)))] rfl ?_
  rw [F_X8_findParting] at hF
  refine q_aload_n C 0 dX8_findParting_0 rfl rfl ?_
  refine q_bipush (v := -2) C dX8_findParting_1 (by decide) ?_
  refine qs_7_0 C pi_224 tw_328 dX8_findParting_3 ?_
  refine q_aload_n C 0 dX8_findParting_6 rfl rfl ?_
  refine q_bipush (v := -2) C dX8_findParting_7 (by decide) ?_
  refine qs_7_1 C pi_224 tw_330 dX8_findParting_9 ?_
  refine q_aload_n C 0 dX8_findParting_12 rfl rfl ?_
  obtain ⟨q1, h2, hF⟩ := bnd hF
  try dsimp only at hF
  refine q_callVi C [] (c_X8_fitting l D ad ca kz C.2.2.2.2.2.2.1 _ _ _ h2) tw_1029 gm_X8_fitting pi_224.1 (pe_7 pi_224.2) rfl ⟨rfl, rfl⟩ ⟨Nat.le_of_ble_eq_true rfl, Nat.le_of_ble_eq_true rfl⟩ rfl (Nat.le_of_ble_eq_true rfl) dX8_findParting_13 q00 ?_
  refine q_if_ne (tgt := 20) C dX8_findParting_16 (by decide) (fun c3 => ?_) (fun c3 => ?_)
  · replace hF := ife c3 hF
    refine q_iconst (v := 0) C dX8_findParting_20 (by decide) ?_
    refine q_istore_n C [(1, .int 0), (0, .ref (ad (224)))] dX8_findParting_21 rfl (by decide) rfl ?_
    obtain ⟨o9, h10, hF⟩ := bnd hF
    try dsimp only at hF
    refine q_sub [1, 0] rfl ?_
    refine l_X8_findParting_22 C ⟨Nat.le_of_ble_eq_true rfl, Nat.le_of_ble_eq_true rfl⟩ o9 ?_ n _ _ h10
    exact q_vret C hr hlk dX8_findParting_67 hF
  · replace hF := ift c3 hF
    exact q_vret C hr hlk dX8_findParting_19 hF
-- X8_agrees
def L_X8_agrees_2 (n : Nat) (a1 : Nat) : Nat → Int32 → Int32 → PS → Option (Nat × PS)
  | 0, _, _, _ => none
  | k + 1, x2, x3, σ => (if (σ.1 a1 4) ≤ x3 then some (1, σ) else (if 0 ≤ x3 ∧ x3.toNatClampNeg < 10 then (if (σ.1 (a1 + 13) x3.toNatClampNeg) < 0 then some (0, σ) else (if (60 : Int32) < (σ.1 (a1 + 13) x3.toNatClampNeg) then some (0, σ) else (if 0 ≤ x2 ∧ x2.toNatClampNeg < 7 then (if 0 ≤ (σ.1 (a1 + 13) x3.toNatClampNeg) ∧ (σ.1 (a1 + 13) x3.toNatClampNeg).toNatClampNeg < 61 then (if (σ.1 (232 + x2.toNatClampNeg) ((σ.1 (a1 + 13) x3.toNatClampNeg).toNatClampNeg)) = (σ.1 (a1 + 14) x3.toNatClampNeg) then L_X8_agrees_2 n a1 k x2 (x3 + 1) σ else some (0, σ)) else none) else none))) else none))
def F_X8_agrees (n : Nat) (a1 : Nat) (a2 : Int32) (σ : PS) : Option (Int32 × PS) := (L_X8_agrees_2 n a1 n a2 (0 : Int32) σ).bind (fun o8 => (if o8.1 = 0 then some ((0 : Int32), o8.2) else some ((1 : Int32), o8.2)))
theorem gm_X8_agrees : gM "AskedCamp$Sleuth" yX8_agrees (Cond.code yX8_agrees cX8_agrees 5 (Option.some Jvm.ClassFile.FieldType.boolean)) 2 := ⟨by decide +kernel, tw_1011, tw_p23, tw_10, tw_1012⟩
set_option maxHeartbeats 4000000 in
set_option maxRecDepth 100000 in
theorem l_X8_agrees_2 {p : Program} {l : Launch} {e : Env} {R : Room} {s : State} {m : MethodId} {args : Array Value} {below : List Frame} {meth : Method} {c : Code} {D : va_G} {ad : Nat → Nat} {ca : Nat → ClassId} {kz : Nat → Nat} {Q : State → Prop} (C : pC p s m args c cX8_agrees "AskedCamp$Sleuth" 5 D ad ca kz) (hR : 0 ≤ R.frames ∧ 0 ≤ R.locals) {n : Nat} {a1 : Nat} (ha1 : pis a1 5) (o : Nat × PS) (hx0 : o.1 = 0 → PW p l e R s m args below meth c 5 D ad ca 0 0 Q (o.2) 48 [] []) (hx1 : o.1 = 1 → PW p l e R s m args below meth c 5 D ad ca 0 0 Q (o.2) 56 [] []) : ∀ (k : Nat) (x2 : Int32) (x3 : Int32) (σ : PS), L_X8_agrees_2 n a1 k x2 x3 σ = some o → PW p l e R s m args below meth c 5 D ad ca 0 0 Q σ 2 [(0, .ref (ad (224))), (1, .ref (ad (a1))), (2, .int x2), (3, .int x3)] [] := by
  intro k
  induction k with
  | zero => intro x2 x3 σ hF; exact nomatch (show (none : Option (Nat × PS)) = some o from hF)
  | succ k ih =>
    intro x2 x3 σ hF
    rw [L_X8_agrees_2] at hF
    refine q_iload_n C 3 dX8_agrees_2 rfl rfl ?_
    refine q_aload_n C 1 dX8_agrees_3 rfl rfl ?_
    refine qg_5_4 C ha1 tw_238 dX8_agrees_4 ?_
    refine q_icmp_ge (tgt := 56) C dX8_agrees_7 (by decide) (fun c1 => ?_) (fun c1 => ?_)
    · replace hF := ift c1 hF
      cases hF
      refine q_sub [] rfl ?_
      exact hx1 rfl
    · replace hF := ife c1 hF
      refine q_aload_n C 1 dX8_agrees_10 rfl rfl ?_
      refine qg_5_2 C ha1 tw_234 dX8_agrees_11 ?_
      refine q_iload_n C 3 dX8_agrees_14 rfl rfl ?_
      obtain ⟨g2, hF⟩ := grd hF
      refine q_iald C (pkS ha1).2.2.1 (vp_of g2) dX8_agrees_15 ?_
      refine q_istore C [(4, .int (σ.1 (a1 + 13) x3.toNatClampNeg)), (0, .ref (ad (224))), (1, .ref (ad (a1))), (2, .int x2), (3, .int x3)] dX8_agrees_16 (by decide) rfl ?_
      refine q_iload C 0 dX8_agrees_18 rfl ?_
      refine q_if_lt (tgt := 48) C dX8_agrees_20 (by decide) (fun c3 => ?_) (fun c3 => ?_)
      · replace hF := ift c3 hF
        cases hF
        refine q_sub [] rfl ?_
        exact hx0 rfl
      · replace hF := ife c3 hF
        refine q_iload C 0 dX8_agrees_23 rfl ?_
        refine q_bipush (v := 60) C dX8_agrees_25 (by decide) ?_
        refine q_icmp_gt (tgt := 48) C dX8_agrees_27 (by decide) (fun c4 => ?_) (fun c4 => ?_)
        · replace hF := ift c4 hF
          cases hF
          refine q_sub [] rfl ?_
          exact hx0 rfl
        · replace hF := ife c4 hF
          refine q_aload_n C 1 dX8_agrees_30 rfl rfl ?_
          refine qg_7_4 C pi_224 tw_334 dX8_agrees_31 ?_
          refine q_iload_n C 3 dX8_agrees_34 rfl rfl ?_
          obtain ⟨g5, hF⟩ := grd hF
          refine q_aald27 C pa_231 (vp_of g5) dX8_agrees_35 ?_
          refine q_iload C 0 dX8_agrees_36 rfl ?_
          obtain ⟨g6, hF⟩ := grd hF
          refine q_iald C (pk27 (vp_lt (vp_of g5))) (vp_of g6) dX8_agrees_38 ?_
          refine q_aload_n C 2 dX8_agrees_39 rfl rfl ?_
          refine qg_5_3 C ha1 tw_236 dX8_agrees_40 ?_
          refine q_iload_n C 4 dX8_agrees_43 rfl rfl ?_
          refine q_iald C (pkS ha1).2.2.2 (vp_of g2) dX8_agrees_44 ?_
          refine q_icmp_eq (tgt := 50) C dX8_agrees_45 (by decide) (fun c7 => ?_) (fun c7 => ?_)
          · replace hF := ift c7 hF
            refine q_iinc C 4 [(3, .int (x3 + 1)), (4, .int (σ.1 (a1 + 13) x3.toNatClampNeg)), (0, .ref (ad (224))), (1, .ref (ad (a1))), (2, .int x2)] dX8_agrees_50 rfl rfl (by decide) rfl ?_
            refine q_goto (tgt := 2) C dX8_agrees_53 (by decide) ?_
            refine q_sub [2, 3, 4, 0] rfl ?_
            exact ih _ _ _ hF
          · replace hF := ife c7 hF
            cases hF
            refine q_sub [] rfl ?_
            exact hx0 rfl
set_option maxHeartbeats 4000000 in
set_option maxRecDepth 100000 in
theorem c_X8_agrees (l : Launch) (D : va_G) (ad : Nat → Nat) (ca : Nat → ClassId) (kz : Nat → Nat) (hJ : pInj ad) (n : Nat) {a1 : Nat} (ha1 : pis a1 5) (a2 : Int32) (σ : PS) (out : Int32 × PS) (hF : F_X8_agrees n a1 a2 σ = some out) : Met l yX8_agrees (Cond.code yX8_agrees cX8_agrees 5 (Option.some Jvm.ClassFile.FieldType.boolean) :: gw_tbl) { frames := 0, cells := 0, slots := 0, locals := 0 } (va_Pc [.ref (ad (224)), .ref (ad (a1)), .int a2] (pU D ad ca kz σ)) (pQi D ad ca out) 0 0 (pAD ad) := by
  refine q_entry (own := "AskedCamp$Sleuth") hJ (by decide) rfl (Nat.le_of_ble_eq_true rfl) (fun p e s m below meth c C hr hlk => ?_)
  refine q_lv [(0, .ref (ad (224))), (1, .ref (ad (a1))), (2, .int a2)] rfl ?_
  rw [F_X8_agrees] at hF
  refine q_iconst (v := 0) C dX8_agrees_0 (by decide) ?_
  refine q_istore_n C [(3, .int 0), (0, .ref (ad (224))), (1, .ref (ad (a1))), (2, .int a2)] dX8_agrees_1 rfl (by decide) rfl ?_
  obtain ⟨o8, h9, hF⟩ := bnd hF
  try dsimp only at hF
  refine q_sub [1, 2, 3, 0] rfl ?_
  refine l_X8_agrees_2 C ⟨Nat.le_of_ble_eq_true rfl, Nat.le_of_ble_eq_true rfl⟩ ha1 o8 (fun eo8_0 => ?_) (fun eo8_1 => ?_) n _ _ _ h9
  · -- exit 0
    replace hF := ift eo8_0 hF
    refine q_iconst (v := 0) C dX8_agrees_48 (by decide) ?_
    exact q_zret C hr hlk dX8_agrees_49 (by decide) hF
  · -- exit 1
    replace hF := ife (by rw [eo8_1]; decide) hF
    refine q_iconst (v := 1) C dX8_agrees_56 (by decide) ?_
    exact q_zret C hr hlk dX8_agrees_57 (by decide) hF
-- X8_trace
def L_X8_trace_55 (n : Nat) (a1 : Nat) : Nat → Int32 → Int32 → PS → Option (Int32 × PS)
  | 0, _, _, _ => none
  | k + 1, x2, x3, σ => (if (60 : Int32) < x3 then some (x2, σ) else (if 0 ≤ x2 ∧ x2.toNatClampNeg < 7 then (if 0 ≤ x3 ∧ x3.toNatClampNeg < 61 then (F_X4_stride n 225 (x2 - (1 : Int32)) (1 : Int32) (psI σ (232 + x2.toNatClampNeg) x3.toNatClampNeg (σ.1 225 2))).bind (fun q10 => L_X8_trace_55 n a1 k x2 (x3 + 1) q10) else none) else none))
def L_X8_trace_2 (n : Nat) (a1 : Nat) : Nat → Int32 → PS → Option (PS)
  | 0, _, _ => none
  | k + 1, x2, σ => (if (7 : Int32) ≤ x2 then some σ else (if (σ.1 7 0) < x2 then (if 0 ≤ x2 ∧ x2.toNatClampNeg < 7 then (if ((psI σ 239 x2.toNatClampNeg (vp_nar .boolean (0 : Int32))).1 239 x2.toNatClampNeg) = 0 then L_X8_trace_2 n a1 k (x2 + 1) (psI σ 239 x2.toNatClampNeg (vp_nar .boolean (0 : Int32))) else (F_X10_copyFrom n 225 (a1 + 1) (psI σ 239 x2.toNatClampNeg (vp_nar .boolean (0 : Int32)))).bind (fun q5 => (L_X8_trace_55 n a1 n x2 (0 : Int32) q5).bind (fun o7 => (F_X8_agrees n a1 o7.1 o7.2).bind (fun q9 => (if 0 ≤ o7.1 ∧ o7.1.toNatClampNeg < 7 then L_X8_trace_2 n a1 k (o7.1 + 1) (psI q9.2 239 o7.1.toNatClampNeg (vp_nar .boolean q9.1)) else none))))) else none) else (if 0 ≤ x2 ∧ x2.toNatClampNeg < 7 then (if ((psI σ 239 x2.toNatClampNeg (vp_nar .boolean (1 : Int32))).1 239 x2.toNatClampNeg) = 0 then L_X8_trace_2 n a1 k (x2 + 1) (psI σ 239 x2.toNatClampNeg (vp_nar .boolean (1 : Int32))) else (F_X10_copyFrom n 225 (a1 + 1) (psI σ 239 x2.toNatClampNeg (vp_nar .boolean (1 : Int32)))).bind (fun q14 => (L_X8_trace_55 n a1 n x2 (0 : Int32) q14).bind (fun o16 => (F_X8_agrees n a1 o16.1 o16.2).bind (fun q18 => (if 0 ≤ o16.1 ∧ o16.1.toNatClampNeg < 7 then L_X8_trace_2 n a1 k (o16.1 + 1) (psI q18.2 239 o16.1.toNatClampNeg (vp_nar .boolean q18.1)) else none))))) else none)))
def F_X8_trace (n : Nat) (a1 : Nat) (σ : PS) : Option (PS) := (L_X8_trace_2 n a1 n (0 : Int32) σ).bind (fun o21 => some o21)
theorem gm_X8_trace : gM "AskedCamp$Sleuth" yX8_trace (Cond.code yX8_trace cX8_trace 4 (Option.none : Option Jvm.ClassFile.FieldType)) 1 := ⟨by decide +kernel, tw_1004, tw_1005, tw_10, tw_1006⟩
set_option maxHeartbeats 4000000 in
set_option maxRecDepth 100000 in
theorem l_X8_trace_55 {p : Program} {l : Launch} {e : Env} {R : Room} {s : State} {m : MethodId} {args : Array Value} {below : List Frame} {meth : Method} {c : Code} {D : va_G} {ad : Nat → Nat} {ca : Nat → ClassId} {kz : Nat → Nat} {Q : State → Prop} (C : pC p s m args c cX8_trace "AskedCamp$Sleuth" 4 D ad ca kz) (hR : 6 ≤ R.frames ∧ 154 ≤ R.locals) {n : Nat} {a1 : Nat} (ha1 : pis a1 5) (o : Int32 × PS) (hx0 : PW p l e R s m args below meth c 4 D ad ca 0 0 Q (o.2) 97 [(0, .ref (ad (224))), (1, .ref (ad (a1))), (2, .int o.1)] []) : ∀ (k : Nat) (x2 : Int32) (x3 : Int32) (σ : PS), L_X8_trace_55 n a1 k x2 x3 σ = some o → PW p l e R s m args below meth c 4 D ad ca 0 0 Q σ 55 [(0, .ref (ad (224))), (1, .ref (ad (a1))), (2, .int x2), (3, .int x3)] [] := by
  intro k
  induction k with
  | zero => intro x2 x3 σ hF; exact nomatch (show (none : Option (Int32 × PS)) = some o from hF)
  | succ k ih =>
    intro x2 x3 σ hF
    rw [L_X8_trace_55] at hF
    refine q_iload_n C 3 dX8_trace_55 rfl rfl ?_
    refine q_bipush (v := 60) C dX8_trace_56 (by decide) ?_
    refine q_icmp_gt (tgt := 97) C dX8_trace_58 (by decide) (fun c7 => ?_) (fun c7 => ?_)
    · replace hF := ift c7 hF
      cases hF
      refine q_sub [0, 1, 2] rfl ?_
      exact hx0
    · replace hF := ife c7 hF
      refine q_aload_n C 0 dX8_trace_61 rfl rfl ?_
      refine qg_7_4 C pi_224 tw_334 dX8_trace_62 ?_
      refine q_iload_n C 2 dX8_trace_65 rfl rfl ?_
      obtain ⟨g8, hF⟩ := grd hF
      refine q_aald27 C pa_231 (vp_of g8) dX8_trace_66 ?_
      refine q_iload_n C 3 dX8_trace_67 rfl rfl ?_
      refine q_aload_n C 0 dX8_trace_68 rfl rfl ?_
      refine qg_7_3 C pi_224 tw_333 dX8_trace_69 ?_
      refine qg_9_2 C pi_225 tw_164 dX8_trace_72 ?_
      obtain ⟨g9, hF⟩ := grd hF
      refine q_iast C (pk27 (vp_lt (vp_of g8))) (vp_of g9) dX8_trace_75 ?_
      refine q_aload_n C 0 dX8_trace_76 rfl rfl ?_
      refine qg_7_2 C pi_224 tw_332 dX8_trace_77 ?_
      refine q_aload_n C 0 dX8_trace_80 rfl rfl ?_
      refine qg_7_3 C pi_224 tw_333 dX8_trace_81 ?_
      refine q_iload_n C 2 dX8_trace_84 rfl rfl ?_
      refine q_iconst (v := 1) C dX8_trace_85 (by decide) ?_
      refine q_isub C dX8_trace_86 ?_
      refine q_iconst (v := 1) C dX8_trace_87 (by decide) ?_
      obtain ⟨q10, h11, hF⟩ := bnd hF
      try dsimp only at hF
      refine q_callVv C [.ref (ad (225)), .int (x2 - (1 : Int32)), .int 1] (c_X4_stride l D ad ca kz C.2.2.2.2.2.2.1 _ pi_225 _ _ _ _ h11) tw_1008 gm_X4_stride pi_7.1 (pe_3 pi_7.2) rfl ⟨rfl, rfl⟩ ⟨Nat.le_trans (Nat.le_of_ble_eq_true rfl) hR.1, Nat.le_trans (Nat.le_of_ble_eq_true rfl) hR.2⟩ rfl (Nat.le_of_ble_eq_true rfl) dX8_trace_88 q00 ?_
      refine q_iinc C 3 [(3, .int (x3 + 1)), (0, .ref (ad (224))), (1, .ref (ad (a1))), (2, .int x2)] dX8_trace_91 rfl rfl (by decide) rfl ?_
      refine q_goto (tgt := 55) C dX8_trace_94 (by decide) ?_
      refine q_sub [1, 2, 3, 0] rfl ?_
      exact ih _ _ _ hF
set_option maxHeartbeats 4000000 in
set_option maxRecDepth 100000 in
theorem l_X8_trace_2 {p : Program} {l : Launch} {e : Env} {R : Room} {s : State} {m : MethodId} {args : Array Value} {below : List Frame} {meth : Method} {c : Code} {D : va_G} {ad : Nat → Nat} {ca : Nat → ClassId} {kz : Nat → Nat} {Q : State → Prop} (C : pC p s m args c cX8_trace "AskedCamp$Sleuth" 4 D ad ca kz) (hR : 6 ≤ R.frames ∧ 154 ≤ R.locals) {n : Nat} {a1 : Nat} (ha1 : pis a1 5) (o : PS) (hx0 : PW p l e R s m args below meth c 4 D ad ca 0 0 Q (o) 115 [] []) : ∀ (k : Nat) (x2 : Int32) (σ : PS), L_X8_trace_2 n a1 k x2 σ = some o → PW p l e R s m args below meth c 4 D ad ca 0 0 Q σ 2 [(0, .ref (ad (224))), (1, .ref (ad (a1))), (2, .int x2)] [] := by
  intro k
  induction k with
  | zero => intro x2 σ hF; exact nomatch (show (none : Option (PS)) = some o from hF)
  | succ k ih =>
    intro x2 σ hF
    rw [L_X8_trace_2] at hF
    refine q_iload_n C 2 dX8_trace_2 rfl rfl ?_
    refine q_bipush (v := 7) C dX8_trace_3 (by decide) ?_
    refine q_icmp_ge (tgt := 115) C dX8_trace_5 (by decide) (fun c1 => ?_) (fun c1 => ?_)
    · replace hF := ift c1 hF
      cases hF
      refine q_sub [] rfl ?_
      exact hx0
    · replace hF := ife c1 hF
      refine q_aload_n C 0 dX8_trace_8 rfl rfl ?_
      refine qg_7_5 C pi_224 tw_335 dX8_trace_9 ?_
      refine q_iload_n C 2 dX8_trace_12 rfl rfl ?_
      refine q_iload_n C 2 dX8_trace_13 rfl rfl ?_
      refine q_aload_n C 0 dX8_trace_14 rfl rfl ?_
      refine qg_7_2 C pi_224 tw_332 dX8_trace_15 ?_
      refine qg_3_0 C pi_7 tw_119 dX8_trace_18 ?_
      refine q_icmp_gt (tgt := 28) C dX8_trace_21 (by decide) (fun c2 => ?_) (fun c2 => ?_)
      · replace hF := ift c2 hF
        refine q_iconst (v := 0) C dX8_trace_28 (by decide) ?_
        obtain ⟨g3, hF⟩ := grd hF
        refine q_zast C pa_239 (vp_of g3) dX8_trace_29 ?_
        refine q_aload_n C 0 dX8_trace_30 rfl rfl ?_
        refine qg_7_5 C pi_224 tw_335 dX8_trace_31 ?_
        refine q_iload_n C 2 dX8_trace_34 rfl rfl ?_
        refine q_zald C pa_239 (vp_of g3) dX8_trace_35 ?_
        refine q_if_ne (tgt := 42) C dX8_trace_36 (by decide) (fun c4 => ?_) (fun c4 => ?_)
        · replace hF := ife c4 hF
          refine q_aload_n C 0 dX8_trace_42 rfl rfl ?_
          refine qg_7_3 C pi_224 tw_333 dX8_trace_43 ?_
          refine q_aload_n C 1 dX8_trace_46 rfl rfl ?_
          refine qg_5_0 C ha1 tw_228 dX8_trace_47 ?_
          obtain ⟨q5, h6, hF⟩ := bnd hF
          try dsimp only at hF
          refine q_callVv C [.ref (ad (a1 + 1))] (c_X10_copyFrom l D ad ca kz C.2.2.2.2.2.2.1 _ pi_225 (pkS ha1).1 _ _ h6) tw_1007 gm_X10_copyFrom pi_225.1 (pe_9 pi_225.2) rfl ⟨rfl, rfl⟩ ⟨Nat.le_trans (Nat.le_of_ble_eq_true rfl) hR.1, Nat.le_trans (Nat.le_of_ble_eq_true rfl) hR.2⟩ rfl (Nat.le_of_ble_eq_true rfl) dX8_trace_50 q00 ?_
          refine q_iconst (v := 0) C dX8_trace_53 (by decide) ?_
          refine q_istore_n C [(3, .int 0), (0, .ref (ad (224))), (1, .ref (ad (a1))), (2, .int x2)] dX8_trace_54 rfl (by decide) rfl ?_
          obtain ⟨o7, h8, hF⟩ := bnd hF
          try dsimp only at hF
          refine q_sub [1, 2, 3, 0] rfl ?_
          refine l_X8_trace_55 C ⟨hR.1, hR.2⟩ ha1 o7 ?_ n _ _ _ h8
          refine q_aload_n C 0 dX8_trace_97 rfl rfl ?_
          refine qg_7_5 C pi_224 tw_335 dX8_trace_98 ?_
          refine q_iload_n C 2 dX8_trace_101 rfl rfl ?_
          refine q_aload_n C 0 dX8_trace_102 rfl rfl ?_
          refine q_aload_n C 1 dX8_trace_103 rfl rfl ?_
          refine q_iload_n C 2 dX8_trace_104 rfl rfl ?_
          obtain ⟨q9, h10, hF⟩ := bnd hF
          try dsimp only at hF
          refine q_callVi C [.ref (ad (a1)), .int o7.1] (c_X8_agrees l D ad ca kz C.2.2.2.2.2.2.1 _ ha1 _ _ _ h10) tw_1009 gm_X8_agrees pi_224.1 (pe_7 pi_224.2) rfl ⟨rfl, rfl⟩ ⟨Nat.le_trans (Nat.le_of_ble_eq_true rfl) hR.1, Nat.le_trans (Nat.le_of_ble_eq_true rfl) hR.2⟩ rfl (Nat.le_of_ble_eq_true rfl) dX8_trace_105 q00 ?_
          obtain ⟨g11, hF⟩ := grd hF
          refine q_zast C pa_239 (vp_of g11) dX8_trace_108 ?_
          refine q_iinc C 2 [(2, .int (o7.1 + 1)), (0, .ref (ad (224))), (1, .ref (ad (a1)))] dX8_trace_109 rfl rfl (by decide) rfl ?_
          refine q_goto (tgt := 2) C dX8_trace_112 (by decide) ?_
          refine q_sub [1, 2, 0] rfl ?_
          exact ih _ _ hF
        · replace hF := ift c4 hF
          refine q_goto (tgt := 109) C dX8_trace_39 (by decide) ?_
          refine q_iinc C 2 [(2, .int (x2 + 1)), (0, .ref (ad (224))), (1, .ref (ad (a1)))] dX8_trace_109 rfl rfl (by decide) rfl ?_
          refine q_goto (tgt := 2) C dX8_trace_112 (by decide) ?_
          refine q_sub [1, 2, 0] rfl ?_
          exact ih _ _ hF
      · replace hF := ife c2 hF
        refine q_iconst (v := 1) C dX8_trace_24 (by decide) ?_
        refine q_goto (tgt := 29) C dX8_trace_25 (by decide) ?_
        obtain ⟨g12, hF⟩ := grd hF
        refine q_zast C pa_239 (vp_of g12) dX8_trace_29 ?_
        refine q_aload_n C 0 dX8_trace_30 rfl rfl ?_
        refine qg_7_5 C pi_224 tw_335 dX8_trace_31 ?_
        refine q_iload_n C 2 dX8_trace_34 rfl rfl ?_
        refine q_zald C pa_239 (vp_of g12) dX8_trace_35 ?_
        refine q_if_ne (tgt := 42) C dX8_trace_36 (by decide) (fun c13 => ?_) (fun c13 => ?_)
        · replace hF := ife c13 hF
          refine q_aload_n C 0 dX8_trace_42 rfl rfl ?_
          refine qg_7_3 C pi_224 tw_333 dX8_trace_43 ?_
          refine q_aload_n C 1 dX8_trace_46 rfl rfl ?_
          refine qg_5_0 C ha1 tw_228 dX8_trace_47 ?_
          obtain ⟨q14, h15, hF⟩ := bnd hF
          try dsimp only at hF
          refine q_callVv C [.ref (ad (a1 + 1))] (c_X10_copyFrom l D ad ca kz C.2.2.2.2.2.2.1 _ pi_225 (pkS ha1).1 _ _ h15) tw_1007 gm_X10_copyFrom pi_225.1 (pe_9 pi_225.2) rfl ⟨rfl, rfl⟩ ⟨Nat.le_trans (Nat.le_of_ble_eq_true rfl) hR.1, Nat.le_trans (Nat.le_of_ble_eq_true rfl) hR.2⟩ rfl (Nat.le_of_ble_eq_true rfl) dX8_trace_50 q00 ?_
          refine q_iconst (v := 0) C dX8_trace_53 (by decide) ?_
          refine q_istore_n C [(3, .int 0), (0, .ref (ad (224))), (1, .ref (ad (a1))), (2, .int x2)] dX8_trace_54 rfl (by decide) rfl ?_
          obtain ⟨o16, h17, hF⟩ := bnd hF
          try dsimp only at hF
          refine q_sub [1, 2, 3, 0] rfl ?_
          refine l_X8_trace_55 C ⟨hR.1, hR.2⟩ ha1 o16 ?_ n _ _ _ h17
          refine q_aload_n C 0 dX8_trace_97 rfl rfl ?_
          refine qg_7_5 C pi_224 tw_335 dX8_trace_98 ?_
          refine q_iload_n C 2 dX8_trace_101 rfl rfl ?_
          refine q_aload_n C 0 dX8_trace_102 rfl rfl ?_
          refine q_aload_n C 1 dX8_trace_103 rfl rfl ?_
          refine q_iload_n C 2 dX8_trace_104 rfl rfl ?_
          obtain ⟨q18, h19, hF⟩ := bnd hF
          try dsimp only at hF
          refine q_callVi C [.ref (ad (a1)), .int o16.1] (c_X8_agrees l D ad ca kz C.2.2.2.2.2.2.1 _ ha1 _ _ _ h19) tw_1009 gm_X8_agrees pi_224.1 (pe_7 pi_224.2) rfl ⟨rfl, rfl⟩ ⟨Nat.le_trans (Nat.le_of_ble_eq_true rfl) hR.1, Nat.le_trans (Nat.le_of_ble_eq_true rfl) hR.2⟩ rfl (Nat.le_of_ble_eq_true rfl) dX8_trace_105 q00 ?_
          obtain ⟨g20, hF⟩ := grd hF
          refine q_zast C pa_239 (vp_of g20) dX8_trace_108 ?_
          refine q_iinc C 2 [(2, .int (o16.1 + 1)), (0, .ref (ad (224))), (1, .ref (ad (a1)))] dX8_trace_109 rfl rfl (by decide) rfl ?_
          refine q_goto (tgt := 2) C dX8_trace_112 (by decide) ?_
          refine q_sub [1, 2, 0] rfl ?_
          exact ih _ _ hF
        · replace hF := ift c13 hF
          refine q_goto (tgt := 109) C dX8_trace_39 (by decide) ?_
          refine q_iinc C 2 [(2, .int (x2 + 1)), (0, .ref (ad (224))), (1, .ref (ad (a1)))] dX8_trace_109 rfl rfl (by decide) rfl ?_
          refine q_goto (tgt := 2) C dX8_trace_112 (by decide) ?_
          refine q_sub [1, 2, 0] rfl ?_
          exact ih _ _ hF
set_option maxHeartbeats 4000000 in
set_option maxRecDepth 100000 in
theorem c_X8_trace (l : Launch) (D : va_G) (ad : Nat → Nat) (ca : Nat → ClassId) (kz : Nat → Nat) (hJ : pInj ad) (n : Nat) {a1 : Nat} (ha1 : pis a1 5) (σ : PS) (out : PS) (hF : F_X8_trace n a1 σ = some out) : Met l yX8_trace (Cond.code yX8_trace cX8_trace 4 (Option.none : Option Jvm.ClassFile.FieldType) :: gw_tbl) { frames := 6, cells := 0, slots := 0, locals := 154 } (va_Pc [.ref (ad (224)), .ref (ad (a1))] (pU D ad ca kz σ)) (pQv D ad ca out) 0 0 (pAD ad) := by
  refine q_entry (own := "AskedCamp$Sleuth") hJ (by decide) rfl (Nat.le_of_ble_eq_true rfl) (fun p e s m below meth c C hr hlk => ?_)
  refine q_lv [(0, .ref (ad (224))), (1, .ref (ad (a1)))] rfl ?_
  rw [F_X8_trace] at hF
  refine q_iconst (v := 0) C dX8_trace_0 (by decide) ?_
  refine q_istore_n C [(2, .int 0), (0, .ref (ad (224))), (1, .ref (ad (a1)))] dX8_trace_1 rfl (by decide) rfl ?_
  obtain ⟨o21, h22, hF⟩ := bnd hF
  try dsimp only at hF
  refine q_sub [1, 2, 0] rfl ?_
  refine l_X8_trace_2 C ⟨Nat.le_of_ble_eq_true rfl, Nat.le_of_ble_eq_true rfl⟩ ha1 o21 ?_ n _ _ h22
  exact q_vret C hr hlk dX8_trace_115 hF
-- X11_look
def F_X11_look (n : Nat) (a1 : Int32) (σ : PS) : Option (Int32 × PS) := (F_X10_isPitched n 25 σ).bind (fun q1 => (if q1.1 = 0 then some ((-1 : Int32), q1.2) else (if a1 < 0 then some ((-1 : Int32), q1.2) else (if a1 ≤ (1 : Int32) then (F_X8_trace n 18 q1.2).bind (fun q6 => (F_X8_findParting n q6).bind (fun q8 => (if a1 = 0 then some ((q8.1 224 0), q8) else some ((q8.1 224 1), q8)))) else some ((-1 : Int32), q1.2)))))
theorem gm_X11_look : gM "AskedCamp" yX11_look (Cond.code yX11_look cX11_look 2 (Option.some Jvm.ClassFile.FieldType.int)) 1 := ⟨by decide +kernel, tw_1022, tw_1023, tw_1, tw_1024⟩
set_option maxHeartbeats 4000000 in
set_option maxRecDepth 100000 in
theorem c_X11_look (l : Launch) (D : va_G) (ad : Nat → Nat) (ca : Nat → ClassId) (kz : Nat → Nat) (hJ : pInj ad) (n : Nat) (a1 : Int32) (σ : PS) (out : Int32 × PS) (hF : F_X11_look n a1 σ = some out) : Met l yX11_look (Cond.code yX11_look cX11_look 2 (Option.some Jvm.ClassFile.FieldType.int) :: gw_tbl) { frames := 7, cells := 0, slots := 0, locals := 177 } (va_Pc [.ref (ad (0)), .int a1] (pU D ad ca kz σ)) (pQi D ad ca out) 0 0 (pAD ad) := by
  refine q_entry (own := "AskedCamp") hJ (by decide) rfl (Nat.le_of_ble_eq_true rfl) (fun p e s m below meth c C hr hlk => ?_)
  refine q_lv [(0, .ref (ad (0))), (1, .int a1)] rfl ?_
  rw [F_X11_look] at hF
  refine q_aload_n C 0 dX11_look_0 rfl rfl ?_
  refine qg_10_4 C pi_0 tw_384 dX11_look_1 ?_
  refine qg_5_1 C pi_18 tw_232 dX11_look_4 ?_
  obtain ⟨q1, h2, hF⟩ := bnd hF
  try dsimp only at hF
  refine q_callVi C [] (c_X10_isPitched l D ad ca kz C.2.2.2.2.2.2.1 _ pi_25 _ _ h2) tw_687 gm_X10_isPitched pi_25.1 (pe_9 pi_25.2) rfl ⟨rfl, rfl⟩ ⟨Nat.le_of_ble_eq_true rfl, Nat.le_of_ble_eq_true rfl⟩ rfl (Nat.le_of_ble_eq_true rfl) dX11_look_7 q00 ?_
  refine q_if_eq (tgt := 22) C dX11_look_10 (by decide) (fun c3 => ?_) (fun c3 => ?_)
  · replace hF := ift c3 hF
    refine q_iconst (v := -1) C dX11_look_22 (by decide) ?_
    exact q_iret C hr hlk dX11_look_23 hF
  · replace hF := ife c3 hF
    refine q_iload_n C 1 dX11_look_13 rfl rfl ?_
    refine q_if_lt (tgt := 22) C dX11_look_14 (by decide) (fun c4 => ?_) (fun c4 => ?_)
    · replace hF := ift c4 hF
      refine q_iconst (v := -1) C dX11_look_22 (by decide) ?_
      exact q_iret C hr hlk dX11_look_23 hF
    · replace hF := ife c4 hF
      refine q_iload_n C 1 dX11_look_17 rfl rfl ?_
      refine q_iconst (v := 1) C dX11_look_18 (by decide) ?_
      refine q_icmp_le (tgt := 24) C dX11_look_19 (by decide) (fun c5 => ?_) (fun c5 => ?_)
      · replace hF := ift c5 hF
        refine q_aload_n C 0 dX11_look_24 rfl rfl ?_
        refine qg_10_8 C pi_0 tw_388 dX11_look_25 ?_
        refine q_aload_n C 0 dX11_look_28 rfl rfl ?_
        refine qg_10_4 C pi_0 tw_384 dX11_look_29 ?_
        obtain ⟨q6, h7, hF⟩ := bnd hF
        try dsimp only at hF
        refine q_callVv C [.ref (ad (18))] (c_X8_trace l D ad ca kz C.2.2.2.2.2.2.1 _ pi_18 _ _ h7) tw_1003 gm_X8_trace pi_224.1 (pe_7 pi_224.2) rfl ⟨rfl, rfl⟩ ⟨Nat.le_of_ble_eq_true rfl, Nat.le_of_ble_eq_true rfl⟩ rfl (Nat.le_of_ble_eq_true rfl) dX11_look_32 q00 ?_
        refine q_aload_n C 0 dX11_look_35 rfl rfl ?_
        refine qg_10_8 C pi_0 tw_388 dX11_look_36 ?_
        obtain ⟨q8, h9, hF⟩ := bnd hF
        try dsimp only at hF
        refine q_callVv C [] (c_X8_findParting l D ad ca kz C.2.2.2.2.2.2.1 _ _ _ h9) tw_1025 gm_X8_findParting pi_224.1 (pe_7 pi_224.2) rfl ⟨rfl, rfl⟩ ⟨Nat.le_of_ble_eq_true rfl, Nat.le_of_ble_eq_true rfl⟩ rfl (Nat.le_of_ble_eq_true rfl) dX11_look_39 q00 ?_
        refine q_iload_n C 1 dX11_look_42 rfl rfl ?_
        refine q_if_ne (tgt := 56) C dX11_look_43 (by decide) (fun c10 => ?_) (fun c10 => ?_)
        · replace hF := ife c10 hF
          refine q_aload_n C 0 dX11_look_56 rfl rfl ?_
          refine qg_10_8 C pi_0 tw_388 dX11_look_57 ?_
          refine qg_7_1 C pi_224 tw_331 dX11_look_60 ?_
          exact q_iret C hr hlk dX11_look_63 hF
        · replace hF := ift c10 hF
          refine q_aload_n C 0 dX11_look_46 rfl rfl ?_
          refine qg_10_8 C pi_0 tw_388 dX11_look_47 ?_
          refine qg_7_0 C pi_224 tw_329 dX11_look_50 ?_
          refine q_goto (tgt := 63) C dX11_look_53 (by decide) ?_
          exact q_iret C hr hlk dX11_look_63 hF
      · replace hF := ife c5 hF
        refine q_iconst (v := -1) C dX11_look_22 (by decide) ?_
        exact q_iret C hr hlk dX11_look_23 hF
-- X2_findMostAsked
def L_X2_findMostAsked_40 (n : Nat) (a1 : Nat) : Nat → Int32 → PS → Option (PS)
  | 0, _, _ => none
  | k + 1, x3, σ => (if (σ.1 217 5) ≤ x3 then some σ else (if 0 ≤ x3 ∧ x3.toNatClampNeg < 6 then (if (σ.1 216 3) = (-2 : Int32) then L_X2_findMostAsked_40 n a1 k (x3 + 1) (psI (psI σ 216 3 x3) 216 4 ((σ.1 220 x3.toNatClampNeg) - (σ.1 (a1 + 7 + 3) x3.toNatClampNeg))) else (if ((σ.1 220 x3.toNatClampNeg) - (σ.1 (a1 + 7 + 3) x3.toNatClampNeg)) ≤ (σ.1 216 4) then L_X2_findMostAsked_40 n a1 k (x3 + 1) σ else L_X2_findMostAsked_40 n a1 k (x3 + 1) (psI (psI σ 216 3 x3) 216 4 ((σ.1 220 x3.toNatClampNeg) - (σ.1 (a1 + 7 + 3) x3.toNatClampNeg))))) else none))
def F_X2_findMostAsked (n : Nat) (a1 : Nat) (a2 : Int32) (σ : PS) : Option (PS) := (F_X10_copyFrom n 217 (a1 + 7) σ).bind (fun q1 => (F_X4_stride n 217 (q1.1 a1 5) a2 q1).bind (fun q3 => (L_X2_findMostAsked_40 n a1 n (0 : Int32) (psI (psI q3 216 3 (-2 : Int32)) 216 4 (0 : Int32))).bind (fun o9 => some o9)))
theorem gm_X2_findMostAsked : gM "AskedCamp$Foresight" yX2_findMostAsked (Cond.code yX2_findMostAsked cX2_findMostAsked 5 (Option.none : Option Jvm.ClassFile.FieldType)) 2 := ⟨by decide +kernel, tw_866, tw_867, tw_9, tw_868⟩
set_option maxHeartbeats 4000000 in
set_option maxRecDepth 100000 in
theorem l_X2_findMostAsked_40 {p : Program} {l : Launch} {e : Env} {R : Room} {s : State} {m : MethodId} {args : Array Value} {below : List Frame} {meth : Method} {c : Code} {D : va_G} {ad : Nat → Nat} {ca : Nat → ClassId} {kz : Nat → Nat} {Q : State → Prop} (C : pC p s m args c cX2_findMostAsked "AskedCamp$Foresight" 5 D ad ca kz) (hR : 6 ≤ R.frames ∧ 154 ≤ R.locals) {n : Nat} {a1 : Nat} (ha1 : pis a1 5) (o : PS) (hx0 : PW p l e R s m args below meth c 5 D ad ca 0 0 Q (o) 107 [] []) : ∀ (k : Nat) (x3 : Int32) (σ : PS), L_X2_findMostAsked_40 n a1 k x3 σ = some o → PW p l e R s m args below meth c 5 D ad ca 0 0 Q σ 40 [(0, .ref (ad (216))), (1, .ref (ad (a1))), (3, .int x3)] [] := by
  intro k
  induction k with
  | zero => intro x3 σ hF; exact nomatch (show (none : Option (PS)) = some o from hF)
  | succ k ih =>
    intro x3 σ hF
    rw [L_X2_findMostAsked_40] at hF
    refine q_iload_n C 2 dX2_findMostAsked_40 rfl rfl ?_
    refine q_aload_n C 0 dX2_findMostAsked_41 rfl rfl ?_
    refine qg_2_0 C pi_216 tw_293 dX2_findMostAsked_42 ?_
    refine qg_9_5 C pi_217 tw_180 dX2_findMostAsked_45 ?_
    refine q_icmp_ge (tgt := 107) C dX2_findMostAsked_48 (by decide) (fun c5 => ?_) (fun c5 => ?_)
    · replace hF := ift c5 hF
      cases hF
      refine q_sub [] rfl ?_
      exact hx0
    · replace hF := ife c5 hF
      refine q_aload_n C 0 dX2_findMostAsked_51 rfl rfl ?_
      refine qg_2_0 C pi_216 tw_293 dX2_findMostAsked_52 ?_
      refine qg_9_9 C pi_217 tw_194 dX2_findMostAsked_55 ?_
      refine q_iload_n C 2 dX2_findMostAsked_58 rfl rfl ?_
      obtain ⟨g6, hF⟩ := grd hF
      refine q_iald C pa_220 (vp_of g6) dX2_findMostAsked_59 ?_
      refine q_aload_n C 1 dX2_findMostAsked_60 rfl rfl ?_
      refine qg_5_1 C ha1 tw_231 dX2_findMostAsked_61 ?_
      refine qg_9_9 C (pkS ha1).2.1 tw_194 dX2_findMostAsked_64 ?_
      refine q_iload_n C 2 dX2_findMostAsked_67 rfl rfl ?_
      refine q_iald C (pkW (pkS ha1).2.1).2.2.1 (vp_of g6) dX2_findMostAsked_68 ?_
      refine q_isub C dX2_findMostAsked_69 ?_
      refine q_istore C [(4, .int ((σ.1 220 x3.toNatClampNeg) - (σ.1 (a1 + 7 + 3) x3.toNatClampNeg))), (0, .ref (ad (216))), (1, .ref (ad (a1))), (3, .int x3)] dX2_findMostAsked_70 (by decide) rfl ?_
      refine q_aload_n C 1 dX2_findMostAsked_72 rfl rfl ?_
      refine qg_2_3 C pi_216 tw_297 dX2_findMostAsked_73 ?_
      refine q_bipush (v := -2) C dX2_findMostAsked_76 (by decide) ?_
      refine q_icmp_eq (tgt := 90) C dX2_findMostAsked_78 (by decide) (fun c7 => ?_) (fun c7 => ?_)
      · replace hF := ift c7 hF
        refine q_aload_n C 1 dX2_findMostAsked_90 rfl rfl ?_
        refine q_iload_n C 3 dX2_findMostAsked_91 rfl rfl ?_
        refine qs_2_3 C pi_216 tw_297 dX2_findMostAsked_92 ?_
        refine q_aload_n C 1 dX2_findMostAsked_95 rfl rfl ?_
        refine q_iload C 0 dX2_findMostAsked_96 rfl ?_
        refine qs_2_4 C pi_216 tw_299 dX2_findMostAsked_98 ?_
        refine q_iinc C 3 [(3, .int (x3 + 1)), (4, .int ((σ.1 220 x3.toNatClampNeg) - (σ.1 (a1 + 7 + 3) x3.toNatClampNeg))), (0, .ref (ad (216))), (1, .ref (ad (a1)))] dX2_findMostAsked_101 rfl rfl (by decide) rfl ?_
        refine q_goto (tgt := 40) C dX2_findMostAsked_104 (by decide) ?_
        refine q_sub [2, 3, 0] rfl ?_
        exact ih _ _ hF
      · replace hF := ife c7 hF
        refine q_iload C 0 dX2_findMostAsked_81 rfl ?_
        refine q_aload_n C 1 dX2_findMostAsked_83 rfl rfl ?_
        refine qg_2_4 C pi_216 tw_299 dX2_findMostAsked_84 ?_
        refine q_icmp_le (tgt := 101) C dX2_findMostAsked_87 (by decide) (fun c8 => ?_) (fun c8 => ?_)
        · replace hF := ift c8 hF
          refine q_iinc C 3 [(3, .int (x3 + 1)), (4, .int ((σ.1 220 x3.toNatClampNeg) - (σ.1 (a1 + 7 + 3) x3.toNatClampNeg))), (0, .ref (ad (216))), (1, .ref (ad (a1)))] dX2_findMostAsked_101 rfl rfl (by decide) rfl ?_
          refine q_goto (tgt := 40) C dX2_findMostAsked_104 (by decide) ?_
          refine q_sub [2, 3, 0] rfl ?_
          exact ih _ _ hF
        · replace hF := ife c8 hF
          refine q_aload_n C 1 dX2_findMostAsked_90 rfl rfl ?_
          refine q_iload_n C 3 dX2_findMostAsked_91 rfl rfl ?_
          refine qs_2_3 C pi_216 tw_297 dX2_findMostAsked_92 ?_
          refine q_aload_n C 1 dX2_findMostAsked_95 rfl rfl ?_
          refine q_iload C 0 dX2_findMostAsked_96 rfl ?_
          refine qs_2_4 C pi_216 tw_299 dX2_findMostAsked_98 ?_
          refine q_iinc C 3 [(3, .int (x3 + 1)), (4, .int ((σ.1 220 x3.toNatClampNeg) - (σ.1 (a1 + 7 + 3) x3.toNatClampNeg))), (0, .ref (ad (216))), (1, .ref (ad (a1)))] dX2_findMostAsked_101 rfl rfl (by decide) rfl ?_
          refine q_goto (tgt := 40) C dX2_findMostAsked_104 (by decide) ?_
          refine q_sub [2, 3, 0] rfl ?_
          exact ih _ _ hF
set_option maxHeartbeats 4000000 in
set_option maxRecDepth 100000 in
theorem c_X2_findMostAsked (l : Launch) (D : va_G) (ad : Nat → Nat) (ca : Nat → ClassId) (kz : Nat → Nat) (hJ : pInj ad) (n : Nat) {a1 : Nat} (ha1 : pis a1 5) (a2 : Int32) (σ : PS) (out : PS) (hF : F_X2_findMostAsked n a1 a2 σ = some out) : Met l yX2_findMostAsked (Cond.code yX2_findMostAsked cX2_findMostAsked 5 (Option.none : Option Jvm.ClassFile.FieldType) :: gw_tbl) { frames := 6, cells := 0, slots := 0, locals := 154 } (va_Pc [.ref (ad (216)), .ref (ad (a1)), .int a2] (pU D ad ca kz σ)) (pQv D ad ca out) 0 0 (pAD ad) := by
  refine q_entry (own := "AskedCamp$Foresight") hJ (by decide) rfl (Nat.le_of_ble_eq_true rfl) (fun p e s m below meth c C hr hlk => ?_)
  refine q_lv [(0, .ref (ad (216))), (1, .ref (ad (a1))), (2, .int a2)] rfl ?_
  rw [F_X2_findMostAsked] at hF
  refine q_aload_n C 0 dX2_findMostAsked_0 rfl rfl ?_
  refine qg_2_0 C pi_216 tw_293 dX2_findMostAsked_1 ?_
  refine q_aload_n C 1 dX2_findMostAsked_4 rfl rfl ?_
  refine qg_5_1 C ha1 tw_231 dX2_findMostAsked_5 ?_
  obtain ⟨q1, h2, hF⟩ := bnd hF
  try dsimp only at hF
  refine q_callVv C [.ref (ad (a1 + 7))] (c_X10_copyFrom l D ad ca kz C.2.2.2.2.2.2.1 _ pi_217 (pkS ha1).2.1 _ _ h2) tw_843 gm_X10_copyFrom pi_217.1 (pe_9 pi_217.2) rfl ⟨rfl, rfl⟩ ⟨Nat.le_of_ble_eq_true rfl, Nat.le_of_ble_eq_true rfl⟩ rfl (Nat.le_of_ble_eq_true rfl) dX2_findMostAsked_8 q00 ?_
  refine q_aload_n C 0 dX2_findMostAsked_11 rfl rfl ?_
  refine qg_2_1 C pi_216 tw_295 dX2_findMostAsked_12 ?_
  refine q_aload_n C 0 dX2_findMostAsked_15 rfl rfl ?_
  refine qg_2_0 C pi_216 tw_293 dX2_findMostAsked_16 ?_
  refine q_aload_n C 1 dX2_findMostAsked_19 rfl rfl ?_
  refine qg_5_5 C ha1 tw_241 dX2_findMostAsked_20 ?_
  refine q_iload_n C 2 dX2_findMostAsked_23 rfl rfl ?_
  obtain ⟨q3, h4, hF⟩ := bnd hF
  try dsimp only at hF
  refine q_callVv C [.ref (ad (217)), .int (q1.1 a1 5), .int a2] (c_X4_stride l D ad ca kz C.2.2.2.2.2.2.1 _ pi_217 _ _ _ _ h4) tw_844 gm_X4_stride pi_7.1 (pe_3 pi_7.2) rfl ⟨rfl, rfl⟩ ⟨Nat.le_of_ble_eq_true rfl, Nat.le_of_ble_eq_true rfl⟩ rfl (Nat.le_of_ble_eq_true rfl) dX2_findMostAsked_24 q00 ?_
  refine q_aload_n C 0 dX2_findMostAsked_27 rfl rfl ?_
  refine q_bipush (v := -2) C dX2_findMostAsked_28 (by decide) ?_
  refine qs_2_3 C pi_216 tw_297 dX2_findMostAsked_30 ?_
  refine q_aload_n C 0 dX2_findMostAsked_33 rfl rfl ?_
  refine q_iconst (v := 0) C dX2_findMostAsked_34 (by decide) ?_
  refine qs_2_4 C pi_216 tw_299 dX2_findMostAsked_35 ?_
  refine q_iconst (v := 0) C dX2_findMostAsked_38 (by decide) ?_
  refine q_istore_n C [(3, .int 0), (0, .ref (ad (216))), (1, .ref (ad (a1))), (2, .int a2)] dX2_findMostAsked_39 rfl (by decide) rfl ?_
  obtain ⟨o9, h10, hF⟩ := bnd hF
  try dsimp only at hF
  refine q_sub [1, 2, 0] rfl ?_
  refine l_X2_findMostAsked_40 C ⟨Nat.le_of_ble_eq_true rfl, Nat.le_of_ble_eq_true rfl⟩ ha1 o9 ?_ n _ _ h10
  exact q_vret C hr hlk dX2_findMostAsked_107 hF
-- X11_most
def F_X11_most (n : Nat) (a1 : Int32) (a2 : Int32) (σ : PS) : Option (Int32 × PS) := (F_X10_isPitched n 25 σ).bind (fun q1 => (if q1.1 = 0 then some ((-1 : Int32), q1.2) else (if a1 < (1 : Int32) then some ((-1 : Int32), q1.2) else (if (100 : Int32) < a1 then some ((-1 : Int32), q1.2) else (if a2 < 0 then some ((-1 : Int32), q1.2) else (if a2 ≤ (1 : Int32) then (F_X2_findMostAsked n 18 a1 q1.2).bind (fun q8 => (if a2 = 0 then some ((q8.1 216 3), q8) else some ((q8.1 216 4), q8))) else some ((-1 : Int32), q1.2)))))))
theorem gm_X11_most : gM "AskedCamp" yX11_most (Cond.code yX11_most cX11_most 3 (Option.some Jvm.ClassFile.FieldType.int)) 2 := ⟨by decide +kernel, tw_862, tw_863, tw_1, tw_864⟩
set_option maxHeartbeats 4000000 in
set_option maxRecDepth 100000 in
theorem c_X11_most (l : Launch) (D : va_G) (ad : Nat → Nat) (ca : Nat → ClassId) (kz : Nat → Nat) (hJ : pInj ad) (n : Nat) (a1 : Int32) (a2 : Int32) (σ : PS) (out : Int32 × PS) (hF : F_X11_most n a1 a2 σ = some out) : Met l yX11_most (Cond.code yX11_most cX11_most 3 (Option.some Jvm.ClassFile.FieldType.int) :: gw_tbl) { frames := 7, cells := 0, slots := 0, locals := 178 } (va_Pc [.ref (ad (0)), .int a1, .int a2] (pU D ad ca kz σ)) (pQi D ad ca out) 0 0 (pAD ad) := by
  refine q_entry (own := "AskedCamp") hJ (by decide) rfl (Nat.le_of_ble_eq_true rfl) (fun p e s m below meth c C hr hlk => ?_)
  refine q_lv [(0, .ref (ad (0))), (1, .int a1), (2, .int a2)] rfl ?_
  rw [F_X11_most] at hF
  refine q_aload_n C 0 dX11_most_0 rfl rfl ?_
  refine qg_10_4 C pi_0 tw_384 dX11_most_1 ?_
  refine qg_5_1 C pi_18 tw_232 dX11_most_4 ?_
  obtain ⟨q1, h2, hF⟩ := bnd hF
  try dsimp only at hF
  refine q_callVi C [] (c_X10_isPitched l D ad ca kz C.2.2.2.2.2.2.1 _ pi_25 _ _ h2) tw_687 gm_X10_isPitched pi_25.1 (pe_9 pi_25.2) rfl ⟨rfl, rfl⟩ ⟨Nat.le_of_ble_eq_true rfl, Nat.le_of_ble_eq_true rfl⟩ rfl (Nat.le_of_ble_eq_true rfl) dX11_most_7 q00 ?_
  refine q_if_eq (tgt := 33) C dX11_most_10 (by decide) (fun c3 => ?_) (fun c3 => ?_)
  · replace hF := ift c3 hF
    refine q_iconst (v := -1) C dX11_most_33 (by decide) ?_
    exact q_iret C hr hlk dX11_most_34 hF
  · replace hF := ife c3 hF
    refine q_iload_n C 1 dX11_most_13 rfl rfl ?_
    refine q_iconst (v := 1) C dX11_most_14 (by decide) ?_
    refine q_icmp_lt (tgt := 33) C dX11_most_15 (by decide) (fun c4 => ?_) (fun c4 => ?_)
    · replace hF := ift c4 hF
      refine q_iconst (v := -1) C dX11_most_33 (by decide) ?_
      exact q_iret C hr hlk dX11_most_34 hF
    · replace hF := ife c4 hF
      refine q_iload_n C 1 dX11_most_18 rfl rfl ?_
      refine q_bipush (v := 100) C dX11_most_19 (by decide) ?_
      refine q_icmp_gt (tgt := 33) C dX11_most_21 (by decide) (fun c5 => ?_) (fun c5 => ?_)
      · replace hF := ift c5 hF
        refine q_iconst (v := -1) C dX11_most_33 (by decide) ?_
        exact q_iret C hr hlk dX11_most_34 hF
      · replace hF := ife c5 hF
        refine q_iload_n C 2 dX11_most_24 rfl rfl ?_
        refine q_if_lt (tgt := 33) C dX11_most_25 (by decide) (fun c6 => ?_) (fun c6 => ?_)
        · replace hF := ift c6 hF
          refine q_iconst (v := -1) C dX11_most_33 (by decide) ?_
          exact q_iret C hr hlk dX11_most_34 hF
        · replace hF := ife c6 hF
          refine q_iload_n C 2 dX11_most_28 rfl rfl ?_
          refine q_iconst (v := 1) C dX11_most_29 (by decide) ?_
          refine q_icmp_le (tgt := 35) C dX11_most_30 (by decide) (fun c7 => ?_) (fun c7 => ?_)
          · replace hF := ift c7 hF
            refine q_aload_n C 0 dX11_most_35 rfl rfl ?_
            refine qg_10_7 C pi_0 tw_387 dX11_most_36 ?_
            refine q_aload_n C 0 dX11_most_39 rfl rfl ?_
            refine qg_10_4 C pi_0 tw_384 dX11_most_40 ?_
            refine q_iload_n C 1 dX11_most_43 rfl rfl ?_
            obtain ⟨q8, h9, hF⟩ := bnd hF
            try dsimp only at hF
            refine q_callVv C [.ref (ad (18)), .int a1] (c_X2_findMostAsked l D ad ca kz C.2.2.2.2.2.2.1 _ pi_18 _ _ _ h9) tw_865 gm_X2_findMostAsked pi_216.1 (pe_2 pi_216.2) rfl ⟨rfl, rfl⟩ ⟨Nat.le_of_ble_eq_true rfl, Nat.le_of_ble_eq_true rfl⟩ rfl (Nat.le_of_ble_eq_true rfl) dX11_most_44 q00 ?_
            refine q_iload_n C 2 dX11_most_47 rfl rfl ?_
            refine q_if_ne (tgt := 61) C dX11_most_48 (by decide) (fun c10 => ?_) (fun c10 => ?_)
            · replace hF := ife c10 hF
              refine q_aload_n C 0 dX11_most_61 rfl rfl ?_
              refine qg_10_7 C pi_0 tw_387 dX11_most_62 ?_
              refine qg_2_4 C pi_216 tw_300 dX11_most_65 ?_
              exact q_iret C hr hlk dX11_most_68 hF
            · replace hF := ift c10 hF
              refine q_aload_n C 0 dX11_most_51 rfl rfl ?_
              refine qg_10_7 C pi_0 tw_387 dX11_most_52 ?_
              refine qg_2_3 C pi_216 tw_298 dX11_most_55 ?_
              refine q_goto (tgt := 68) C dX11_most_58 (by decide) ?_
              exact q_iret C hr hlk dX11_most_68 hF
          · replace hF := ife c7 hF
            refine q_iconst (v := -1) C dX11_most_33 (by decide) ?_
            exact q_iret C hr hlk dX11_most_34 hF
-- X6_writeDown
def F_X6_writeDown (n : Nat) (i : Nat) (a1 : Int32) (a2 : Int32) (σ : PS) : Option (Int32 × PS) := (if (σ.1 i 4) < (10 : Int32) then (if 0 ≤ (σ.1 i 4) ∧ (σ.1 i 4).toNatClampNeg < 10 then (if 0 ≤ ((psI σ (i + 13) ((σ.1 i 4).toNatClampNeg) a1).1 i 4) ∧ ((psI σ (i + 13) ((σ.1 i 4).toNatClampNeg) a1).1 i 4).toNatClampNeg < 10 then some ((1 : Int32), psI (psI (psI σ (i + 13) ((σ.1 i 4).toNatClampNeg) a1) (i + 14) (((psI σ (i + 13) ((σ.1 i 4).toNatClampNeg) a1).1 i 4).toNatClampNeg) a2) i 4 (((psI (psI σ (i + 13) ((σ.1 i 4).toNatClampNeg) a1) (i + 14) (((psI σ (i + 13) ((σ.1 i 4).toNatClampNeg) a1).1 i 4).toNatClampNeg) a2).1 i 4) + (1 : Int32))) else none) else none) else some ((0 : Int32), σ))
theorem gm_X6_writeDown : gM "AskedCamp$Scene" yX6_writeDown (Cond.code yX6_writeDown cX6_writeDown 3 (Option.some Jvm.ClassFile.FieldType.boolean)) 2 := ⟨by decide +kernel, tw_996, tw_997, tw_6, tw_998⟩
set_option maxHeartbeats 4000000 in
set_option maxRecDepth 100000 in
theorem c_X6_writeDown (l : Launch) (D : va_G) (ad : Nat → Nat) (ca : Nat → ClassId) (kz : Nat → Nat) (hJ : pInj ad) (n : Nat) {i : Nat} (hi : pis i 5) (a1 : Int32) (a2 : Int32) (σ : PS) (out : Int32 × PS) (hF : F_X6_writeDown n i a1 a2 σ = some out) : Met l yX6_writeDown (Cond.code yX6_writeDown cX6_writeDown 3 (Option.some Jvm.ClassFile.FieldType.boolean) :: gw_tbl) { frames := 0, cells := 0, slots := 0, locals := 0 } (va_Pc [.ref (ad (i)), .int a1, .int a2] (pU D ad ca kz σ)) (pQi D ad ca out) 0 0 (pAD ad) := by
  refine q_entry (own := "AskedCamp$Scene") hJ (by decide) rfl (Nat.le_of_ble_eq_true rfl) (fun p e s m below meth c C hr hlk => ?_)
  refine q_lv [(0, .ref (ad (i))), (1, .int a1), (2, .int a2)] rfl ?_
  rw [F_X6_writeDown] at hF
  refine q_aload_n C 0 dX6_writeDown_0 rfl rfl ?_
  refine qg_5_4 C hi tw_237 dX6_writeDown_1 ?_
  refine q_bipush (v := 10) C dX6_writeDown_4 (by decide) ?_
  refine q_icmp_lt (tgt := 11) C dX6_writeDown_6 (by decide) (fun c1 => ?_) (fun c1 => ?_)
  · replace hF := ift c1 hF
    refine q_aload_n C 0 dX6_writeDown_11 rfl rfl ?_
    refine qg_5_2 C hi tw_233 dX6_writeDown_12 ?_
    refine q_aload_n C 0 dX6_writeDown_15 rfl rfl ?_
    refine qg_5_4 C hi tw_237 dX6_writeDown_16 ?_
    refine q_iload_n C 1 dX6_writeDown_19 rfl rfl ?_
    obtain ⟨g2, hF⟩ := grd hF
    refine q_iast C (pkS hi).2.2.1 (vp_of g2) dX6_writeDown_20 ?_
    refine q_aload_n C 0 dX6_writeDown_21 rfl rfl ?_
    refine qg_5_3 C hi tw_235 dX6_writeDown_22 ?_
    refine q_aload_n C 0 dX6_writeDown_25 rfl rfl ?_
    refine qg_5_4 C hi tw_237 dX6_writeDown_26 ?_
    refine q_iload_n C 2 dX6_writeDown_29 rfl rfl ?_
    obtain ⟨g3, hF⟩ := grd hF
    refine q_iast C (pkS hi).2.2.2 (vp_of g3) dX6_writeDown_30 ?_
    refine q_aload_n C 0 dX6_writeDown_31 rfl rfl ?_
    refine q_dup C dX6_writeDown_32 rfl ?_
    refine qg_5_4 C hi tw_237 dX6_writeDown_33 ?_
    refine q_iconst (v := 1) C dX6_writeDown_36 (by decide) ?_
    refine q_iadd C dX6_writeDown_37 ?_
    refine qs_5_4 C hi tw_237 dX6_writeDown_38 ?_
    refine q_iconst (v := 1) C dX6_writeDown_41 (by decide) ?_
    exact q_zret C hr hlk dX6_writeDown_42 (by decide) hF
  · replace hF := ife c1 hF
    refine q_iconst (v := 0) C dX6_writeDown_9 (by decide) ?_
    exact q_zret C hr hlk dX6_writeDown_10 (by decide) hF
-- X11_note
def F_X11_note (n : Nat) (a1 : Int32) (a2 : Int32) (σ : PS) : Option (Int32 × PS) := (if a1 = (-1 : Int32) then some ((0 : Int32), psI σ 18 4 (0 : Int32)) else (if a1 < 0 then some ((-2 : Int32), σ) else (if (60 : Int32) < a1 then some ((-2 : Int32), σ) else (F_X10_hasCell n 25 a2 σ).bind (fun q4 => (if q4.1 = 0 then some ((-2 : Int32), q4.2) else (F_X6_writeDown n 18 a1 a2 q4.2).bind (fun q7 => (if q7.1 = 0 then some ((-2 : Int32), q7.2) else some ((q7.2.1 18 4), q7.2))))))))
theorem gm_X11_note : gM "AskedCamp" yX11_note (Cond.code yX11_note cX11_note 3 (Option.some Jvm.ClassFile.FieldType.int)) 2 := ⟨by decide +kernel, tw_992, tw_993, tw_1, tw_994⟩
set_option maxHeartbeats 4000000 in
set_option maxRecDepth 100000 in
theorem c_X11_note (l : Launch) (D : va_G) (ad : Nat → Nat) (ca : Nat → ClassId) (kz : Nat → Nat) (hJ : pInj ad) (n : Nat) (a1 : Int32) (a2 : Int32) (σ : PS) (out : Int32 × PS) (hF : F_X11_note n a1 a2 σ = some out) : Met l yX11_note (Cond.code yX11_note cX11_note 3 (Option.some Jvm.ClassFile.FieldType.int) :: gw_tbl) { frames := 1, cells := 0, slots := 0, locals := 22 } (va_Pc [.ref (ad (0)), .int a1, .int a2] (pU D ad ca kz σ)) (pQi D ad ca out) 0 0 (pAD ad) := by
  refine q_entry (own := "AskedCamp") hJ (by decide) rfl (Nat.le_of_ble_eq_true rfl) (fun p e s m below meth c C hr hlk => ?_)
  refine q_lv [(0, .ref (ad (0))), (1, .int a1), (2, .int a2)] rfl ?_
  rw [F_X11_note] at hF
  refine q_iload_n C 1 dX11_note_0 rfl rfl ?_
  refine q_iconst (v := -1) C dX11_note_1 (by decide) ?_
  refine q_icmp_ne (tgt := 15) C dX11_note_2 (by decide) (fun c1 => ?_) (fun c1 => ?_)
  · replace hF := ife c1 hF
    refine q_iload_n C 1 dX11_note_15 rfl rfl ?_
    refine q_if_lt (tgt := 51) C dX11_note_16 (by decide) (fun c2 => ?_) (fun c2 => ?_)
    · replace hF := ift c2 hF
      refine q_bipush (v := -2) C dX11_note_51 (by decide) ?_
      exact q_iret C hr hlk dX11_note_53 hF
    · replace hF := ife c2 hF
      refine q_iload_n C 1 dX11_note_19 rfl rfl ?_
      refine q_bipush (v := 60) C dX11_note_20 (by decide) ?_
      refine q_icmp_gt (tgt := 51) C dX11_note_22 (by decide) (fun c3 => ?_) (fun c3 => ?_)
      · replace hF := ift c3 hF
        refine q_bipush (v := -2) C dX11_note_51 (by decide) ?_
        exact q_iret C hr hlk dX11_note_53 hF
      · replace hF := ife c3 hF
        refine q_aload_n C 0 dX11_note_25 rfl rfl ?_
        refine qg_10_4 C pi_0 tw_384 dX11_note_26 ?_
        refine qg_5_1 C pi_18 tw_232 dX11_note_29 ?_
        refine q_iload_n C 2 dX11_note_32 rfl rfl ?_
        obtain ⟨q4, h5, hF⟩ := bnd hF
        try dsimp only at hF
        refine q_callVi C [.int a2] (c_X10_hasCell l D ad ca kz C.2.2.2.2.2.2.1 _ pi_25 _ _ _ h5) tw_671 gm_X10_hasCell pi_25.1 (pe_9 pi_25.2) rfl ⟨rfl, rfl⟩ ⟨Nat.le_of_ble_eq_true rfl, Nat.le_of_ble_eq_true rfl⟩ rfl (Nat.le_of_ble_eq_true rfl) dX11_note_33 q00 ?_
        refine q_if_eq (tgt := 51) C dX11_note_36 (by decide) (fun c6 => ?_) (fun c6 => ?_)
        · replace hF := ift c6 hF
          refine q_bipush (v := -2) C dX11_note_51 (by decide) ?_
          exact q_iret C hr hlk dX11_note_53 hF
        · replace hF := ife c6 hF
          refine q_aload_n C 0 dX11_note_39 rfl rfl ?_
          refine qg_10_4 C pi_0 tw_384 dX11_note_40 ?_
          refine q_iload_n C 1 dX11_note_43 rfl rfl ?_
          refine q_iload_n C 2 dX11_note_44 rfl rfl ?_
          obtain ⟨q7, h8, hF⟩ := bnd hF
          try dsimp only at hF
          refine q_callVi C [.int a1, .int a2] (c_X6_writeDown l D ad ca kz C.2.2.2.2.2.2.1 _ pi_18 _ _ _ _ h8) tw_995 gm_X6_writeDown pi_18.1 (pe_5 pi_18.2) rfl ⟨rfl, rfl⟩ ⟨Nat.le_of_ble_eq_true rfl, Nat.le_of_ble_eq_true rfl⟩ rfl (Nat.le_of_ble_eq_true rfl) dX11_note_45 q00 ?_
          refine q_if_ne (tgt := 54) C dX11_note_48 (by decide) (fun c9 => ?_) (fun c9 => ?_)
          · replace hF := ife c9 hF
            refine q_aload_n C 0 dX11_note_54 rfl rfl ?_
            refine qg_10_4 C pi_0 tw_384 dX11_note_55 ?_
            refine qg_5_4 C pi_18 tw_239 dX11_note_58 ?_
            exact q_iret C hr hlk dX11_note_61 hF
          · replace hF := ift c9 hF
            refine q_bipush (v := -2) C dX11_note_51 (by decide) ?_
            exact q_iret C hr hlk dX11_note_53 hF
  · replace hF := ift c1 hF
    refine q_aload_n C 0 dX11_note_5 rfl rfl ?_
    refine qg_10_4 C pi_0 tw_384 dX11_note_6 ?_
    refine q_iconst (v := 0) C dX11_note_9 (by decide) ?_
    refine qs_5_4 C pi_18 tw_239 dX11_note_10 ?_
    refine q_iconst (v := 0) C dX11_note_13 (by decide) ?_
    exact q_iret C hr hlk dX11_note_14 hF
-- X11_pence
def F_X11_pence (n : Nat) (a1 : Int32) (a2 : Int32) (σ : PS) : Option (Int32 × PS) := (F_X10_hasTent n 25 a2 σ).bind (fun q1 => (if q1.1 = 0 then some ((-1 : Int32), q1.2) else (if a1 < 0 then some ((-1 : Int32), q1.2) else (if a1 ≤ (9999 : Int32) then (F_X10_penceOf n 25 a1 a2 q1.2).bind (fun q6 => some (q6.1, q6.2)) else some ((-1 : Int32), q1.2)))))
theorem gm_X11_pence : gM "AskedCamp" yX11_pence (Cond.code yX11_pence cX11_pence 3 (Option.some Jvm.ClassFile.FieldType.int)) 2 := ⟨by decide +kernel, tw_983, tw_984, tw_1, tw_985⟩
set_option maxHeartbeats 4000000 in
set_option maxRecDepth 100000 in
theorem c_X11_pence (l : Launch) (D : va_G) (ad : Nat → Nat) (ca : Nat → ClassId) (kz : Nat → Nat) (hJ : pInj ad) (n : Nat) (a1 : Int32) (a2 : Int32) (σ : PS) (out : Int32 × PS) (hF : F_X11_pence n a1 a2 σ = some out) : Met l yX11_pence (Cond.code yX11_pence cX11_pence 3 (Option.some Jvm.ClassFile.FieldType.int) :: gw_tbl) { frames := 2, cells := 0, slots := 0, locals := 50 } (va_Pc [.ref (ad (0)), .int a1, .int a2] (pU D ad ca kz σ)) (pQi D ad ca out) 0 0 (pAD ad) := by
  refine q_entry (own := "AskedCamp") hJ (by decide) rfl (Nat.le_of_ble_eq_true rfl) (fun p e s m below meth c C hr hlk => ?_)
  refine q_lv [(0, .ref (ad (0))), (1, .int a1), (2, .int a2)] rfl ?_
  rw [F_X11_pence] at hF
  refine q_aload_n C 0 dX11_pence_0 rfl rfl ?_
  refine qg_10_4 C pi_0 tw_384 dX11_pence_1 ?_
  refine qg_5_1 C pi_18 tw_232 dX11_pence_4 ?_
  refine q_iload_n C 2 dX11_pence_7 rfl rfl ?_
  obtain ⟨q1, h2, hF⟩ := bnd hF
  try dsimp only at hF
  refine q_callVi C [.int a2] (c_X10_hasTent l D ad ca kz C.2.2.2.2.2.2.1 _ pi_25 _ _ _ h2) tw_663 gm_X10_hasTent pi_25.1 (pe_9 pi_25.2) rfl ⟨rfl, rfl⟩ ⟨Nat.le_of_ble_eq_true rfl, Nat.le_of_ble_eq_true rfl⟩ rfl (Nat.le_of_ble_eq_true rfl) dX11_pence_8 q00 ?_
  refine q_if_eq (tgt := 25) C dX11_pence_11 (by decide) (fun c3 => ?_) (fun c3 => ?_)
  · replace hF := ift c3 hF
    refine q_iconst (v := -1) C dX11_pence_25 (by decide) ?_
    exact q_iret C hr hlk dX11_pence_26 hF
  · replace hF := ife c3 hF
    refine q_iload_n C 1 dX11_pence_14 rfl rfl ?_
    refine q_if_lt (tgt := 25) C dX11_pence_15 (by decide) (fun c4 => ?_) (fun c4 => ?_)
    · replace hF := ift c4 hF
      refine q_iconst (v := -1) C dX11_pence_25 (by decide) ?_
      exact q_iret C hr hlk dX11_pence_26 hF
    · replace hF := ife c4 hF
      refine q_iload_n C 1 dX11_pence_18 rfl rfl ?_
      refine q_sipush (v := 9999) C dX11_pence_19 (by decide) ?_
      refine q_icmp_le (tgt := 27) C dX11_pence_22 (by decide) (fun c5 => ?_) (fun c5 => ?_)
      · replace hF := ift c5 hF
        refine q_aload_n C 0 dX11_pence_27 rfl rfl ?_
        refine qg_10_4 C pi_0 tw_384 dX11_pence_28 ?_
        refine qg_5_1 C pi_18 tw_232 dX11_pence_31 ?_
        refine q_iload_n C 1 dX11_pence_34 rfl rfl ?_
        refine q_iload_n C 2 dX11_pence_35 rfl rfl ?_
        obtain ⟨q6, h7, hF⟩ := bnd hF
        try dsimp only at hF
        refine q_callVi C [.int a1, .int a2] (c_X10_penceOf l D ad ca kz C.2.2.2.2.2.2.1 _ pi_25 _ _ _ _ h7) tw_986 gm_X10_penceOf pi_25.1 (pe_9 pi_25.2) rfl ⟨rfl, rfl⟩ ⟨Nat.le_of_ble_eq_true rfl, Nat.le_of_ble_eq_true rfl⟩ rfl (Nat.le_of_ble_eq_true rfl) dX11_pence_36 q00 ?_
        exact q_iret C hr hlk dX11_pence_39 hF
      · replace hF := ife c5 hF
        refine q_iconst (v := -1) C dX11_pence_25 (by decide) ?_
        exact q_iret C hr hlk dX11_pence_26 hF
-- X11_pitch
def F_X11_pitch (n : Nat) (a1 : Int32) (a2 : Int32) (σ : PS) : Option (Int32 × PS) := (F_X10_hasTent n 25 a1 σ).bind (fun q1 => (if q1.1 = 0 then some ((-1 : Int32), q1.2) else (F_X10_hasCell n 25 a2 q1.2).bind (fun q4 => (if q4.1 = 0 then some ((-1 : Int32), q4.2) else (if 0 ≤ a1 ∧ a1.toNatClampNeg < 6 then (if (q4.2.1 26 a1.toNatClampNeg) = a2 then some ((-1 : Int32), q4.2) else (F_X0_keep n 25 q4.2).bind (fun q9 => some ((q9.1 26 a1.toNatClampNeg), psI q9 26 a1.toNatClampNeg a2))) else none)))))
theorem gm_X11_pitch : gM "AskedCamp" yX11_pitch (Cond.code yX11_pitch cX11_pitch 5 (Option.some Jvm.ClassFile.FieldType.int)) 2 := ⟨by decide +kernel, tw_815, tw_816, tw_1, tw_817⟩
set_option maxHeartbeats 4000000 in
set_option maxRecDepth 100000 in
theorem c_X11_pitch (l : Launch) (D : va_G) (ad : Nat → Nat) (ca : Nat → ClassId) (kz : Nat → Nat) (hJ : pInj ad) (n : Nat) (a1 : Int32) (a2 : Int32) (σ : PS) (out : Int32 × PS) (hF : F_X11_pitch n a1 a2 σ = some out) : Met l yX11_pitch (Cond.code yX11_pitch cX11_pitch 5 (Option.some Jvm.ClassFile.FieldType.int) :: gw_tbl) { frames := 3, cells := 0, slots := 0, locals := 123 } (va_Pc [.ref (ad (0)), .int a1, .int a2] (pU D ad ca kz σ)) (pQi D ad ca out) 0 0 (pAD ad) := by
  refine q_entry (own := "AskedCamp") hJ (by decide) rfl (Nat.le_of_ble_eq_true rfl) (fun p e s m below meth c C hr hlk => ?_)
  refine q_lv [(0, .ref (ad (0))), (1, .int a1), (2, .int a2)] rfl ?_
  rw [F_X11_pitch] at hF
  refine q_aload_n C 0 dX11_pitch_0 rfl rfl ?_
  refine qg_10_4 C pi_0 tw_384 dX11_pitch_1 ?_
  refine qg_5_1 C pi_18 tw_232 dX11_pitch_4 ?_
  refine q_astore_n C [(3, .ref (ad (25))), (0, .ref (ad (0))), (1, .int a1), (2, .int a2)] dX11_pitch_7 rfl (by decide) rfl ?_
  refine q_aload_n C 0 dX11_pitch_8 rfl rfl ?_
  refine q_iload_n C 2 dX11_pitch_9 rfl rfl ?_
  obtain ⟨q1, h2, hF⟩ := bnd hF
  try dsimp only at hF
  refine q_callVi C [.int a1] (c_X10_hasTent l D ad ca kz C.2.2.2.2.2.2.1 _ pi_25 _ _ _ h2) tw_663 gm_X10_hasTent pi_25.1 (pe_9 pi_25.2) rfl ⟨rfl, rfl⟩ ⟨Nat.le_of_ble_eq_true rfl, Nat.le_of_ble_eq_true rfl⟩ rfl (Nat.le_of_ble_eq_true rfl) dX11_pitch_10 q00 ?_
  refine q_if_eq (tgt := 34) C dX11_pitch_13 (by decide) (fun c3 => ?_) (fun c3 => ?_)
  · replace hF := ift c3 hF
    refine q_iconst (v := -1) C dX11_pitch_34 (by decide) ?_
    exact q_iret C hr hlk dX11_pitch_35 hF
  · replace hF := ife c3 hF
    refine q_aload_n C 0 dX11_pitch_16 rfl rfl ?_
    refine q_iload_n C 3 dX11_pitch_17 rfl rfl ?_
    obtain ⟨q4, h5, hF⟩ := bnd hF
    try dsimp only at hF
    refine q_callVi C [.int a2] (c_X10_hasCell l D ad ca kz C.2.2.2.2.2.2.1 _ pi_25 _ _ _ h5) tw_671 gm_X10_hasCell pi_25.1 (pe_9 pi_25.2) rfl ⟨rfl, rfl⟩ ⟨Nat.le_of_ble_eq_true rfl, Nat.le_of_ble_eq_true rfl⟩ rfl (Nat.le_of_ble_eq_true rfl) dX11_pitch_18 q00 ?_
    refine q_if_eq (tgt := 34) C dX11_pitch_21 (by decide) (fun c6 => ?_) (fun c6 => ?_)
    · replace hF := ift c6 hF
      refine q_iconst (v := -1) C dX11_pitch_34 (by decide) ?_
      exact q_iret C hr hlk dX11_pitch_35 hF
    · replace hF := ife c6 hF
      refine q_aload_n C 0 dX11_pitch_24 rfl rfl ?_
      refine qg_9_7 C pi_25 tw_190 dX11_pitch_25 ?_
      refine q_iload_n C 2 dX11_pitch_28 rfl rfl ?_
      obtain ⟨g7, hF⟩ := grd hF
      refine q_iald C pa_26 (vp_of g7) dX11_pitch_29 ?_
      refine q_iload_n C 3 dX11_pitch_30 rfl rfl ?_
      refine q_icmp_ne (tgt := 36) C dX11_pitch_31 (by decide) (fun c8 => ?_) (fun c8 => ?_)
      · replace hF := ife c8 hF
        refine q_aload_n C 1 dX11_pitch_36 rfl rfl ?_
        refine qg_10_6 C pi_0 tw_386 dX11_pitch_37 ?_
        refine q_aload_n C 0 dX11_pitch_40 rfl rfl ?_
        obtain ⟨q9, h10, hF⟩ := bnd hF
        try dsimp only at hF
        refine q_callVv C [.ref (ad (25))] (c_X0_keep l D ad ca kz C.2.2.2.2.2.2.1 _ pi_25 _ _ h10) tw_709 gm_X0_keep pi_94.1 (pe_0 pi_94.2) rfl ⟨rfl, rfl⟩ ⟨Nat.le_of_ble_eq_true rfl, Nat.le_of_ble_eq_true rfl⟩ rfl (Nat.le_of_ble_eq_true rfl) dX11_pitch_41 q00 ?_
        refine q_aload_n C 0 dX11_pitch_44 rfl rfl ?_
        refine qg_9_7 C pi_25 tw_190 dX11_pitch_45 ?_
        refine q_iload_n C 2 dX11_pitch_48 rfl rfl ?_
        refine q_iald C pa_26 (vp_of g7) dX11_pitch_49 ?_
        refine q_istore C [(4, .int (q9.1 26 a1.toNatClampNeg)), (3, .ref (ad (25))), (0, .ref (ad (0))), (1, .int a1), (2, .int a2)] dX11_pitch_50 (by decide) rfl ?_
        refine q_aload_n C 1 dX11_pitch_52 rfl rfl ?_
        refine qg_9_7 C pi_25 tw_190 dX11_pitch_53 ?_
        refine q_iload_n C 3 dX11_pitch_56 rfl rfl ?_
        refine q_iload_n C 4 dX11_pitch_57 rfl rfl ?_
        refine q_iast C pa_26 (vp_of g7) dX11_pitch_58 ?_
        refine q_iload C 0 dX11_pitch_59 rfl ?_
        exact q_iret C hr hlk dX11_pitch_61 hF
      · replace hF := ift c8 hF
        refine q_iconst (v := -1) C dX11_pitch_34 (by decide) ?_
        exact q_iret C hr hlk dX11_pitch_35 hF
