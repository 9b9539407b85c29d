def pschr (i : Nat) (j : Int32) : Int32 := (((pByt.getD i []).getD j.toNatClampNeg 0 &&& 255).toUInt32 % 65536).toInt32
section STR
variable {p : Program} {l : Launch} {e : Env} {R : Room} {s : State} {m : MethodId} {args : Array Value} {below : List Frame} {meth : Method} {c : Code} {cc : ByteArray} {own : String} {nL : Nat} {D : va_G} {ad : Nat → Nat} {ca : Nat → ClassId} {kz : Nat → Nat} {cs sl : Nat} {Q : State → Prop} {σ : PS} {pc : Nat} {lv : List (Nat × Value)} {rest : List Value}
theorem q_str0 (C : pC p s m args c cc "AskedCamp$CampReader" nL D ad ca kz) (hdg : decode cc pc = .ok (.ldc 36, 2)) (kk : PW p l e R s m args below meth c nL D ad ca cs sl Q σ (pc + 2) lv (.ref (kz (10 + 0)) :: rest)) : PW p l e R s m args below meth c nL D ad ca cs sl Q σ pc lv rest := fun H locs ls hP hS hl => va_ldcS C.1 C.2.1 C.2.2.2.1 C.2.2.2.2.2.2.2.2.2.2.2.2.1.1 hdg (kk H locs ls hP hS hl)
theorem q_str1 (C : pC p s m args c cc "AskedCamp$CampReader" nL D ad ca kz) (hdg : decode cc pc = .ok (.ldc 42, 2)) (kk : PW p l e R s m args below meth c nL D ad ca cs sl Q σ (pc + 2) lv (.ref (kz (10 + 1)) :: rest)) : PW p l e R s m args below meth c nL D ad ca cs sl Q σ pc lv rest := fun H locs ls hP hS hl => va_ldcS C.1 C.2.1 C.2.2.2.1 C.2.2.2.2.2.2.2.2.2.2.2.2.1.2.1 hdg (kk H locs ls hP hS hl)
theorem q_str2 (C : pC p s m args c cc "AskedCamp$CampReader" nL D ad ca kz) (hdg : decode cc pc = .ok (.ldc 44, 2)) (kk : PW p l e R s m args below meth c nL D ad ca cs sl Q σ (pc + 2) lv (.ref (kz (10 + 2)) :: rest)) : PW p l e R s m args below meth c nL D ad ca cs sl Q σ pc lv rest := fun H locs ls hP hS hl => va_ldcS C.1 C.2.1 C.2.2.2.1 C.2.2.2.2.2.2.2.2.2.2.2.2.1.2.2.1 hdg (kk H locs ls hP hS hl)
theorem q_str3 (C : pC p s m args c cc "AskedCamp$RuleReader" nL D ad ca kz) (hdg : decode cc pc = .ok (.ldc 35, 2)) (kk : PW p l e R s m args below meth c nL D ad ca cs sl Q σ (pc + 2) lv (.ref (kz (10 + 3)) :: rest)) : PW p l e R s m args below meth c nL D ad ca cs sl Q σ pc lv rest := fun H locs ls hP hS hl => va_ldcS C.1 C.2.1 C.2.2.2.1 C.2.2.2.2.2.2.2.2.2.2.2.2.1.2.2.2.1 hdg (kk H locs ls hP hS hl)
theorem q_str4 (C : pC p s m args c cc "AskedCamp$Op" nL D ad ca kz) (hdg : decode cc pc = .ok (.ldc 7, 2)) (kk : PW p l e R s m args below meth c nL D ad ca cs sl Q σ (pc + 2) lv (.ref (kz (10 + 8)) :: rest)) : PW p l e R s m args below meth c nL D ad ca cs sl Q σ pc lv rest := fun H locs ls hP hS hl => va_ldcS C.1 C.2.1 C.2.2.2.1 C.2.2.2.2.2.2.2.2.2.2.2.2.1.2.2.2.2.1 hdg (kk H locs ls hP hS hl)
theorem q_str5 (C : pC p s m args c cc "AskedCamp$Op" nL D ad ca kz) (hdg : decode cc pc = .ok (.ldc 17, 2)) (kk : PW p l e R s m args below meth c nL D ad ca cs sl Q σ (pc + 2) lv (.ref (kz (10 + 9)) :: rest)) : PW p l e R s m args below meth c nL D ad ca cs sl Q σ pc lv rest := fun H locs ls hP hS hl => va_ldcS C.1 C.2.1 C.2.2.2.1 C.2.2.2.2.2.2.2.2.2.2.2.2.1.2.2.2.2.2.1 hdg (kk H locs ls hP hS hl)
theorem q_str6 (C : pC p s m args c cc "AskedCamp$Op" nL D ad ca kz) (hdg : decode cc pc = .ok (.ldc 19, 2)) (kk : PW p l e R s m args below meth c nL D ad ca cs sl Q σ (pc + 2) lv (.ref (kz (10 + 10)) :: rest)) : PW p l e R s m args below meth c nL D ad ca cs sl Q σ pc lv rest := fun H locs ls hP hS hl => va_ldcS C.1 C.2.1 C.2.2.2.1 C.2.2.2.2.2.2.2.2.2.2.2.2.1.2.2.2.2.2.2.1 hdg (kk H locs ls hP hS hl)
theorem q_str7 (C : pC p s m args c cc "AskedCamp$Op" nL D ad ca kz) (hdg : decode cc pc = .ok (.ldc 21, 2)) (kk : PW p l e R s m args below meth c nL D ad ca cs sl Q σ (pc + 2) lv (.ref (kz (10 + 11)) :: rest)) : PW p l e R s m args below meth c nL D ad ca cs sl Q σ pc lv rest := fun H locs ls hP hS hl => va_ldcS C.1 C.2.1 C.2.2.2.1 C.2.2.2.2.2.2.2.2.2.2.2.2.1.2.2.2.2.2.2.2.1 hdg (kk H locs ls hP hS hl)
theorem q_str8 (C : pC p s m args c cc "AskedCamp$Op" nL D ad ca kz) (hdg : decode cc pc = .ok (.ldc 23, 2)) (kk : PW p l e R s m args below meth c nL D ad ca cs sl Q σ (pc + 2) lv (.ref (kz (10 + 12)) :: rest)) : PW p l e R s m args below meth c nL D ad ca cs sl Q σ pc lv rest := fun H locs ls hP hS hl => va_ldcS C.1 C.2.1 C.2.2.2.1 C.2.2.2.2.2.2.2.2.2.2.2.2.1.2.2.2.2.2.2.2.2.1 hdg (kk H locs ls hP hS hl)
theorem q_str9 (C : pC p s m args c cc "AskedCamp$Op" nL D ad ca kz) (hdg : decode cc pc = .ok (.ldc 25, 2)) (kk : PW p l e R s m args below meth c nL D ad ca cs sl Q σ (pc + 2) lv (.ref (kz (10 + 13)) :: rest)) : PW p l e R s m args below meth c nL D ad ca cs sl Q σ pc lv rest := fun H locs ls hP hS hl => va_ldcS C.1 C.2.1 C.2.2.2.1 C.2.2.2.2.2.2.2.2.2.2.2.2.1.2.2.2.2.2.2.2.2.2.1 hdg (kk H locs ls hP hS hl)
theorem q_str10 (C : pC p s m args c cc "AskedCamp$Op" nL D ad ca kz) (hdg : decode cc pc = .ok (.ldc 27, 2)) (kk : PW p l e R s m args below meth c nL D ad ca cs sl Q σ (pc + 2) lv (.ref (kz (10 + 14)) :: rest)) : PW p l e R s m args below meth c nL D ad ca cs sl Q σ pc lv rest := fun H locs ls hP hS hl => va_ldcS C.1 C.2.1 C.2.2.2.1 C.2.2.2.2.2.2.2.2.2.2.2.2.1.2.2.2.2.2.2.2.2.2.2.1 hdg (kk H locs ls hP hS hl)
theorem q_str11 (C : pC p s m args c cc "AskedCamp$Op" nL D ad ca kz) (hdg : decode cc pc = .ok (.ldc 29, 2)) (kk : PW p l e R s m args below meth c nL D ad ca cs sl Q σ (pc + 2) lv (.ref (kz (10 + 15)) :: rest)) : PW p l e R s m args below meth c nL D ad ca cs sl Q σ pc lv rest := fun H locs ls hP hS hl => va_ldcS C.1 C.2.1 C.2.2.2.1 C.2.2.2.2.2.2.2.2.2.2.2.2.1.2.2.2.2.2.2.2.2.2.2.2.1 hdg (kk H locs ls hP hS hl)
theorem q_str12 (C : pC p s m args c cc "AskedCamp$Op" nL D ad ca kz) (hdg : decode cc pc = .ok (.ldc 31, 2)) (kk : PW p l e R s m args below meth c nL D ad ca cs sl Q σ (pc + 2) lv (.ref (kz (10 + 16)) :: rest)) : PW p l e R s m args below meth c nL D ad ca cs sl Q σ pc lv rest := fun H locs ls hP hS hl => va_ldcS C.1 C.2.1 C.2.2.2.1 C.2.2.2.2.2.2.2.2.2.2.2.2.1.2.2.2.2.2.2.2.2.2.2.2.2.1 hdg (kk H locs ls hP hS hl)
theorem q_str13 (C : pC p s m args c cc "AskedCamp$Op" nL D ad ca kz) (hdg : decode cc pc = .ok (.ldc 33, 2)) (kk : PW p l e R s m args below meth c nL D ad ca cs sl Q σ (pc + 2) lv (.ref (kz (10 + 17)) :: rest)) : PW p l e R s m args below meth c nL D ad ca cs sl Q σ pc lv rest := fun H locs ls hP hS hl => va_ldcS C.1 C.2.1 C.2.2.2.1 C.2.2.2.2.2.2.2.2.2.2.2.2.1.2.2.2.2.2.2.2.2.2.2.2.2.2.1 hdg (kk H locs ls hP hS hl)
theorem q_str14 (C : pC p s m args c cc "AskedCamp$Op" nL D ad ca kz) (hdg : decode cc pc = .ok (.ldc 35, 2)) (kk : PW p l e R s m args below meth c nL D ad ca cs sl Q σ (pc + 2) lv (.ref (kz (10 + 18)) :: rest)) : PW p l e R s m args below meth c nL D ad ca cs sl Q σ pc lv rest := fun H locs ls hP hS hl => va_ldcS C.1 C.2.1 C.2.2.2.1 C.2.2.2.2.2.2.2.2.2.2.2.2.1.2.2.2.2.2.2.2.2.2.2.2.2.2.2.1 hdg (kk H locs ls hP hS hl)
theorem q_str15 (C : pC p s m args c cc "AskedCamp$RuleReader" nL D ad ca kz) (hdg : decode cc pc = .ok (.ldc 51, 2)) (kk : PW p l e R s m args below meth c nL D ad ca cs sl Q σ (pc + 2) lv (.ref (kz (10 + 4)) :: rest)) : PW p l e R s m args below meth c nL D ad ca cs sl Q σ pc lv rest := fun H locs ls hP hS hl => va_ldcS C.1 C.2.1 C.2.2.2.1 C.2.2.2.2.2.2.2.2.2.2.2.2.1.2.2.2.2.2.2.2.2.2.2.2.2.2.2.2.1 hdg (kk H locs ls hP hS hl)
theorem q_str16 (C : pC p s m args c cc "AskedCamp$RuleReader" nL D ad ca kz) (hdg : decode cc pc = .ok (.ldc 103, 2)) (kk : PW p l e R s m args below meth c nL D ad ca cs sl Q σ (pc + 2) lv (.ref (kz (10 + 5)) :: rest)) : PW p l e R s m args below meth c nL D ad ca cs sl Q σ pc lv rest := fun H locs ls hP hS hl => va_ldcS C.1 C.2.1 C.2.2.2.1 C.2.2.2.2.2.2.2.2.2.2.2.2.1.2.2.2.2.2.2.2.2.2.2.2.2.2.2.2.2.1 hdg (kk H locs ls hP hS hl)
theorem q_str17 (C : pC p s m args c cc "AskedCamp$RuleReader" nL D ad ca kz) (hdg : decode cc pc = .ok (.ldc 114, 2)) (kk : PW p l e R s m args below meth c nL D ad ca cs sl Q σ (pc + 2) lv (.ref (kz (10 + 6)) :: rest)) : PW p l e R s m args below meth c nL D ad ca cs sl Q σ pc lv rest := fun H locs ls hP hS hl => va_ldcS C.1 C.2.1 C.2.2.2.1 C.2.2.2.2.2.2.2.2.2.2.2.2.1.2.2.2.2.2.2.2.2.2.2.2.2.2.2.2.2.2.1 hdg (kk H locs ls hP hS hl)
theorem q_str18 (C : pC p s m args c cc "AskedCamp$RuleReader" nL D ad ca kz) (hdg : decode cc pc = .ok (.ldc 116, 2)) (kk : PW p l e R s m args below meth c nL D ad ca cs sl Q σ (pc + 2) lv (.ref (kz (10 + 7)) :: rest)) : PW p l e R s m args below meth c nL D ad ca cs sl Q σ pc lv rest := fun H locs ls hP hS hl => va_ldcS C.1 C.2.1 C.2.2.2.1 C.2.2.2.2.2.2.2.2.2.2.2.2.1.2.2.2.2.2.2.2.2.2.2.2.2.2.2.2.2.2.2 hdg (kk H locs ls hP hS hl)
theorem q_sgv (C : pC p s m args c cc own nL D ad ca kz) {a index : Nat} (ha : a < 19) (hl0 : Cond.fieldLink own index "java/lang/String" "value" "[B" ∈ gw_tbl) (hdg : decode cc pc = .ok (.getfield index, 3)) (kk : PW p l e R s m args below meth c nL D ad ca cs sl Q σ (pc + 3) lv (.ref (kz (40 + a)) :: rest)) : PW p l e R s m args below meth c nL D ad ca cs sl Q σ pc lv (.ref (kz (10 + a)) :: rest) := fun H locs ls hP hS hl => vk_getf C.1 C.2.1 (C.2.2.2.2.2.2.2.2.2.2.2.1.1 a ha).2.2.1 hS C.2.2.2.1 (C.2.2.2.2.1 _ hl0) (fun _ h => h) hdg (kk H locs ls hP hS hl)
theorem q_sgc (C : pC p s m args c cc own nL D ad ca kz) {a index : Nat} (ha : a < 19) (hl0 : Cond.fieldLink own index "java/lang/String" "coder" "B" ∈ gw_tbl) (hdg : decode cc pc = .ok (.getfield index, 3)) (kk : PW p l e R s m args below meth c nL D ad ca cs sl Q σ (pc + 3) lv (.int 0 :: rest)) : PW p l e R s m args below meth c nL D ad ca cs sl Q σ pc lv (.ref (kz (10 + a)) :: rest) := fun H locs ls hP hS hl => vk_getf C.1 C.2.1 (C.2.2.2.2.2.2.2.2.2.2.2.1.1 a ha).2.1 hS C.2.2.2.1 (C.2.2.2.2.1 _ hl0) (fun _ h => h) hdg (kk H locs ls hP hS hl)
theorem q_stl (C : pC p s m args c cc own nL D ad ca kz) {a : Nat} (ha : a < 19) (hdg : decode cc pc = .ok (.arraylength, 1)) (kk : PW p l e R s m args below meth c nL D ad ca cs sl Q σ (pc + 1) lv (.int (pslen a) :: rest)) : PW p l e R s m args below meth c nL D ad ca cs sl Q σ pc lv (.ref (kz (40 + a)) :: rest) := fun H locs ls hP hS hl => va_tlen C.1 C.2.1 (C.2.2.2.2.2.2.2.2.2.2.2.1.1 a ha).2.2.2 hS rfl hdg (kk H locs ls hP hS hl)
theorem q_sbald (C : pC p s m args c cc own nL D ad ca kz) {a : Nat} (ha : a < 19) {j : Int32} (hin : vp_in j (pLen.getD a 0)) (hdg : decode cc pc = .ok (.baload, 1)) (kk : PW p l e R s m args below meth c nL D ad ca cs sl Q σ (pc + 1) lv (.int ((pByt.getD a []).getD j.toNatClampNeg 0) :: rest)) : PW p l e R s m args below meth c nL D ad ca cs sl Q σ pc lv (.int j :: .ref (kz (40 + a)) :: rest) := fun H locs ls hP hS hl => va_tb C.1 C.2.1 (C.2.2.2.2.2.2.2.2.2.2.2.1.1 a ha).2.2.2 hS hin rfl hdg (kk H locs ls hP hS hl)
theorem q_cs (C : pC p s m args c cc own nL D ad ca kz) {index : Nat} (hl0 : Cond.fieldLink own index "java/lang/String" "COMPACT_STRINGS" "Z" ∈ gw_tbl) (hdg : decode cc pc = .ok (.getstatic index, 3)) (kk : PW p l e R s m args below meth c nL D ad ca cs sl Q σ (pc + 3) lv (.int 1 :: rest)) : PW p l e R s m args below meth c nL D ad ca cs sl Q σ pc lv rest := fun H locs ls hP hS hl => va_gets C.1 C.2.1 C.2.2.2.2.2.2.2.2.2.2.2.2.2.1 hS C.2.2.2.1 (C.2.2.2.2.1 _ hl0) (fun _ h => h) hdg (kk H locs ls hP hS hl)
theorem q_fmt (C : pC p s m args c cc own nL D ad ca kz) {index : Nat} (hl0 : Cond.fieldLink own index "jdk/internal/util/Preconditions" "SIOOBE_FORMATTER" "Ljava/util/function/BiFunction;" ∈ gw_tbl) (hdg : decode cc pc = .ok (.getstatic index, 3)) (k0 : PW p l e R s m args below meth c nL D ad ca cs sl Q σ (pc + 3) lv (.null :: rest)) (k1 : ∀ t, PW p l e R s m args below meth c nL D ad ca cs sl Q σ (pc + 3) lv (.ref t :: rest)) : PW p l e R s m args below meth c nL D ad ca cs sl Q σ pc lv rest := fun H locs ls hP hS hl => (C.2.2.2.2.2.2.2.2.2.2.2.2.2.2.1).elim (fun h => va_gets C.1 C.2.1 h hS C.2.2.2.1 (C.2.2.2.2.1 _ hl0) (fun _ h => h) hdg (k0 H locs ls hP hS hl)) (fun ⟨t, h⟩ => va_gets C.1 C.2.1 h hS C.2.2.2.1 (C.2.2.2.2.1 _ hl0) (fun _ h => h) hdg (k1 t H locs ls hP hS hl))
theorem q_xret (C : pC p s m args c cc own nL D ad ca kz) {out : Int32 × PS} (ty : FieldType) (hr : meth.sig.returnType = some ty) (hlk : meth.locks = false) {v : Int32} (hn : narrow ty (.int v) = .int v) (hdg : decode cc pc = .ok (.ireturn, 1)) (hF : some (v, σ) = some out) : PW p l e R s m args below meth c nL D ad ca 0 0 (MQ below (pQi D ad ca out) args s 0 0 (pAD ad)) σ pc lv [.int v] := fun H locs ls hP hS hl => W.zret (ty := ty) C.1 C.2.1 hr hn (fun t ht hW => ⟨⟨v, σ, rfl, Option.some.inj hF, by unfold pB; rw [ht]; exact hP⟩, hS.F ht⟩) hS.2.2 hdg hlk
theorem q_callTi (C : pC p s m args c cc own nL D ad ca kz) {out : Int32 × PS} {y : MethodName} {bytes : ByteArray} {maxL : Nat} {ret : Option FieldType} {rm : Room} (As : List Value) {index a : Nat} (ha : a < 19) (hM : Met l y (Cond.code y bytes maxL ret :: gw_tbl) rm (va_Pc (.ref (kz (10 + a)) :: As) (pU D ad ca kz σ)) (pQi D ad ca out) 0 0 (pAD ad)) (hlink : Cond.methodLink own index y ∈ gw_tbl) (hg : gM "java/lang/String" y (Cond.code y bytes maxL ret) As.length) (hrm : rm.cells = 0 ∧ rm.slots = 0) (hR : rm.frames + 1 ≤ R.frames ∧ 8 + (maxL + 11) + rm.locals ≤ R.locals) {st : List Value} (hst : st = As.reverse ++ .ref (kz (10 + a)) :: rest) (hW : (rest.map fun v => v.category).sum ≤ 8) (hdg : decode cc pc = .ok (.invokevirtual index, 3)) (kk : PW p l e R s m args below meth c nL D ad ca 0 0 Q out.2 (pc + 3) lv (.int out.1 :: rest)) : PW p l e R s m args below meth c nL D ad ca 0 0 Q σ pc lv st := fun H locs ls hP hS hl => by
  subst hst
  refine va_calli (va_runV (As := As) (rest := rest) ⟨C.1, C.2.1, C.2.2.1, C.2.2.2.1, C.2.2.2.2.1⟩ hM (cwV As.length C.2.2.2.2.1 (gw_V hlink hg) rfl hrm.1 hrm.2 hg.1 hR) ⟨pU_blind _, vk_recv C.2.2.2.2.2.2.2.2.2.2.2.1 ha hS, pU_in C hP hS _⟩ rfl rfl hl.1 rfl (lv_room hW) hdg ⟨Nat.zero_le _, Nat.zero_le _⟩) hS (fun q _ h => h) (fun q h => h) (fun r u t H1 locs1 ht hvm hw hB hz hk hS1 => ?_)
  cases hw; exact kk H1 locs1 ls (by rw [← ht]; exact hB) hS1 hl
end STR
theorem gm_J0_coder_7d493 : gM "java/lang/String" yJ0_coder_7d493 (Cond.code yJ0_coder_7d493 cJ0_coder_7d493 1 (Option.some Jvm.ClassFile.FieldType.byte)) 0 := ⟨by decide +kernel, tw_465, tw_466, tw_13, tw_467⟩
set_option maxHeartbeats 4000000 in
set_option maxRecDepth 100000 in
theorem c_J0_coder_7d493 (l : Launch) (D : va_G) (ad : Nat → Nat) (ca : Nat → ClassId) (kz : Nat → Nat) (hJ : pInj ad) {a : Nat} (ha : a < 19) (σ : PS) : Met l yJ0_coder_7d493 (Cond.code yJ0_coder_7d493 cJ0_coder_7d493 1 (Option.some Jvm.ClassFile.FieldType.byte) :: gw_tbl) { frames := 0, cells := 0, slots := 0, locals := 0 } (va_Pc [.ref (kz (10 + a))] (pU D ad ca kz σ)) (pQi D ad ca (0, σ)) 0 0 (pAD ad) := by
  refine q_entry (own := "java/lang/String") hJ (by decide) rfl (Nat.le_of_ble_eq_true rfl) (fun p e s m below meth c C hr hlk => ?_)
  refine q_lv [(0, .ref (kz (10 + a)))] rfl ?_
  refine q_cs C tw_468 dJ0_coder_7d493_0 ?_
  refine q_if_eq (tgt := 13) C dJ0_coder_7d493_3 (by decide) (fun h => absurd h (by decide)) (fun _ => ?_)
  refine q_aload_n C 0 dJ0_coder_7d493_6 rfl rfl ?_
  refine q_sgc C ha tw_1680 dJ0_coder_7d493_7 ?_
  refine q_goto (tgt := 14) C dJ0_coder_7d493_10 (by decide) ?_
  exact q_xret C .byte hr hlk rfl dJ0_coder_7d493_14 rfl
theorem gm_J0_length_8abf5 : gM "java/lang/String" yJ0_length_8abf5 (Cond.code yJ0_length_8abf5 cJ0_length_8abf5 1 (Option.some Jvm.ClassFile.FieldType.int)) 0 := ⟨by decide +kernel, tw_461, tw_462, tw_13, tw_463⟩
set_option maxHeartbeats 4000000 in
set_option maxRecDepth 100000 in
theorem c_J0_length_8abf5 (l : Launch) (D : va_G) (ad : Nat → Nat) (ca : Nat → ClassId) (kz : Nat → Nat) (hJ : pInj ad) {a : Nat} (ha : a < 19) (σ : PS) : Met l yJ0_length_8abf5 (Cond.code yJ0_length_8abf5 cJ0_length_8abf5 1 (Option.some Jvm.ClassFile.FieldType.int) :: gw_tbl) { frames := 1, cells := 0, slots := 0, locals := 20 } (va_Pc [.ref (kz (10 + a))] (pU D ad ca kz σ)) (pQi D ad ca (pslen a >>> (0 &&& 31), σ)) 0 0 (pAD ad) := by
  refine q_entry (own := "java/lang/String") hJ (by decide) rfl (Nat.le_of_ble_eq_true rfl) (fun p e s m below meth c C hr hlk => ?_)
  refine q_lv [(0, .ref (kz (10 + a)))] rfl ?_
  refine q_aload_n C 0 dJ0_length_8abf5_0 rfl rfl ?_
  refine q_sgv C ha tw_1679 dJ0_length_8abf5_1 ?_
  refine q_stl C ha dJ0_length_8abf5_4 ?_
  refine q_aload_n C 0 dJ0_length_8abf5_5 rfl rfl ?_
  refine q_callTi C [] ha (c_J0_coder_7d493 l D ad ca kz hJ ha σ) tw_464 gm_J0_coder_7d493 ⟨rfl, rfl⟩ ⟨Nat.le_of_ble_eq_true rfl, Nat.le_of_ble_eq_true rfl⟩ rfl (Nat.le_of_ble_eq_true rfl) dJ0_length_8abf5_6 ?_
  refine q_ishr C dJ0_length_8abf5_9 ?_
  exact q_iret C hr hlk dJ0_length_8abf5_10 rfl
theorem gm_J0_isLatin1_aae02 : gM "java/lang/String" yJ0_isLatin1_aae02 (Cond.code yJ0_isLatin1_aae02 cJ0_isLatin1_aae02 1 (Option.some Jvm.ClassFile.FieldType.boolean)) 0 := ⟨by decide +kernel, tw_475, tw_476, tw_13, tw_477⟩
set_option maxHeartbeats 4000000 in
set_option maxRecDepth 100000 in
theorem c_J0_isLatin1_aae02 (l : Launch) (D : va_G) (ad : Nat → Nat) (ca : Nat → ClassId) (kz : Nat → Nat) (hJ : pInj ad) {a : Nat} (ha : a < 19) (σ : PS) : Met l yJ0_isLatin1_aae02 (Cond.code yJ0_isLatin1_aae02 cJ0_isLatin1_aae02 1 (Option.some Jvm.ClassFile.FieldType.boolean) :: gw_tbl) { frames := 0, cells := 0, slots := 0, locals := 0 } (va_Pc [.ref (kz (10 + a))] (pU D ad ca kz σ)) (pQi D ad ca (1, σ)) 0 0 (pAD ad) := by
  refine q_entry (own := "java/lang/String") hJ (by decide) rfl (Nat.le_of_ble_eq_true rfl) (fun p e s m below meth c C hr hlk => ?_)
  refine q_lv [(0, .ref (kz (10 + a)))] rfl ?_
  refine q_cs C tw_468 dJ0_isLatin1_aae02_0 ?_
  refine q_if_eq (tgt := 17) C dJ0_isLatin1_aae02_3 (by decide) (fun h => absurd h (by decide)) (fun _ => ?_)
  refine q_aload_n C 0 dJ0_isLatin1_aae02_6 rfl rfl ?_
  refine q_sgc C ha tw_1680 dJ0_isLatin1_aae02_7 ?_
  refine q_if_ne (tgt := 17) C dJ0_isLatin1_aae02_10 (by decide) (fun h => absurd rfl h) (fun _ => ?_)
  refine q_iconst (v := 1) C dJ0_isLatin1_aae02_13 (by decide) ?_
  refine q_goto (tgt := 18) C dJ0_isLatin1_aae02_14 (by decide) ?_
  exact q_zret C hr hlk dJ0_isLatin1_aae02_18 (by decide) rfl
theorem gm_J3_checkIndex_8e157 : gS yJ3_checkIndex_8e157 (Cond.code yJ3_checkIndex_8e157 cJ3_checkIndex_8e157 3 (Option.some Jvm.ClassFile.FieldType.int)) 3 := ⟨by decide +kernel, tw_487, tw_15, tw_488⟩
set_option maxHeartbeats 4000000 in
set_option maxRecDepth 100000 in
theorem c_J3_checkIndex_8e157_n (l : Launch) (D : va_G) (ad : Nat → Nat) (ca : Nat → ClassId) (kz : Nat → Nat) (hJ : pInj ad) (j n : Int32) (h1 : 0 ≤ j) (h2 : j < n) (σ : PS) : Met l yJ3_checkIndex_8e157 (Cond.code yJ3_checkIndex_8e157 cJ3_checkIndex_8e157 3 (Option.some Jvm.ClassFile.FieldType.int) :: gw_tbl) { frames := 0, cells := 0, slots := 0, locals := 0 } (va_Pc [.int j, .int n, .null] (pU D ad ca kz σ)) (pQi D ad ca (j, σ)) 0 0 (pAD ad) := by
  refine q_entry (own := "jdk/internal/util/Preconditions") hJ (by decide) rfl (Nat.le_of_ble_eq_true rfl) (fun p e s m below meth c C hr hlk => ?_)
  refine q_lv [(0, .int j), (1, .int n), (2, .null)] rfl ?_
  refine q_iload_n C 0 dJ3_checkIndex_8e157_0 rfl rfl ?_
  refine q_if_lt (tgt := 9) C dJ3_checkIndex_8e157_1 (by decide) (fun h => absurd h1 (Int32.not_le.mpr h)) (fun _ => ?_)
  refine q_iload_n C 0 dJ3_checkIndex_8e157_4 rfl rfl ?_
  refine q_iload_n C 1 dJ3_checkIndex_8e157_5 rfl rfl ?_
  refine q_icmp_lt (tgt := 16) C dJ3_checkIndex_8e157_6 (by decide) (fun _ => ?_) (fun h => absurd h2 h)
  refine q_iload_n C 0 dJ3_checkIndex_8e157_16 rfl rfl ?_
  exact q_iret C hr hlk dJ3_checkIndex_8e157_17 rfl
set_option maxHeartbeats 4000000 in
set_option maxRecDepth 100000 in
theorem c_J3_checkIndex_8e157_r (l : Launch) (D : va_G) (ad : Nat → Nat) (ca : Nat → ClassId) (kz : Nat → Nat) (hJ : pInj ad) (j n : Int32) (t : Nat) (h1 : 0 ≤ j) (h2 : j < n) (σ : PS) : Met l yJ3_checkIndex_8e157 (Cond.code yJ3_checkIndex_8e157 cJ3_checkIndex_8e157 3 (Option.some Jvm.ClassFile.FieldType.int) :: gw_tbl) { frames := 0, cells := 0, slots := 0, locals := 0 } (va_Pc [.int j, .int n, .ref t] (pU D ad ca kz σ)) (pQi D ad ca (j, σ)) 0 0 (pAD ad) := by
  refine q_entry (own := "jdk/internal/util/Preconditions") hJ (by decide) rfl (Nat.le_of_ble_eq_true rfl) (fun p e s m below meth c C hr hlk => ?_)
  refine q_lv [(0, .int j), (1, .int n), (2, .ref t)] rfl ?_
  refine q_iload_n C 0 dJ3_checkIndex_8e157_0 rfl rfl ?_
  refine q_if_lt (tgt := 9) C dJ3_checkIndex_8e157_1 (by decide) (fun h => absurd h1 (Int32.not_le.mpr h)) (fun _ => ?_)
  refine q_iload_n C 0 dJ3_checkIndex_8e157_4 rfl rfl ?_
  refine q_iload_n C 1 dJ3_checkIndex_8e157_5 rfl rfl ?_
  refine q_icmp_lt (tgt := 16) C dJ3_checkIndex_8e157_6 (by decide) (fun _ => ?_) (fun h => absurd h2 h)
  refine q_iload_n C 0 dJ3_checkIndex_8e157_16 rfl rfl ?_
  exact q_iret C hr hlk dJ3_checkIndex_8e157_17 rfl
theorem gm_J0_checkIndex_df160 : gS yJ0_checkIndex_df160 (Cond.code yJ0_checkIndex_df160 cJ0_checkIndex_df160 2 (Option.none : Option Jvm.ClassFile.FieldType)) 2 := ⟨by decide +kernel, tw_482, tw_13, tw_483⟩
set_option maxHeartbeats 4000000 in
set_option maxRecDepth 100000 in
theorem c_J0_checkIndex_df160 (l : Launch) (D : va_G) (ad : Nat → Nat) (ca : Nat → ClassId) (kz : Nat → Nat) (hJ : pInj ad) (j n : Int32) (h1 : 0 ≤ j) (h2 : j < n) (σ : PS) : Met l yJ0_checkIndex_df160 (Cond.code yJ0_checkIndex_df160 cJ0_checkIndex_df160 2 (Option.none : Option Jvm.ClassFile.FieldType) :: gw_tbl) { frames := 1, cells := 0, slots := 0, locals := 22 } (va_Pc [.int j, .int n] (pU D ad ca kz σ)) (pQv D ad ca σ) 0 0 (pAD ad) := by
  refine q_entry (own := "java/lang/String") hJ (by decide) rfl (Nat.le_of_ble_eq_true rfl) (fun p e s m below meth c C hr hlk => ?_)
  refine q_lv [(0, .int j), (1, .int n)] rfl ?_
  refine q_iload_n C 0 dJ0_checkIndex_df160_0 rfl rfl ?_
  refine q_iload_n C 1 dJ0_checkIndex_df160_1 rfl rfl ?_
  refine q_fmt C tw_484 dJ0_checkIndex_df160_2 ?_ (fun t => ?_)
  · refine q_callSi C [.int j, .int n, .null] (c_J3_checkIndex_8e157_n l D ad ca kz hJ j n h1 h2 σ) tw_486 gm_J3_checkIndex_8e157 ⟨rfl, rfl⟩ ⟨Nat.le_of_ble_eq_true rfl, Nat.le_of_ble_eq_true rfl⟩ rfl (Nat.le_of_ble_eq_true rfl) dJ0_checkIndex_df160_5 q00 ?_
    refine q_pop C dJ0_checkIndex_df160_8 rfl ?_
    exact q_vret C hr hlk dJ0_checkIndex_df160_9 rfl
  · refine q_callSi C [.int j, .int n, .ref t] (c_J3_checkIndex_8e157_r l D ad ca kz hJ j n t h1 h2 σ) tw_486 gm_J3_checkIndex_8e157 ⟨rfl, rfl⟩ ⟨Nat.le_of_ble_eq_true rfl, Nat.le_of_ble_eq_true rfl⟩ rfl (Nat.le_of_ble_eq_true rfl) dJ0_checkIndex_df160_5 q00 ?_
    refine q_pop C dJ0_checkIndex_df160_8 rfl ?_
    exact q_vret C hr hlk dJ0_checkIndex_df160_9 rfl
theorem pschr_n : ∀ a, a < 19 → ∀ j, j < 7 → vp_nar .char ((((pByt.getD a []).getD j 0 &&& 255).toUInt32 % 65536).toInt32) = (((pByt.getD a []).getD j 0 &&& 255).toUInt32 % 65536).toInt32 := by decide +kernel
theorem pLen_7 : ∀ a, a < 19 → pLen.getD a 0 < 7 := by decide +kernel
theorem pslen_lt {a : Nat} {j : Int32} (ha : a < 19) (h : 0 ≤ j ∧ j.toNatClampNeg < pLen.getD a 0) : j < pslen a := by
  have h7 := pLen_7 a ha
  have e : pslen a = nI (pLen.getD a 0) := rfl
  rw [e, Int32.lt_iff_toInt_lt, nI_toInt (by omega)]
  have h1 : (0 : Int32).toInt ≤ j.toInt := Int32.le_iff_toInt_le.mp h.1
  have h2 : j.toNatClampNeg = j.toInt.toNat := rfl
  have h3 : (0 : Int32).toInt = 0 := rfl
  omega
theorem gm_J1_charAt_3b067 : gS yJ1_charAt_3b067 (Cond.code yJ1_charAt_3b067 cJ1_charAt_3b067 2 (Option.some Jvm.ClassFile.FieldType.char)) 2 := ⟨by decide +kernel, tw_479, tw_14, tw_480⟩
set_option maxHeartbeats 4000000 in
set_option maxRecDepth 100000 in
theorem c_J1_charAt_3b067 (l : Launch) (D : va_G) (ad : Nat → Nat) (ca : Nat → ClassId) (kz : Nat → Nat) (hJ : pInj ad) {a : Nat} (ha : a < 19) (j : Int32) (hj : 0 ≤ j ∧ j.toNatClampNeg < pLen.getD a 0) (σ : PS) : Met l yJ1_charAt_3b067 (Cond.code yJ1_charAt_3b067 cJ1_charAt_3b067 2 (Option.some Jvm.ClassFile.FieldType.char) :: gw_tbl) { frames := 2, cells := 0, slots := 0, locals := 43 } (va_Pc [.ref (kz (40 + a)), .int j] (pU D ad ca kz σ)) (pQi D ad ca (pschr a j, σ)) 0 0 (pAD ad) := by
  refine q_entry (own := "java/lang/StringLatin1") hJ (by decide) rfl (Nat.le_of_ble_eq_true rfl) (fun p e s m below meth c C hr hlk => ?_)
  refine q_lv [(0, .ref (kz (40 + a))), (1, .int j)] rfl ?_
  refine q_iload_n C 1 dJ1_charAt_3b067_0 rfl rfl ?_
  refine q_aload_n C 0 dJ1_charAt_3b067_1 rfl rfl ?_
  refine q_stl C ha dJ1_charAt_3b067_2 ?_
  refine q_callSv C [.int j, .int (pslen a)] (c_J0_checkIndex_df160 l D ad ca kz hJ j (pslen a) hj.1 (pslen_lt ha hj) σ) tw_481 gm_J0_checkIndex_df160 ⟨rfl, rfl⟩ ⟨Nat.le_of_ble_eq_true rfl, Nat.le_of_ble_eq_true rfl⟩ rfl (Nat.le_of_ble_eq_true rfl) dJ1_charAt_3b067_3 q00 ?_
  refine q_aload_n C 0 dJ1_charAt_3b067_6 rfl rfl ?_
  refine q_iload_n C 1 dJ1_charAt_3b067_7 rfl rfl ?_
  refine q_sbald C ha (vp_of hj) dJ1_charAt_3b067_8 ?_
  refine q_sipush (v := 255) C dJ1_charAt_3b067_9 (by decide) ?_
  refine q_iand C dJ1_charAt_3b067_12 ?_
  refine q_i2c C dJ1_charAt_3b067_13 ?_
  exact q_xret C .char hr hlk (congrArg Value.int (pschr_n a ha _ (Nat.lt_trans hj.2 (pLen_7 a ha)))) dJ1_charAt_3b067_14 rfl
theorem gm_J0_charAt_5068e : gM "java/lang/String" yJ0_charAt_5068e (Cond.code yJ0_charAt_5068e cJ0_charAt_5068e 2 (Option.some Jvm.ClassFile.FieldType.char)) 1 := ⟨by decide +kernel, tw_471, tw_472, tw_13, tw_473⟩
set_option maxHeartbeats 4000000 in
set_option maxRecDepth 100000 in
theorem c_J0_charAt_5068e (l : Launch) (D : va_G) (ad : Nat → Nat) (ca : Nat → ClassId) (kz : Nat → Nat) (hJ : pInj ad) {a : Nat} (ha : a < 19) (j : Int32) (hj : 0 ≤ j ∧ j.toNatClampNeg < pLen.getD a 0) (σ : PS) : Met l yJ0_charAt_5068e (Cond.code yJ0_charAt_5068e cJ0_charAt_5068e 2 (Option.some Jvm.ClassFile.FieldType.char) :: gw_tbl) { frames := 3, cells := 0, slots := 0, locals := 66 } (va_Pc [.ref (kz (10 + a)), .int j] (pU D ad ca kz σ)) (pQi D ad ca (pschr a j, σ)) 0 0 (pAD ad) := by
  refine q_entry (own := "java/lang/String") hJ (by decide) rfl (Nat.le_of_ble_eq_true rfl) (fun p e s m below meth c C hr hlk => ?_)
  refine q_lv [(0, .ref (kz (10 + a))), (1, .int j)] rfl ?_
  refine q_aload_n C 0 dJ0_charAt_5068e_0 rfl rfl ?_
  refine q_callTi C [] ha (c_J0_isLatin1_aae02 l D ad ca kz hJ ha σ) tw_474 gm_J0_isLatin1_aae02 ⟨rfl, rfl⟩ ⟨Nat.le_of_ble_eq_true rfl, Nat.le_of_ble_eq_true rfl⟩ rfl (Nat.le_of_ble_eq_true rfl) dJ0_charAt_5068e_1 ?_
  refine q_if_eq (tgt := 16) C dJ0_charAt_5068e_4 (by decide) (fun h => absurd h (show ¬ (1 : Int32) = 0 by decide)) (fun _ => ?_)
  refine q_aload_n C 0 dJ0_charAt_5068e_7 rfl rfl ?_
  refine q_sgv C ha tw_1679 dJ0_charAt_5068e_8 ?_
  refine q_iload_n C 1 dJ0_charAt_5068e_11 rfl rfl ?_
  refine q_callSi C [.ref (kz (40 + a)), .int j] (c_J1_charAt_3b067 l D ad ca kz hJ ha j hj σ) tw_478 gm_J1_charAt_3b067 ⟨rfl, rfl⟩ ⟨Nat.le_of_ble_eq_true rfl, Nat.le_of_ble_eq_true rfl⟩ rfl (Nat.le_of_ble_eq_true rfl) dJ0_charAt_5068e_12 q00 ?_
  exact q_xret C .char hr hlk (congrArg Value.int (pschr_n a ha _ (Nat.lt_trans hj.2 (pLen_7 a ha)))) dJ0_charAt_5068e_15 rfl
section STR2
variable {p : Program} {l : Launch} {e : Env} {R : Room} {s : State} {m : MethodId} {args : Array Value} {below : List Frame} {meth : Method} {c : Code} {cc : ByteArray} {own : String} {nL : Nat} {D : va_G} {ad : Nat → Nat} {ca : Nat → ClassId} {kz : Nat → Nat} {cs sl : Nat} {Q : State → Prop} {σ : PS} {pc : Nat} {lv : List (Nat × Value)} {rest : List Value}
theorem q_strlen (C : pC p s m args c cc own nL D ad ca kz) {a index : Nat} (ha : a < 19) (hlink : Cond.methodLink own index yJ0_length_8abf5 ∈ gw_tbl) {st : List Value} (hst : st = .ref (kz (10 + a)) :: rest) (hR : 2 ≤ R.frames ∧ 40 ≤ R.locals) (hW : (rest.map fun v => v.category).sum ≤ 8) (hdg : decode cc pc = .ok (.invokevirtual index, 3)) (kk : PW p l e R s m args below meth c nL D ad ca 0 0 Q σ (pc + 3) lv (.int (pslen a >>> (0 &&& 31)) :: rest)) : PW p l e R s m args below meth c nL D ad ca 0 0 Q σ pc lv st := q_callTi C [] ha (c_J0_length_8abf5 l D ad ca kz C.2.2.2.2.2.2.1 ha σ) hlink gm_J0_length_8abf5 ⟨rfl, rfl⟩ hR hst hW hdg kk
theorem q_strchr (C : pC p s m args c cc own nL D ad ca kz) {a index : Nat} (ha : a < 19) (hlink : Cond.methodLink own index yJ0_charAt_5068e ∈ gw_tbl) {j : Int32} (hj : 0 ≤ j ∧ j.toNatClampNeg < pLen.getD a 0) {st : List Value} (hst : st = .int j :: .ref (kz (10 + a)) :: rest) (hR : 4 ≤ R.frames ∧ 87 ≤ R.locals) (hW : (rest.map fun v => v.category).sum ≤ 8) (hdg : decode cc pc = .ok (.invokevirtual index, 3)) (kk : PW p l e R s m args below meth c nL D ad ca 0 0 Q σ (pc + 3) lv (.int (pschr a j) :: rest)) : PW p l e R s m args below meth c nL D ad ca 0 0 Q σ pc lv st := q_callTi C [.int j] ha (c_J0_charAt_5068e l D ad ca kz C.2.2.2.2.2.2.1 ha j hj σ) hlink gm_J0_charAt_5068e ⟨rfl, rfl⟩ hR hst hW hdg kk
end STR2
