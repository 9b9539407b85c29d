section CALLS
variable {p : Program} {l : Launch} {e : Env} {R : Room} {s : State} {m : MethodId} {args : Array Value} {below : List Frame} {meth : Method} {c : Code} {cc : ByteArray} {own : String} {nL : Nat} {D : va_G} {ad : Nat → Nat} {ca : Nat → ClassId} {kz : Nat → Nat} {Q : State → Prop} {σ : PS} {pc : Nat} {lv : List (Nat × Value)} {rest : List Value}
theorem q_entry {y : MethodName} {rm : Room} {ret : Option FieldType} {av : List Value} {Qc : Array Value → State → Outcome → State → Prop} (hJ : pInj ad) (hy : plainName y.cls = true) (ho : y.cls = own) (hav : (lg_sl av).length ≤ nL)
    (body : ∀ (p : Program) (e : Env) (s : State) (m : MethodId) (below : List Frame) (meth : Method) (c : Code), pC p s m av.toArray c cc own nL D ad ca kz → meth.sig.returnType = ret → meth.locks = false → PW p l e rm s m av.toArray below meth c nL D ad ca (MQ below Qc av.toArray s 0 0 (pAD ad)) σ 0 (lv_args 0 av) []) :
    Met l y (Cond.code y cc nL ret :: gw_tbl) rm (va_Pc av (pU D ad ca kz σ)) Qc 0 0 (pAD ad) := by
  refine Met.ofW (cc := cc) (maxL := nL) (ret := ret) hy rfl ?_
  intro p e s m args below meth c s₁ B hml hv
  obtain ⟨rfl, hP, hK, hZ⟩ := hv
  have hts := atoms_spec (ws := Cond.code y cc nL ret :: gw_tbl) B.pre
  have hown : s.vm.findClass own = some m.cls := by rw [← ho]; exact findClass_of_methodNamed B.named
  have C : pC p s m av.toArray c cc own nL D ad ca kz := ⟨B.exec, B.bytes, hml, hown, fun w h => hts w (List.mem_cons_of_mem _ h), hK, hJ, hZ⟩
  rw [lg_entry_eq]
  exact body p e s m below meth c C B.returns B.notSynchronized s.heap [] _ hP va_S.rf (lv_entry av hav)
abbrev pQi (D : va_G) (ad : Nat → Nat) (ca : Nat → ClassId) (out : Int32 × PS) : Array Value → State → Outcome → State → Prop := va_Qi (fun x (u : PS) => (x, u) = out) (pB D ad ca) (pAD ad)
abbrev pQl (D : va_G) (ad : Nat → Nat) (ca : Nat → ClassId) (out : Int64 × PS) : Array Value → State → Outcome → State → Prop := va_Ql (fun x (u : PS) => (x, u) = out) (pB D ad ca) (pAD ad)
abbrev pQv (D : va_G) (ad : Nat → Nat) (ca : Nat → ClassId) (out : PS) : Array Value → State → Outcome → State → Prop := va_Qv (fun (u : PS) => u = out) (pB D ad ca) (pAD ad)
abbrev pQr (D : va_G) (ad : Nat → Nat) (ca : Nat → ClassId) (out : Nat × PS) : Array Value → State → Outcome → State → Prop := va_Qr (fun (u : PS) => u = out.2) (fun u a t => a = ad out.1 ∧ pB D ad ca u t) (pAD ad)
theorem q_iret (C : pC p s m args c cc own nL D ad ca kz) {out : Int32 × PS} (hr : meth.sig.returnType = some .int) (hlk : meth.locks = false) {v : Int32} (hdg : decode cc pc = .ok (.ireturn, 1)) (hF : some (v, σ) = some out) : PW p l e R s m args below meth c nL D ad ca (MQ below (pQi D ad ca out) args s 0 0 (pAD ad)) σ pc lv [.int v] := fun H locs ls hP hS hl => W.iret C.1 C.2.1 hr (fun t ht hW => ⟨⟨v, σ, rfl, Option.some.inj hF, by unfold pB; rw [ht]; exact hP⟩, hS.F ht⟩) hS.2.2 hdg hlk
theorem pq_z {v : Int32} (h : v = 0 ∨ v = 1) : narrow .boolean (.int v) = .int v := by
  rcases h with rfl | rfl <;> rfl
theorem q_zret (C : pC p s m args c cc own nL D ad ca kz) {out : Int32 × PS} (hr : meth.sig.returnType = some .boolean) (hlk : meth.locks = false) {v : Int32} (hdg : decode cc pc = .ok (.ireturn, 1)) (hz : v = 0 ∨ v = 1) (hF : some (v, σ) = some out) : PW p l e R s m args below meth c nL D ad ca (MQ below (pQi D ad ca out) args s 0 0 (pAD ad)) σ pc lv [.int v] := fun H locs ls hP hS hl => W.zret (ty := .boolean) C.1 C.2.1 hr (pq_z hz) (fun t ht hW => ⟨⟨v, σ, rfl, Option.some.inj hF, by unfold pB; rw [ht]; exact hP⟩, hS.F ht⟩) hS.2.2 hdg hlk
theorem q_lret (C : pC p s m args c cc own nL D ad ca kz) {out : Int64 × PS} (hr : meth.sig.returnType = some .long) (hlk : meth.locks = false) {v : Int64} (hdg : decode cc pc = .ok (.lreturn, 1)) (hF : some (v, σ) = some out) : PW p l e R s m args below meth c nL D ad ca (MQ below (pQl D ad ca out) args s 0 0 (pAD ad)) σ pc lv [.long v] := fun H locs ls hP hS hl => W.lret C.1 C.2.1 hr (fun t ht hW => ⟨⟨v, σ, rfl, Option.some.inj hF, by unfold pB; rw [ht]; exact hP⟩, hS.F ht⟩) hS.2.2 hdg hlk
theorem q_vret (C : pC p s m args c cc own nL D ad ca kz) {out : PS} (hr : meth.sig.returnType = none) (hlk : meth.locks = false) (hdg : decode cc pc = .ok (.return_, 1)) (hF : some σ = some out) : PW p l e R s m args below meth c nL D ad ca (MQ below (pQv D ad ca out) args s 0 0 (pAD ad)) σ pc lv [] := fun H locs ls hP hS hl => W.vret C.1 C.2.1 hr (fun t ht hW => ⟨⟨σ, rfl, Option.some.inj hF, by unfold pB; rw [ht]; exact hP⟩, hS.F ht⟩) hS.2.2 hdg hlk
theorem q_aret (C : pC p s m args c cc own nL D ad ca kz) {out : Nat × PS} {cn : String} (hr : meth.sig.returnType = some (.object cn)) (hlk : meth.locks = false) {i : Nat} (hdg : decode cc pc = .ok (.areturn, 1)) (hF : some (i, σ) = some out) : PW p l e R s m args below meth c nL D ad ca (MQ below (pQr D ad ca out) args s 0 0 (pAD ad)) σ pc lv [.ref (ad i)] := fun H locs ls hP hS hl => W.aret C.1 C.2.1 hr (Or.inl ⟨_, rfl⟩) (Or.inr ⟨_, rfl⟩) (fun t ht hW => ⟨⟨σ, ad i, rfl, by rw [← Option.some.inj hF], by rw [← Option.some.inj hF], by unfold pB; rw [ht]; exact hP⟩, hS.F ht⟩) hS.2.2 hdg hlk
theorem gw_all : ∀ w ∈ gw_tbl, goodWord w = true := fun _ h => (List.mem_filter.mp h).2
theorem gw_good {ws : List Cond} (h : ∀ w ∈ ws, w ∈ gw_tbl) : GoodIn gw_tbl ws := fun w hw => ⟨h w hw, good_of_word (gw_all w (h w hw))⟩
def gM (Cn : String) (y : MethodName) (cd : Cond) (n : Nat) : Prop := (y.cls = Cn ∧ y.cls ≠ "java/lang/invoke/MethodHandle" ∧ y.cls ≠ "java/lang/invoke/VarHandle" ∧ (parseMethodDescriptor y.desc).map (fun d => d.parameters.length) = some n) ∧ Cond.instanceMethod y ∈ gw_tbl ∧ Cond.selects Cn y y ∈ gw_tbl ∧ Cond.initialized Cn ∈ gw_tbl ∧ cd ∈ gw_tbl
def gS (y : MethodName) (cd : Cond) (n : Nat) : Prop := (y.cls ≠ "java/lang/invoke/MethodHandle" ∧ y.cls ≠ "java/lang/invoke/VarHandle" ∧ (parseMethodDescriptor y.desc).map (fun d => d.parameters.length) = some n) ∧ Cond.static y ∈ gw_tbl ∧ Cond.initialized y.cls ∈ gw_tbl ∧ cd ∈ gw_tbl
theorem gw_V {index n : Nat} {Cn : String} {y : MethodName} {cd : Cond} (hlink : Cond.methodLink own index y ∈ gw_tbl) (h : gM Cn y cd n) : GoodIn gw_tbl (wsV own index Cn y (cd :: gw_tbl)) := by
  apply gw_good
  intro w hw
  rcases List.mem_append.mp hw with hw | hw
  · rcases List.mem_cons.mp hw with rfl | hw
    · exact hlink
    rcases List.mem_cons.mp hw with rfl | hw
    · exact h.2.1
    rcases List.mem_cons.mp hw with rfl | hw
    · exact h.2.2.1
    rcases List.mem_cons.mp hw with rfl | hw
    · exact h.2.2.2.1
    · exact absurd hw List.not_mem_nil
  · rcases List.mem_cons.mp hw with rfl | hw
    · exact h.2.2.2.2
    · exact hw
theorem gw_S {index n : Nat} {y : MethodName} {cd : Cond} (hlink : Cond.methodLink own index y ∈ gw_tbl) (h : gS y cd n) : GoodIn gw_tbl (va_wsS own index y (cd :: gw_tbl)) := by
  apply gw_good
  intro w hw
  rcases List.mem_append.mp hw with hw | hw
  · rcases List.mem_cons.mp hw with rfl | hw
    · exact hlink
    rcases List.mem_cons.mp hw with rfl | hw
    · exact h.2.1
    rcases List.mem_cons.mp hw with rfl | hw
    · exact h.2.2.1
    · exact absurd hw List.not_mem_nil
  · rcases List.mem_cons.mp hw with rfl | hw
    · exact h.2.2.2
    · exact hw
theorem pU_blind (av : List Value) : FrameBlind (va_Pc av (pU D ad ca kz σ)) := fun a U g mk q => ⟨q.1, q.2.1, va_K.moved (u := U) (U := U.calling g mk a) (Vm.Alike.refl U.vm) q.2.2.1, pZ_same q.2.2.2⟩
theorem pU_in (C : pC p s m args c cc own nL D ad ca kz) {H : Heap} {locs : List Loc} (hP : va_P D vwCl (pWS ad ca σ) H) (hS : va_S (pAD ad) s.heap H locs) (av : List Value) : ∀ U : State, U.heap = H → s.WarmedH U.vm → va_Pc av (pU D ad ca kz σ) av.toArray U := fun U hU hW => ⟨rfl, by rw [hU]; exact hP, va_K.moved hW.alike C.2.2.2.2.2.1, pZ_in hW hU hS C.2.2.2.2.2.2.2⟩
theorem q_callVi (C : pC p s m args c cc own nL D ad ca kz) {out : Int32 × PS} {y : MethodName} {bytes : ByteArray} {maxL : Nat} {ret : Option FieldType} {rm : Room} (As : List Value) {index i ci N : Nat} {Cn : String} {T : u_T} {fs : List Value} (hM : Met l y (Cond.code y bytes maxL ret :: gw_tbl) rm (va_Pc (.ref (ad i) :: As) (pU D ad ca kz σ)) (pQi D ad ca out) 0 0 (pAD ad)) (hlink : Cond.methodLink own index y ∈ gw_tbl) (hg : gM Cn y (Cond.code y bytes maxL ret) As.length) (hi : i < pNN) (he : pe ad ca σ i = .inr (ci, fs)) (hc : vwCl[ci]? = some (Cn, T, N)) (hrm : rm.cells = 0 ∧ rm.slots = 0) (hR : rm.frames + 1 ≤ R.frames ∧ 8 + (maxL + 11) + rm.locals ≤ R.locals) {st : List Value} (hst : st = As.reverse ++ .ref (ad i) :: rest) (hW : (rest.map fun v => v.category).sum ≤ 8) (hdg : decode cc pc = .ok (.invokevirtual index, 3)) (kk : PW p l e R s m args below meth c nL D ad ca Q out.2 (pc + 3) lv (.int out.1 :: rest)) : PW p l e R s m args below meth c nL D ad ca Q σ pc lv st := fun H locs ls hP hS hl => by
  subst hst
  refine va_calli (va_runV (As := As) (rest := rest) ⟨C.1, C.2.1, C.2.2.1, C.2.2.2.1, C.2.2.2.2.1⟩ hM (cwV As.length C.2.2.2.2.1 (gw_V hlink hg) rfl hrm.1 hrm.2 hg.1 hR) ⟨pU_blind _, va_recv C.2.2.2.2.2.1 hP hc ((pWS_get hi).trans (by rw [he])), pU_in C hP hS _⟩ rfl rfl hl.1 rfl (lv_room hW) hdg ⟨Nat.zero_le _, Nat.zero_le _⟩) hS (fun q _ h => h) (fun q h => h) (fun r u t H1 locs1 ht hvm hw hB hz hk hS1 => ?_)
  cases hw; exact kk H1 locs1 ls (by rw [← ht]; exact hB) hS1 hl
theorem q_callSi (C : pC p s m args c cc own nL D ad ca kz) {out : Int32 × PS} {y : MethodName} {bytes : ByteArray} {maxL : Nat} {ret : Option FieldType} {rm : Room} (As : List Value) {index : Nat} (hM : Met l y (Cond.code y bytes maxL ret :: gw_tbl) rm (va_Pc As (pU D ad ca kz σ)) (pQi D ad ca out) 0 0 (pAD ad)) (hlink : Cond.methodLink own index y ∈ gw_tbl) (hg : gS y (Cond.code y bytes maxL ret) As.length) (hrm : rm.cells = 0 ∧ rm.slots = 0) (hR : rm.frames + 1 ≤ R.frames ∧ 8 + (maxL + 11) + rm.locals ≤ R.locals) {st : List Value} (hst : st = As.reverse ++ rest) (hW : (rest.map fun v => v.category).sum ≤ 8) (hdg : decode cc pc = .ok (.invokestatic index, 3)) (kk : PW p l e R s m args below meth c nL D ad ca Q out.2 (pc + 3) lv (.int out.1 :: rest)) : PW p l e R s m args below meth c nL D ad ca Q σ pc lv st := fun H locs ls hP hS hl => by
  subst hst
  refine va_calli (va_runS (As := As) (rest := rest) ⟨C.1, C.2.1, C.2.2.1, C.2.2.2.1, C.2.2.2.2.1⟩ hM (va_cwS As.length C.2.2.2.2.1 (gw_S hlink hg) rfl hrm.1 hrm.2 hg.1 hR) ⟨pU_blind _, pU_in C hP hS _⟩ rfl rfl hl.1 rfl (lv_room hW) hdg ⟨Nat.zero_le _, Nat.zero_le _⟩) hS (fun q _ h => h) (fun q h => h) (fun r u t H1 locs1 ht hvm hw hB hz hk hS1 => ?_)
  cases hw; exact kk H1 locs1 ls (by rw [← ht]; exact hB) hS1 hl
theorem q_callVl (C : pC p s m args c cc own nL D ad ca kz) {out : Int64 × PS} {y : MethodName} {bytes : ByteArray} {maxL : Nat} {ret : Option FieldType} {rm : Room} (As : List Value) {index i ci N : Nat} {Cn : String} {T : u_T} {fs : List Value} (hM : Met l y (Cond.code y bytes maxL ret :: gw_tbl) rm (va_Pc (.ref (ad i) :: As) (pU D ad ca kz σ)) (pQl D ad ca out) 0 0 (pAD ad)) (hlink : Cond.methodLink own index y ∈ gw_tbl) (hg : gM Cn y (Cond.code y bytes maxL ret) As.length) (hi : i < pNN) (he : pe ad ca σ i = .inr (ci, fs)) (hc : vwCl[ci]? = some (Cn, T, N)) (hrm : rm.cells = 0 ∧ rm.slots = 0) (hR : rm.frames + 1 ≤ R.frames ∧ 8 + (maxL + 11) + rm.locals ≤ R.locals) {st : List Value} (hst : st = As.reverse ++ .ref (ad i) :: rest) (hW : (rest.map fun v => v.category).sum ≤ 8) (hdg : decode cc pc = .ok (.invokevirtual index, 3)) (kk : PW p l e R s m args below meth c nL D ad ca Q out.2 (pc + 3) lv (.long out.1 :: rest)) : PW p l e R s m args below meth c nL D ad ca Q σ pc lv st := fun H locs ls hP hS hl => by
  subst hst
  refine va_calll (va_runV (As := As) (rest := rest) ⟨C.1, C.2.1, C.2.2.1, C.2.2.2.1, C.2.2.2.2.1⟩ hM (cwV As.length C.2.2.2.2.1 (gw_V hlink hg) rfl hrm.1 hrm.2 hg.1 hR) ⟨pU_blind _, va_recv C.2.2.2.2.2.1 hP hc ((pWS_get hi).trans (by rw [he])), pU_in C hP hS _⟩ rfl rfl hl.1 rfl (lv_room hW) hdg ⟨Nat.zero_le _, Nat.zero_le _⟩) hS (fun q _ h => h) (fun q h => h) (fun r u t H1 locs1 ht hvm hw hB hz hk hS1 => ?_)
  cases hw; exact kk H1 locs1 ls (by rw [← ht]; exact hB) hS1 hl
theorem q_callSl (C : pC p s m args c cc own nL D ad ca kz) {out : Int64 × PS} {y : MethodName} {bytes : ByteArray} {maxL : Nat} {ret : Option FieldType} {rm : Room} (As : List Value) {index : Nat} (hM : Met l y (Cond.code y bytes maxL ret :: gw_tbl) rm (va_Pc As (pU D ad ca kz σ)) (pQl D ad ca out) 0 0 (pAD ad)) (hlink : Cond.methodLink own index y ∈ gw_tbl) (hg : gS y (Cond.code y bytes maxL ret) As.length) (hrm : rm.cells = 0 ∧ rm.slots = 0) (hR : rm.frames + 1 ≤ R.frames ∧ 8 + (maxL + 11) + rm.locals ≤ R.locals) {st : List Value} (hst : st = As.reverse ++ rest) (hW : (rest.map fun v => v.category).sum ≤ 8) (hdg : decode cc pc = .ok (.invokestatic index, 3)) (kk : PW p l e R s m args below meth c nL D ad ca Q out.2 (pc + 3) lv (.long out.1 :: rest)) : PW p l e R s m args below meth c nL D ad ca Q σ pc lv st := fun H locs ls hP hS hl => by
  subst hst
  refine va_calll (va_runS (As := As) (rest := rest) ⟨C.1, C.2.1, C.2.2.1, C.2.2.2.1, C.2.2.2.2.1⟩ hM (va_cwS As.length C.2.2.2.2.1 (gw_S hlink hg) rfl hrm.1 hrm.2 hg.1 hR) ⟨pU_blind _, pU_in C hP hS _⟩ rfl rfl hl.1 rfl (lv_room hW) hdg ⟨Nat.zero_le _, Nat.zero_le _⟩) hS (fun q _ h => h) (fun q h => h) (fun r u t H1 locs1 ht hvm hw hB hz hk hS1 => ?_)
  cases hw; exact kk H1 locs1 ls (by rw [← ht]; exact hB) hS1 hl
theorem q_callVv (C : pC p s m args c cc own nL D ad ca kz) {out : PS} {y : MethodName} {bytes : ByteArray} {maxL : Nat} {ret : Option FieldType} {rm : Room} (As : List Value) {index i ci N : Nat} {Cn : String} {T : u_T} {fs : List Value} (hM : Met l y (Cond.code y bytes maxL ret :: gw_tbl) rm (va_Pc (.ref (ad i) :: As) (pU D ad ca kz σ)) (pQv D ad ca out) 0 0 (pAD ad)) (hlink : Cond.methodLink own index y ∈ gw_tbl) (hg : gM Cn y (Cond.code y bytes maxL ret) As.length) (hi : i < pNN) (he : pe ad ca σ i = .inr (ci, fs)) (hc : vwCl[ci]? = some (Cn, T, N)) (hrm : rm.cells = 0 ∧ rm.slots = 0) (hR : rm.frames + 1 ≤ R.frames ∧ 8 + (maxL + 11) + rm.locals ≤ R.locals) {st : List Value} (hst : st = As.reverse ++ .ref (ad i) :: rest) (hW : (rest.map fun v => v.category).sum ≤ 8) (hdg : decode cc pc = .ok (.invokevirtual index, 3)) (kk : PW p l e R s m args below meth c nL D ad ca Q out (pc + 3) lv (rest)) : PW p l e R s m args below meth c nL D ad ca Q σ pc lv st := fun H locs ls hP hS hl => by
  subst hst
  refine va_callv (va_runV (As := As) (rest := rest) ⟨C.1, C.2.1, C.2.2.1, C.2.2.2.1, C.2.2.2.2.1⟩ hM (cwV As.length C.2.2.2.2.1 (gw_V hlink hg) rfl hrm.1 hrm.2 hg.1 hR) ⟨pU_blind _, va_recv C.2.2.2.2.2.1 hP hc ((pWS_get hi).trans (by rw [he])), pU_in C hP hS _⟩ rfl rfl hl.1 rfl (lv_room hW) hdg ⟨Nat.zero_le _, Nat.zero_le _⟩) hS (fun q _ h => h) (fun q h => h) (fun u t H1 locs1 ht hvm hw hB hz hk hS1 => ?_)
  cases hw; exact kk H1 locs1 ls (by rw [← ht]; exact hB) hS1 hl
theorem q_callSv (C : pC p s m args c cc own nL D ad ca kz) {out : PS} {y : MethodName} {bytes : ByteArray} {maxL : Nat} {ret : Option FieldType} {rm : Room} (As : List Value) {index : Nat} (hM : Met l y (Cond.code y bytes maxL ret :: gw_tbl) rm (va_Pc As (pU D ad ca kz σ)) (pQv D ad ca out) 0 0 (pAD ad)) (hlink : Cond.methodLink own index y ∈ gw_tbl) (hg : gS y (Cond.code y bytes maxL ret) As.length) (hrm : rm.cells = 0 ∧ rm.slots = 0) (hR : rm.frames + 1 ≤ R.frames ∧ 8 + (maxL + 11) + rm.locals ≤ R.locals) {st : List Value} (hst : st = As.reverse ++ rest) (hW : (rest.map fun v => v.category).sum ≤ 8) (hdg : decode cc pc = .ok (.invokestatic index, 3)) (kk : PW p l e R s m args below meth c nL D ad ca Q out (pc + 3) lv (rest)) : PW p l e R s m args below meth c nL D ad ca Q σ pc lv st := fun H locs ls hP hS hl => by
  subst hst
  refine va_callv (va_runS (As := As) (rest := rest) ⟨C.1, C.2.1, C.2.2.1, C.2.2.2.1, C.2.2.2.2.1⟩ hM (va_cwS As.length C.2.2.2.2.1 (gw_S hlink hg) rfl hrm.1 hrm.2 hg.1 hR) ⟨pU_blind _, pU_in C hP hS _⟩ rfl rfl hl.1 rfl (lv_room hW) hdg ⟨Nat.zero_le _, Nat.zero_le _⟩) hS (fun q _ h => h) (fun q h => h) (fun u t H1 locs1 ht hvm hw hB hz hk hS1 => ?_)
  cases hw; exact kk H1 locs1 ls (by rw [← ht]; exact hB) hS1 hl
theorem q_callVr (C : pC p s m args c cc own nL D ad ca kz) {out : Nat × PS} {y : MethodName} {bytes : ByteArray} {maxL : Nat} {ret : Option FieldType} {rm : Room} (As : List Value) {index i ci N : Nat} {Cn : String} {T : u_T} {fs : List Value} (hM : Met l y (Cond.code y bytes maxL ret :: gw_tbl) rm (va_Pc (.ref (ad i) :: As) (pU D ad ca kz σ)) (pQr D ad ca out) 0 0 (pAD ad)) (hlink : Cond.methodLink own index y ∈ gw_tbl) (hg : gM Cn y (Cond.code y bytes maxL ret) As.length) (hi : i < pNN) (he : pe ad ca σ i = .inr (ci, fs)) (hc : vwCl[ci]? = some (Cn, T, N)) (hrm : rm.cells = 0 ∧ rm.slots = 0) (hR : rm.frames + 1 ≤ R.frames ∧ 8 + (maxL + 11) + rm.locals ≤ R.locals) {st : List Value} (hst : st = As.reverse ++ .ref (ad i) :: rest) (hW : (rest.map fun v => v.category).sum ≤ 8) (hdg : decode cc pc = .ok (.invokevirtual index, 3)) (kk : PW p l e R s m args below meth c nL D ad ca Q out.2 (pc + 3) lv (.ref (ad out.1) :: rest)) : PW p l e R s m args below meth c nL D ad ca Q σ pc lv st := fun H locs ls hP hS hl => by
  subst hst
  refine va_callr (va_runV (As := As) (rest := rest) ⟨C.1, C.2.1, C.2.2.1, C.2.2.2.1, C.2.2.2.2.1⟩ hM (cwV As.length C.2.2.2.2.1 (gw_V hlink hg) rfl hrm.1 hrm.2 hg.1 hR) ⟨pU_blind _, va_recv C.2.2.2.2.2.1 hP hc ((pWS_get hi).trans (by rw [he])), pU_in C hP hS _⟩ rfl rfl hl.1 rfl (lv_room hW) hdg ⟨Nat.zero_le _, Nat.zero_le _⟩) hS (fun q _ h => h) (fun q h => h) (fun u ra t H1 locs1 ht hvm hw hB hz hk hS1 => ?_)
  subst hw; obtain ⟨rfl, hB⟩ := hB; exact kk H1 locs1 ls (by rw [← ht]; exact hB) hS1 hl
end CALLS
