section GROWS2
variable {p : Program} {l : Launch} {e : Env} {R : Room} {s : State} {m : MethodId} {args : Array Value} {below : List Frame} {meth : Method} {c : Code} {cc : ByteArray} {own : String} {nL : Nat} {D : va_G} {B : Nat} {ca : Nat → ClassId} {cs sl : Nat} {Q : State → Prop} {n : Nat} {σ : PS} {ρ : RF} {pc : Nat} {lv : List (Nat × Value)} {rest : List Value}
theorem g_putF (C : gC p s m args c cc own nL D B ca) {σ1 : PS} {ρ1 : RF} {i ci N index : Nat} (k : Nat) {Cn : String} {T : u_T} {fs : List Value} {v : Value} (hin : ∀ w ∈ u_ws Cn T N, w ∈ gw_tbl) (ty0 : Nat → FieldType) (hty : ∀ k, k < N → parseFieldDescriptor (T k).2.2.1 = some (ty0 k)) (hnm : ∀ a, a < N → ∀ b, b < N → a ≠ b → (T a).2.1 ≠ (T b).2.1) (hi : i < n) (he : pg B ca σ ρ i = .inr (ci, fs)) (hc : vwCl[ci]? = some (Cn, T, N)) (hk : k < N) (hl0 : Cond.fieldLink own index (T k).1 (T k).2.1 (T k).2.2.1 ∈ gw_tbl) (hfin : (T k).2.2.2 = true) (hin2 : meth.name = "<init>") (hdecl : (T k).1 = own) (hn : narrow (ty0 k) v = v) (hfit : fits (ty0 k) v = true) (hlen : k < fs.length) (he1 : pg B ca σ1 ρ1 i = .inr (ci, fs.set k v)) (hne : ∀ j, j ≠ i → pg B ca σ1 ρ1 j = pg B ca σ ρ j) (hdg : decode cc pc = .ok (.putfield index, 3)) (kk : PG p l e R s m args below meth c nL D B ca cs sl Q n σ1 ρ1 (pc + 3) lv rest) : PG p l e R s m args below meth c nL D B ca cs sl Q n σ ρ pc lv (v :: .ref (pad B i) :: rest) := by
  intro H locs ls hP hz hS0 hl
  have hts := C.2.2.2.2.1
  have hK := C.2.2.2.2.2.1
  have hown := C.2.2.2.1
  have hap := va_apart (own := own) hts hin ty0 hty hnm hK hc
  have hq : (pWG n B ca σ ρ)[i]? = some (pad B i, .inr (ci, fs)) := (pWG_get hi).trans (by rw [he])
  obtain ⟨r, h1, cell, q1, q2, q3, q4⟩ := hP i _ hq
  have hr : r = (Cn, T, N) := Option.some.inj (h1.symm.trans hc)
  subst hr
  obtain ⟨hS, hfc, kC, hkC, hkind⟩ := hK.1 ci _ hc
  obtain ⟨cf, kf, fi, f, hi2, hsl⟩ := hS k hk
  have hlay := hts _ (hin _ (u_in_lay hk))
  unfold u_lay at hlay
  rw [if_pos hfin] at hlay
  have hst := (u_facts hfc hkC (u_lays hts hin hk) hi2).1
  have hcf : m.cls = cf := by
    obtain ⟨_, _, c', _, _, _, -, -, hf', -, -, -, hown2, -⟩ := Cond.laysFinal_spec hlay
    have e1 : c' = cf := by have := hi2.symm.trans hf'; simp at this; exact this.1.symm
    rw [hdecl] at hown2
    rw [← e1]; exact Option.some.inj (hown.symm.trans hown2)
  have h6 := u_fits hfc hkC hkind (Or.inr hlay) hi2 (hty k hk) hn hfit
  refine W.putFinK C.1 C.2.1 hown (hts _ hl0) hi2 hst hcf hin2 (by rw [q2]; exact h6) q1 q3 (by rw [hsl]; exact k2_hasslot (q4 k hk)) rfl rfl hdg fun H' e1 e2 e3 => ?_
  rw [hsl] at e1 ⊢
  have hP1 := hP.set pWG_D hq (show va_at D vwCl (pad B i, .inr (ci, fs.set k v)) H' from ⟨_, hc, t_OB.to (V := updV (vp_V fs) k v) ⟨_, e1, q2, q3, t_set q4 hap hk v⟩ (fun j _ => vp_updV_set hlen v j)⟩) e3
  rw [pWG_set hi he1 hne] at hP1
  exact kk H' _ ls hP1 (by rw [e2]; exact hz) (hS0.put e2 e3 (pWG_D.2 i _ hq)) hl
theorem g_putI (C : gC p s m args c cc own nL D B ca) {σ1 : PS} {ρ1 : RF} {i ci N index : Nat} (k : Nat) {Cn : String} {T : u_T} {fs : List Value} {v : Value} (hin : ∀ w ∈ u_ws Cn T N, w ∈ gw_tbl) (ty0 : Nat → FieldType) (hty : ∀ k, k < N → parseFieldDescriptor (T k).2.2.1 = some (ty0 k)) (hnm : ∀ a, a < N → ∀ b, b < N → a ≠ b → (T a).2.1 ≠ (T b).2.1) (hi : i < n) (he : pg B ca σ ρ i = .inr (ci, fs)) (hc : vwCl[ci]? = some (Cn, T, N)) (hk : k < N) (hl0 : Cond.fieldLink own index (T k).1 (T k).2.1 (T k).2.2.1 ∈ gw_tbl) (hfin : (T k).2.2.2 = false) (hn : narrow (ty0 k) v = v) (hfit : fits (ty0 k) v = true) (hlen : k < fs.length) (he1 : pg B ca σ1 ρ1 i = .inr (ci, fs.set k v)) (hne : ∀ j, j ≠ i → pg B ca σ1 ρ1 j = pg B ca σ ρ j) (hdg : decode cc pc = .ok (.putfield index, 3)) (kk : PG p l e R s m args below meth c nL D B ca cs sl Q n σ1 ρ1 (pc + 3) lv rest) : PG p l e R s m args below meth c nL D B ca cs sl Q n σ ρ pc lv (v :: .ref (pad B i) :: rest) := by
  intro H locs ls hP hz hS0 hl
  have hts := C.2.2.2.2.1
  have hK := C.2.2.2.2.2.1
  have hown := C.2.2.2.1
  have hap := va_apart (own := own) hts hin ty0 hty hnm hK hc
  have hq : (pWG n B ca σ ρ)[i]? = some (pad B i, .inr (ci, fs)) := (pWG_get hi).trans (by rw [he])
  obtain ⟨r, h1, cell, q1, q2, q3, q4⟩ := hP i _ hq
  have hr : r = (Cn, T, N) := Option.some.inj (h1.symm.trans hc)
  subst hr
  obtain ⟨hS, hfc, kC, hkC, hkind⟩ := hK.1 ci _ hc
  obtain ⟨cf, kf, fi, f, hi2, hsl⟩ := hS k hk
  have hlay := hts _ (hin _ (u_in_lay hk))
  unfold u_lay at hlay
  rw [if_neg (by rw [hfin]; decide)] at hlay
  have hst := (u_facts hfc hkC (u_lays hts hin hk) hi2).1
  have h6 := u_store hfc hkC hkind hlay hi2 (hty k hk) hn hfit
  refine W.putK C.1 C.2.1 (f := f) ⟨hown, hts _ hl0, ⟨_, _, _, hi2⟩, hst⟩ (by rw [q2]; exact h6) q1 q3 (by rw [hsl]; exact k2_hasslot (q4 k hk)) rfl rfl hdg fun H' e1 e2 e3 => ?_
  rw [hsl] at e1 ⊢
  have hP1 := hP.set pWG_D hq (show va_at D vwCl (pad B i, .inr (ci, fs.set k v)) H' from ⟨_, hc, t_OB.to (V := updV (vp_V fs) k v) ⟨_, e1, q2, q3, t_set q4 hap hk v⟩ (fun j _ => vp_updV_set hlen v j)⟩) e3
  rw [pWG_set hi he1 hne] at hP1
  exact kk H' _ ls hP1 (by rw [e2]; exact hz) (hS0.put e2 e3 (pWG_D.2 i _ hq)) hl
theorem g_get (C : gC p s m args c cc own nL D B ca) {i ci N index : Nat} (k : Nat) {Cn : String} {T : u_T} {fs : List Value} {v : Value} (hin : ∀ w ∈ u_ws Cn T N, w ∈ gw_tbl) (hi : i < n) (he : pg B ca σ ρ i = .inr (ci, fs)) (hc : vwCl[ci]? = some (Cn, T, N)) (hk : k < N) (hl0 : Cond.fieldLink own index (T k).1 (T k).2.1 (T k).2.2.1 ∈ gw_tbl) (hv : fs[k]? = some v) (hdg : decode cc pc = .ok (.getfield index, 3)) (kk : PG p l e R s m args below meth c nL D B ca cs sl Q n σ ρ (pc + 3) lv (v :: rest)) : PG p l e R s m args below meth c nL D B ca cs sl Q n σ ρ pc lv (.ref (pad B i) :: rest) := fun H locs ls hP hz hS hl => va_get C.1 C.2.1 C.2.2.2.2.1 hin C.2.2.2.1 C.2.2.2.2.2.1 hP i ((pWG_get hi).trans (by rw [he])) hc k hk (C.2.2.2.2.1 _ hl0) (fun _ h => h) hv hdg (kk H locs ls hP hz hS hl)
theorem g_aast24 (C : gC p s m args c cc own nL D B ca) {a N jn : Nat} {j : Int32} {vs : List Value} (ha : a < n ∧ pk a = 24 ∧ pn a = N) (hj : 0 ≤ j ∧ j.toNatClampNeg = jn ∧ jn < N) (hw : 96 + 6 * jn < n) (he : pg B ca σ ρ (96 + 6 * jn) = .inr (9, vs)) (hdg : decode cc pc = .ok (.aastore, 1)) (kk : PG p l e R s m args below meth c nL D B ca cs sl Q n σ (sf ρ a jn) (pc + 1) lv rest) : PG p l e R s m args below meth c nL D B ca cs sl Q n σ ρ pc lv (.ref (pad B (96 + 6 * jn)) :: .int j :: .ref (pad B a) :: rest) := by
  intro H locs ls hP hz hS hl
  obtain ⟨hj1, hj2, hj3⟩ := hj
  subst hj2
  have hK := C.2.2.2.2.2.1
  have h0 : ¬ j < 0 := fun q => absurd hj1 (Int32.not_le.mpr q)
  have ha' : (pWG n B ca σ ρ)[a]? = some (pad B a, .inl (ca 4, N, .inr (.inr (.inr (.inr (fun j => if ρ a j then some (B + (96 + 6 * j)) else none)))))) := (pWG_get ha.1).trans (by simp only [pg, ha.2.1, ha.2.2])
  obtain ⟨r', hr', cellV, g1, g2, g3, -⟩ := hP _ _ ((pWG_get hw).trans (by rw [he]))
  have hcls := (hK.1 9 _ rfl).2
  obtain ⟨kA, comp, k1, k2, k3, -⟩ := (hK.2 4 _ rfl).2
  have hcomp : comp = D.1 9 := Option.some.inj (k3.symm.trans hcls.1)
  subst hcomp
  obtain ⟨kC, hkC, -⟩ := hcls.2
  refine W.aast C.1 C.2.1 (hP a _ ha') (fun q h => by cases h) (fun h => by cases h) k1 k2 rfl hkC ⟨h0, by show _ < (arrV _ _ _).slots.size; rw [arrV_size]; exact hj3⟩ g1 (fun q h => by rw [g3] at h; cases h) (by rw [g2]; exact hkC) (by rw [g2]; exact va_assign hcls) rfl rfl hdg fun H1 e1 z oq => ?_
  have hP1 := hP.set pWG_D ha' (show va_at D vwCl (pad B a, pg B ca σ (sf ρ a j.toNatClampNeg) a) H1 from by
    have hp : pg B ca σ (sf ρ a j.toNatClampNeg) a = .inl (ca 4, N, .inr (.inr (.inr (.inr (fun q => if sf ρ a j.toNatClampNeg a q then some (B + (96 + 6 * q)) else none))))) := by simp only [pg, ha.2.1, ha.2.2]
    rw [hp]
    show H1[pad B a]? = some (vp_cell _ _)
    rw [e1]
    rw [vp_cell_q, vp_cell_q, arrV_store]
    congr 2
    funext q
    by_cases hq : q = j.toNatClampNeg
    · subst hq
      simp [updV, sf, va_rf, pad]
    · simp [updV, sf, hq]) oq
  rw [pWG_set ha.1 rfl (fun q hq => pg_congr rfl rfl (sf_ne hq))] at hP1
  exact kk H1 _ ls hP1 (by rw [z]; exact hz) (hS.put z oq (pWG_D.2 a _ ha')) hl
theorem g_aast25 (C : gC p s m args c cc own nL D B ca) {a N jn : Nat} {j : Int32} {vs : List Value} (ha : a < n ∧ pk a = 25 ∧ pn a = N) (hj : 0 ≤ j ∧ j.toNatClampNeg = jn ∧ jn < N) (hw : 34 + 15 * jn < n) (he : pg B ca σ ρ (34 + 15 * jn) = .inr (5, vs)) (hdg : decode cc pc = .ok (.aastore, 1)) (kk : PG p l e R s m args below meth c nL D B ca cs sl Q n σ (sf ρ a jn) (pc + 1) lv rest) : PG p l e R s m args below meth c nL D B ca cs sl Q n σ ρ pc lv (.ref (pad B (34 + 15 * jn)) :: .int j :: .ref (pad B a) :: rest) := by
  intro H locs ls hP hz hS hl
  obtain ⟨hj1, hj2, hj3⟩ := hj
  subst hj2
  have hK := C.2.2.2.2.2.1
  have h0 : ¬ j < 0 := fun q => absurd hj1 (Int32.not_le.mpr q)
  have ha' : (pWG n B ca σ ρ)[a]? = some (pad B a, .inl (ca 5, N, .inr (.inr (.inr (.inr (fun j => if ρ a j then some (B + (34 + 15 * j)) else none)))))) := (pWG_get ha.1).trans (by simp only [pg, ha.2.1, ha.2.2])
  obtain ⟨r', hr', cellV, g1, g2, g3, -⟩ := hP _ _ ((pWG_get hw).trans (by rw [he]))
  have hcls := (hK.1 5 _ rfl).2
  obtain ⟨kA, comp, k1, k2, k3, -⟩ := (hK.2 5 _ rfl).2
  have hcomp : comp = D.1 5 := Option.some.inj (k3.symm.trans hcls.1)
  subst hcomp
  obtain ⟨kC, hkC, -⟩ := hcls.2
  refine W.aast C.1 C.2.1 (hP a _ ha') (fun q h => by cases h) (fun h => by cases h) k1 k2 rfl hkC ⟨h0, by show _ < (arrV _ _ _).slots.size; rw [arrV_size]; exact hj3⟩ g1 (fun q h => by rw [g3] at h; cases h) (by rw [g2]; exact hkC) (by rw [g2]; exact va_assign hcls) rfl rfl hdg fun H1 e1 z oq => ?_
  have hP1 := hP.set pWG_D ha' (show va_at D vwCl (pad B a, pg B ca σ (sf ρ a j.toNatClampNeg) a) H1 from by
    have hp : pg B ca σ (sf ρ a j.toNatClampNeg) a = .inl (ca 5, N, .inr (.inr (.inr (.inr (fun q => if sf ρ a j.toNatClampNeg a q then some (B + (34 + 15 * q)) else none))))) := by simp only [pg, ha.2.1, ha.2.2]
    rw [hp]
    show H1[pad B a]? = some (vp_cell _ _)
    rw [e1]
    rw [vp_cell_q, vp_cell_q, arrV_store]
    congr 2
    funext q
    by_cases hq : q = j.toNatClampNeg
    · subst hq
      simp [updV, sf, va_rf, pad]
    · simp [updV, sf, hq]) oq
  rw [pWG_set ha.1 rfl (fun q hq => pg_congr rfl rfl (sf_ne hq))] at hP1
  exact kk H1 _ ls hP1 (by rw [z]; exact hz) (hS.put z oq (pWG_D.2 a _ ha')) hl
abbrev gQv (D : va_G) (B : Nat) (ca : Nat → ClassId) (out : Nat × PS × RF) : Array Value → State → Outcome → State → Prop := va_Qv (fun (u : Nat × PS × RF) => u = out) (gB D B ca) (fun q => B ≤ q)
theorem g_entry {y : MethodName} {rm : Room} {av : List Value} {mc ms : Nat} {Qc : Array Value → State → Outcome → State → Prop} (hy : plainName y.cls = true) (ho : y.cls = own) (hin : y.name = "<init>") (hav : (lg_sl av).length ≤ nL)
    (body : ∀ (p : Program) (e : Env) (s : State) (m : MethodId) (below : List Frame) (meth : Method) (c : Code), gC p s m av.toArray c cc own nL D B ca → meth.sig.returnType = none → meth.locks = false → meth.name = "<init>" → PG p l e rm s m av.toArray below meth c nL D B ca 0 0 (MQ below Qc av.toArray s mc ms (fun q => B ≤ q)) n σ ρ 0 (lv_args 0 av) []) :
    Met l y (Cond.code y cc nL none :: gw_tbl) rm (va_Pc av (gU D B ca n σ ρ)) Qc mc ms (fun q => B ≤ q) := by
  refine Met.ofW (cc := cc) (maxL := nL) (ret := none) hy rfl ?_
  intro p e s m args below meth c s₁ Bd hml hv
  obtain ⟨rfl, hP, hz, hK, hO⟩ := hv
  have hts := atoms_spec (ws := Cond.code y cc nL none :: gw_tbl) Bd.pre
  have hown : s.vm.findClass own = some m.cls := by rw [← ho]; exact findClass_of_methodNamed Bd.named
  have C : gC p s m av.toArray c cc own nL D B ca := ⟨Bd.exec, Bd.bytes, hml, hown, fun w h => hts w (List.mem_cons_of_mem _ h), hK, by rw [hz]; exact Nat.le_add_right _ _, hO⟩
  rw [lg_entry_eq]
  exact body p e s m below meth c C Bd.returns Bd.notSynchronized (by rw [← hin]; exact (name_of_methodNamed Bd.named Bd.method).1) s.heap [] _ hP hz va_S.rf (lv_entry av hav)
theorem g_vret (C : gC p s m args c cc own nL D B ca) {out : Nat × PS × RF} (hr : meth.sig.returnType = none) (hlk : meth.locks = false) (hdg : decode cc pc = .ok (.return_, 1)) (hF : (n, σ, ρ) = out) : PG p l e R s m args below meth c nL D B ca cs sl (MQ below (gQv D B ca out) args s cs sl (fun q => B ≤ q)) n σ ρ pc lv [] := fun H locs ls hP hz hS hl => W.vret C.1 C.2.1 hr (fun t ht hW => ⟨⟨(n, σ, ρ), rfl, hF, by rw [ht]; exact hP, by rw [ht]; exact hz⟩, hS.F ht⟩) hS.2.2 hdg hlk
def gI (y : MethodName) (cd : Cond) (k : Nat) : Prop := (y.name = "<init>" ∧ y.cls ≠ "java/lang/invoke/MethodHandle" ∧ y.cls ≠ "java/lang/invoke/VarHandle" ∧ (parseMethodDescriptor y.desc).map (fun d => d.parameters.length) = some k) ∧ Cond.instanceMethod y ∈ gw_tbl ∧ Cond.initialized y.cls ∈ gw_tbl ∧ cd ∈ gw_tbl
theorem gw_I {y : MethodName} {cd : Cond} {k : Nat} (h : gI y cd k) : GoodIn gw_tbl (cd :: gw_tbl) := gw_good fun w hw => by
  rcases List.mem_cons.mp hw with rfl | hw
  · exact h.2.2.2
  · exact hw
theorem gU_blind (av : List Value) : FrameBlind (va_Pc av (gU D B ca n σ ρ)) := fun a U g mk q => ⟨q.1, q.2.1, q.2.2.1, va_K.moved (u := U) (U := U.calling g mk a) (Vm.Alike.refl U.vm) q.2.2.2.1, gO_moved (u := U) (U := U.calling g mk a) (Vm.Alike.refl U.vm) q.2.2.2.2⟩
theorem g_call (C : gC p s m args c cc own nL D B ca) {out : Nat × PS × RF} {y : MethodName} {bytes : ByteArray} {maxL : Nat} {rm : Room} {mc ms : Nat} (As : List Value) {index i : Nat} (hM : Met l y (Cond.code y bytes maxL none :: gw_tbl) rm (va_Pc (.ref (pad B i) :: As) (gU D B ca n σ ρ)) (gQv D B ca out) mc ms (fun q => B ≤ q)) (hlink : Cond.methodLink own index y ∈ gw_tbl) (hg : gI y (Cond.code y bytes maxL none) As.length) (hrm : rm.cells = mc ∧ rm.slots = ms) (hR : rm.frames + 1 ≤ R.frames ∧ 8 + (maxL + 11) + rm.locals ≤ R.locals) {st : List Value} (hst : st = As.reverse ++ .ref (pad B i) :: rest) (hW : (rest.map fun v => v.category).sum ≤ 8) (hdg : decode cc pc = .ok (.invokespecial index, 3)) (hcs : cs + mc ≤ R.cells ∧ sl + ms ≤ R.slots) (kk : PG p l e R s m args below meth c nL D B ca (cs + mc) (sl + ms) Q out.1 out.2.1 out.2.2 (pc + 3) lv rest) : PG p l e R s m args below meth c nL D B ca cs sl Q n σ ρ pc lv st := fun H locs ls hP hz hS hl => by
  subst hst
  refine va_callv (va_runI (As := As) (rest := rest) ⟨C.1, C.2.1, C.2.2.1, C.2.2.2.1, C.2.2.2.2.1⟩ hM (cwI As.length C.2.2.2.2.1 (gw_I hg) rfl hrm.1 hrm.2 (C.2.2.2.2.1 _ hg.2.2.1) (C.2.2.2.2.1 _ hlink) (C.2.2.2.2.1 _ hg.2.1) hg.1.1 hg.1.2 hR) ⟨gU_blind _, fun U hU hW => ⟨rfl, by rw [hU]; exact hP, by rw [hU]; exact hz, va_K.moved hW.alike C.2.2.2.2.2.1, gO_moved hW.alike C.2.2.2.2.2.2.2⟩⟩ rfl rfl hl.1 rfl (lv_room hW) hdg hcs) hS (fun q _ h => h) (fun q h => h) (fun u t H1 locs1 ht hvm hw hB hz1 hk hS1 => ?_)
  cases hw; exact kk H1 locs1 ls (by rw [← ht]; exact hB.1) (by rw [← ht]; exact hB.2) hS1 hl
end GROWS2
