def pad (B : Nat) : Nat → Nat := fun i => B + i
abbrev RF : Type := Nat → Nat → Bool
def zr (σ : PS) (n : Nat) : PS := (fun a b => if a = n then 0 else σ.1 a b, fun a b => if a = n then 0 else σ.2 a b)
def zf (ρ : RF) (n : Nat) : RF := fun a b => if a = n then false else ρ a b
def sf (ρ : RF) (i k : Nat) : RF := fun a b => if a = i ∧ b = k then true else ρ a b
def zrR (σ : PS) (n N : Nat) : PS := (fun a b => if n ≤ a ∧ a ≤ n + N then 0 else σ.1 a b, fun a b => if n ≤ a ∧ a ≤ n + N then 0 else σ.2 a b)
def mf (ρ : RF) (n N : Nat) : RF := fun a b => if a = n then decide (b < N) else if n < a ∧ a ≤ n + N then false else ρ a b
def pg (B : Nat) (ca : Nat → ClassId) (σ : PS) (ρ : RF) (i : Nat) : va_E := match pk i with
  | 0 => .inr (0, [.int (σ.1 i 0), va_rf (if ρ i 1 then some (B + (95)) else none), .int (σ.1 i 2)])
  | 1 => .inr (1, [va_rf (if ρ i 0 then some (B + (1)) else none)])
  | 2 => .inr (2, [va_rf (if ρ i 0 then some (B + (217)) else none), va_rf (if ρ i 1 then some (B + (7)) else none), va_rf (if ρ i 2 then some (B + (223)) else none), .int (σ.1 i 3), .int (σ.1 i 4), .int (σ.1 i 5), .long (σ.2 i 6)])
  | 3 => .inr (3, [.int (σ.1 i 0), va_rf (if ρ i 1 then some (B + (8)) else none), va_rf (if ρ i 2 then some (B + (15)) else none), va_rf (if ρ i 3 then some (B + (16)) else none), va_rf (if ρ i 4 then some (B + (17)) else none), .int (σ.1 i 5), .int (σ.1 i 6)])
  | 4 => .inr (4, [va_rf (if ρ i 0 then some (B + (5)) else none), .int (σ.1 i 1), va_rf (if ρ i 2 then some (B + (1)) else none), va_rf (if ρ i 3 then some (B + (6)) else none), .int (σ.1 i 4), .int (σ.1 i 5), .int (σ.1 i 6), .int (σ.1 i 7)])
  | 5 => .inr (5, [va_rf (if ρ i 0 then some (B + (i + 1)) else none), va_rf (if ρ i 1 then some (B + (i + 7)) else none), va_rf (if ρ i 2 then some (B + (i + 13)) else none), va_rf (if ρ i 3 then some (B + (i + 14)) else none), .int (σ.1 i 4), .int (σ.1 i 5), .int (σ.1 i 6), .int (σ.1 i 7)])
  | 6 => .inr (6, [.int (σ.1 i 0), va_rf (if ρ i 1 then some (B + (241)) else none), .int (σ.1 i 2), .int (σ.1 i 3), va_rf (if ρ i 4 then some (B + (242)) else none), va_rf (if ρ i 5 then some (B + (248)) else none)])
  | 7 => .inr (7, [.int (σ.1 i 0), .int (σ.1 i 1), va_rf (if ρ i 2 then some (B + (7)) else none), va_rf (if ρ i 3 then some (B + (225)) else none), va_rf (if ρ i 4 then some (B + (231)) else none), va_rf (if ρ i 5 then some (B + (239)) else none)])
  | 8 => .inr (8, [va_rf (if ρ i 0 then some (B + (2)) else none), .int (σ.1 i 1), .int (σ.1 i 2), .int (σ.1 i 3), .int (σ.1 i 4), .int (σ.1 i 5)])
  | 9 => .inr (9, [.int (σ.1 i 0), .int (σ.1 i 1), .int (σ.1 i 2), .int (σ.1 i 3), .int (σ.1 i 4), .int (σ.1 i 5), .long (σ.2 i 6), va_rf (if ρ i 7 then some (B + (i + 1)) else none), va_rf (if ρ i 8 then some (B + (i + 2)) else none), va_rf (if ρ i 9 then some (B + (i + 3)) else none), va_rf (if ρ i 10 then some (B + (i + 4)) else none), va_rf (if ρ i 11 then some (B + (i + 5)) else none)])
  | 10 => .inr (10, [va_rf (if ρ i 0 then some (B + (1)) else none), va_rf (if ρ i 1 then some (B + (3)) else none), va_rf (if ρ i 2 then some (B + (4)) else none), va_rf (if ρ i 3 then some (B + (7)) else none), va_rf (if ρ i 4 then some (B + (18)) else none), va_rf (if ρ i 5 then some (B + (33)) else none), va_rf (if ρ i 6 then some (B + (94)) else none), va_rf (if ρ i 7 then some (B + (216)) else none), va_rf (if ρ i 8 then some (B + (224)) else none), va_rf (if ρ i 9 then some (B + (240)) else none)])
  | 11 => .inr (11, [va_rf (if ρ i 0 then some (B + (250)) else none), .int (σ.1 i 1), .int (σ.1 i 2), va_rf (if ρ i 3 then some (B + (251)) else none), va_rf (if ρ i 4 then some (B + (252)) else none), va_rf (if ρ i 5 then some (B + (253)) else none), va_rf (if ρ i 6 then some (B + (254)) else none), va_rf (if ρ i 7 then some (B + (255)) else none), .int (σ.1 i 8), .int (σ.1 i 9), .int (σ.1 i 10), .int (σ.1 i 11), .int (σ.1 i 12), .int (σ.1 i 13), .int (σ.1 i 14), va_rf (if ρ i 15 then some (B + (256)) else none), .int (σ.1 i 16), va_rf (if ρ i 17 then some (B + (257)) else none), .int (σ.1 i 18), va_rf (if ρ i 19 then some (B + (258)) else none), va_rf (if ρ i 20 then some (B + (259)) else none), .int (σ.1 i 21), .int (σ.1 i 22), va_rf (if ρ i 23 then some (B + (260)) else none), va_rf (if ρ i 24 then some (B + (261)) else none), va_rf (if ρ i 25 then some (B + (262)) else none), .int (σ.1 i 26), va_rf (if ρ i 27 then some (B + (263)) else none), va_rf (if ρ i 28 then some (B + (264)) else none), va_rf (if ρ i 29 then some (B + (265)) else none), va_rf (if ρ i 30 then some (B + (266)) else none), va_rf (if ρ i 31 then some (B + (267)) else none), va_rf (if ρ i 32 then some (B + (268)) else none), va_rf (if ρ i 33 then some (B + (269)) else none), .int (σ.1 i 34), va_rf (if ρ i 35 then some (B + (270)) else none), va_rf (if ρ i 36 then some (B + (271)) else none), va_rf (if ρ i 37 then some (B + (272)) else none), .long (σ.2 i 38), va_rf (if ρ i 39 then some (B + (273)) else none), va_rf (if ρ i 40 then some (B + (274)) else none), va_rf (if ρ i 41 then some (B + (275)) else none), va_rf (if ρ i 42 then some (B + (276)) else none)])
  | 20 => .inl (ca 0, pn i, .inl (σ.1 i))
  | 21 => .inl (ca 1, pn i, .inl (σ.1 i))
  | 22 => .inl (ca 2, pn i, .inr (.inl (σ.2 i)))
  | 23 => .inl (ca 3, pn i, .inl (σ.1 i))
  | 24 => .inl (ca 4, pn i, .inr (.inr (.inr (.inr (fun j => if ρ i j then some (B + (96 + 6 * j)) else none)))))
  | 25 => .inl (ca 5, pn i, .inr (.inr (.inr (.inr (fun j => if ρ i j then some (B + (34 + 15 * j)) else none)))))
  | 26 => .inl (ca 6, pn i, .inr (.inr (.inr (.inr (fun j => if ρ i j then some (B + (9 + j)) else none)))))
  | 27 => .inl (ca 6, pn i, .inr (.inr (.inr (.inr (fun j => if ρ i j then some (B + (232 + j)) else none)))))
  | _ => .inr (0, [])
def pWG (n B : Nat) (ca : Nat → ClassId) (σ : PS) (ρ : RF) : va_W := (List.range n).map (fun i => (pad B i, pg B ca σ ρ i))
section GROW
variable {B n : Nat} {ca : Nat → ClassId} {σ σ' : PS} {ρ ρ' : RF} {i j k : Nat}
theorem pg_congr (h1 : σ'.1 j = σ.1 j) (h2 : σ'.2 j = σ.2 j) (h3 : ρ' j = ρ j) : pg B ca σ' ρ' j = pg B ca σ ρ j := by
  unfold pg
  rw [h1, h2, h3]
theorem pWG_len : (pWG n B ca σ ρ).length = n := by simp [pWG]
theorem pWG_get (h : i < n) : (pWG n B ca σ ρ)[i]? = some (pad B i, pg B ca σ ρ i) := by
  unfold pWG
  rw [List.getElem?_map, List.getElem?_range h]
  rfl
theorem pWG_lt {q : Nat × va_E} (h : (pWG n B ca σ ρ)[i]? = some q) : i < n := by
  have h1 := (List.getElem?_eq_some_iff.mp h).1
  rwa [pWG_len] at h1
theorem pWG_D : va_D (fun q => B ≤ q) (pWG n B ca σ ρ) := by
  constructor
  · intro a b p q ha hb hpq
    have h1 := pWG_lt ha
    have h2 := pWG_lt hb
    rw [pWG_get h1] at ha
    rw [pWG_get h2] at hb
    cases ha
    cases hb
    have : B + a = B + b := hpq
    omega
  · intro a q ha
    have h1 := pWG_lt ha
    rw [pWG_get h1] at ha
    cases ha
    exact Nat.le_add_right B a
theorem pWG_set {e : va_E} (hi : i < n) (he : pg B ca σ' ρ' i = e) (h : ∀ j, j ≠ i → pg B ca σ' ρ' j = pg B ca σ ρ j) : (pWG n B ca σ ρ).set i (pad B i, e) = pWG n B ca σ' ρ' := by
  apply List.ext_getElem?
  intro a
  by_cases hk : a = i
  · subst hk
    rw [List.getElem?_set_self (by rw [pWG_len]; exact hi), pWG_get hi, he]
  · rw [List.getElem?_set_ne (Ne.symm hk)]
    by_cases ha : a < n
    · rw [pWG_get ha, pWG_get ha, h a hk]
    · rw [List.getElem?_eq_none (by rw [pWG_len]; omega), List.getElem?_eq_none (by rw [pWG_len]; omega)]
theorem pWG_P {D : va_G} {H1 : Heap} {N : Nat} (h1 : ∀ i, i < n → va_at D vwCl (pad B i, pg B ca σ' ρ' i) H1) (h2 : ∀ j, j < N → va_at D vwCl (pad B (n + j), pg B ca σ' ρ' (n + j)) H1) : va_P D vwCl (pWG (n + N) B ca σ' ρ') H1 := by
  intro a q ha
  have hl := pWG_lt ha
  rw [pWG_get hl] at ha
  cases ha
  by_cases h : a < n
  · exact h1 a h
  · have e : a = n + (a - n) := by omega
    rw [e]
    exact h2 _ (by omega)
theorem pWG_kept {D : va_G} {H H1 : Heap} (hP : va_P D vwCl (pWG n B ca σ ρ) H) (hz : H.size = B + n) (o1 : ∀ q, q < B + n → H1[q]? = H[q]?) (hc : ∀ j, j < n → pg B ca σ' ρ' j = pg B ca σ ρ j) : ∀ i, i < n → va_at D vwCl (pad B i, pg B ca σ' ρ' i) H1 := fun i hi => by
  rw [hc i hi]
  exact (hP i _ (pWG_get hi)).kept (o1 _ (show B + i < B + n by omega))
theorem zr_ne (h : j ≠ n) : (zr σ n).1 j = σ.1 j ∧ (zr σ n).2 j = σ.2 j ∧ (zf ρ n) j = ρ j := ⟨funext fun b => if_neg h, funext fun b => if_neg h, funext fun b => if_neg h⟩
theorem sf_ne (h : j ≠ i) : (sf ρ i k) j = ρ j := funext fun b => if_neg (fun q => h q.1)
end GROW
def gO (U : State) : Prop := va_AO "AskedCamp$World" U ∧ va_AO "AskedCamp$Scene" U ∧ (Cond.arrayOver (.array .int)).before #[] U = true
theorem gO_moved {u U : State} (h : u.vm.Alike U.vm) (g : gO u) : gO U := ⟨va_AO.moved h g.1, va_AO.moved h g.2.1, over_moved h g.2.2⟩
def gU (D : va_G) (B : Nat) (ca : Nat → ClassId) (n : Nat) (σ : PS) (ρ : RF) (U : State) : Prop := va_P D vwCl (pWG n B ca σ ρ) U.heap ∧ U.heap.size = B + n ∧ va_K D vwCl (pty ca) U ∧ gO U
def gB (D : va_G) (B : Nat) (ca : Nat → ClassId) (u : Nat × PS × RF) (t : State) : Prop := va_P D vwCl (pWG u.1 B ca u.2.1 u.2.2) t.heap ∧ t.heap.size = B + u.1
def gC (p : Program) (s : State) (m : MethodId) (args : Array Value) (c : Code) (cc : ByteArray) (own : String) (nL : Nat) (D : va_G) (B : Nat) (ca : Nat → ClassId) : Prop := p.tables.exec = Jvm.exec ∧ c.code = cc ∧ c.maxLocals = nL ∧ s.vm.findClass own = some m.cls ∧ (∀ w ∈ gw_tbl, w.before args s = true) ∧ va_K D vwCl (pty ca) s ∧ B ≤ s.heap.size ∧ gO s
def PG (p : Program) (l : Launch) (e : Env) (R : Room) (s : State) (m : MethodId) (args : Array Value) (below : List Frame) (meth : Method) (c : Code) (nL : Nat) (D : va_G) (B : Nat) (ca : Nat → ClassId) (cs sl : Nat) (Q : State → Prop) (n : Nat) (σ : PS) (ρ : RF) (pc : Nat) (lv : List (Nat × Value)) (st : List Value) : Prop := ∀ (H : Heap) (locs : List Loc) (ls : Array Slot), va_P D vwCl (pWG n B ca σ ρ) H → H.size = B + n → va_S (fun q => B ≤ q) s.heap H locs → lv_has ls nL lv → W p l e R s m args below meth c H locs cs sl Q (F0 m pc ls st)
section GROWS
variable {p : Program} {l : Launch} {e : Env} {R : Room} {s : State} {m : MethodId} {args : Array Value} {below : List Frame} {meth : Method} {c : Code} {cc : ByteArray} {own : String} {nL : Nat} {D : va_G} {B : Nat} {ca : Nat → ClassId} {cs sl : Nat} {Q : State → Prop} {n : Nat} {σ : PS} {ρ : RF} {pc : Nat} {lv : List (Nat × Value)} {rest : List Value}
theorem g_iconst (C : gC p s m args c cc own nL D B ca) {n0 : Int} {v : Int32} (hdg : decode cc pc = .ok (.iconst n0, 1)) (hv : Int32.ofInt n0 = v) (k : PG p l e R s m args below meth c nL D B ca cs sl Q n σ ρ (pc + 1) lv (.int v :: rest)) : PG p l e R s m args below meth c nL D B ca cs sl Q n σ ρ pc lv (rest) := fun H locs ls hP hz hS hl => lv_iconst C.1 C.2.1 hdg hv (k H locs ls hP hz hS hl)
theorem g_bipush (C : gC p s m args c cc own nL D B ca) {n0 : Int} {v : Int32} (hdg : decode cc pc = .ok (.bipush n0, 2)) (hv : (Int8.ofInt n0).toInt32 = v) (k : PG p l e R s m args below meth c nL D B ca cs sl Q n σ ρ (pc + 2) lv (.int v :: rest)) : PG p l e R s m args below meth c nL D B ca cs sl Q n σ ρ pc lv (rest) := fun H locs ls hP hz hS hl => lv_bipush C.1 C.2.1 hdg hv (k H locs ls hP hz hS hl)
theorem g_sipush (C : gC p s m args c cc own nL D B ca) {n0 : Int} {v : Int32} (hdg : decode cc pc = .ok (.sipush n0, 3)) (hv : (Int16.ofInt n0).toInt32 = v) (k : PG p l e R s m args below meth c nL D B ca cs sl Q n σ ρ (pc + 3) lv (.int v :: rest)) : PG p l e R s m args below meth c nL D B ca cs sl Q n σ ρ pc lv (rest) := fun H locs ls hP hz hS hl => lv_sipush C.1 C.2.1 hdg hv (k H locs ls hP hz hS hl)
theorem g_iload_n (C : gC p s m args c cc own nL D B ca) {kf : Fin 4} {i : Nat} {x : Int32} (k0 : Nat) (hdg : decode cc pc = .ok (.iload_n kf, 1)) (hi : (kf : Nat) = i) (hk : lv[k0]? = some (i, .int x)) (k : PG p l e R s m args below meth c nL D B ca cs sl Q n σ ρ (pc + 1) lv (.int x :: rest)) : PG p l e R s m args below meth c nL D B ca cs sl Q n σ ρ pc lv (rest) := fun H locs ls hP hz hS hl => lv_iload_n C.1 C.2.1 hdg hi (lv_at hl k0 hk) (k H locs ls hP hz hS hl)
theorem g_aload_n (C : gC p s m args c cc own nL D B ca) {kf : Fin 4} {i : Nat} {x : Nat} (k0 : Nat) (hdg : decode cc pc = .ok (.aload_n kf, 1)) (hi : (kf : Nat) = i) (hk : lv[k0]? = some (i, .ref x)) (k : PG p l e R s m args below meth c nL D B ca cs sl Q n σ ρ (pc + 1) lv (.ref x :: rest)) : PG p l e R s m args below meth c nL D B ca cs sl Q n σ ρ pc lv (rest) := fun H locs ls hP hz hS hl => lv_aload_n C.1 C.2.1 hdg hi (lv_at hl k0 hk) (k H locs ls hP hz hS hl)
theorem g_istore_n (C : gC p s m args c cc own nL D B ca) {kf : Fin 4} {i : Nat} {x : Int32} (lv1 : List (Nat × Value)) (hdg : decode cc pc = .ok (.istore_n kf, 1)) (hi : (kf : Nat) = i) (hn : i < nL) (hl1 : (i, Value.int x) :: lv.filter (fun q => !(q.1 == i) && !(q.1 + 1 == i && q.2.category == 2)) = lv1) (k : PG p l e R s m args below meth c nL D B ca cs sl Q n σ ρ (pc + 1) lv1 rest) : PG p l e R s m args below meth c nL D B ca cs sl Q n σ ρ pc lv (.int x :: rest) := fun H locs ls hP hz hS hl => lv_istore_n C.1 C.2.1 hdg hi hl hn hl1 (fun ls1 hl2 => k H locs ls1 hP hz hS hl2)
theorem g_astore_n (C : gC p s m args c cc own nL D B ca) {kf : Fin 4} {i : Nat} {x : Nat} (lv1 : List (Nat × Value)) (hdg : decode cc pc = .ok (.astore_n kf, 1)) (hi : (kf : Nat) = i) (hn : i < nL) (hl1 : (i, Value.ref x) :: lv.filter (fun q => !(q.1 == i) && !(q.1 + 1 == i && q.2.category == 2)) = lv1) (k : PG p l e R s m args below meth c nL D B ca cs sl Q n σ ρ (pc + 1) lv1 rest) : PG p l e R s m args below meth c nL D B ca cs sl Q n σ ρ pc lv (.ref x :: rest) := fun H locs ls hP hz hS hl => lv_astore_n C.1 C.2.1 hdg hi hl hn hl1 (fun ls1 hl2 => k H locs ls1 hP hz hS hl2)
theorem g_iinc (C : gC p s m args c cc own nL D B ca) {i : Nat} {n0 : Int} {x v : Int32} (k0 : Nat) (lv1 : List (Nat × Value)) (hdg : decode cc pc = .ok (.iinc i n0, 3)) (hk : lv[k0]? = some (i, .int x)) (hv : x + Int32.ofInt n0 = v) (hn : i < nL) (hl1 : (i, Value.int v) :: lv.filter (fun q => !(q.1 == i) && !(q.1 + 1 == i && q.2.category == 2)) = lv1) (k : PG p l e R s m args below meth c nL D B ca cs sl Q n σ ρ (pc + 3) lv1 rest) : PG p l e R s m args below meth c nL D B ca cs sl Q n σ ρ pc lv rest := fun H locs ls hP hz hS hl => lv_iinc C.1 C.2.1 hdg hl hk hv hn hl1 (fun ls1 hl2 => k H locs ls1 hP hz hS hl2)
theorem g_dup (C : gC p s m args c cc own nL D B ca) {va : Value} (hdg : decode cc pc = .ok (.dup, 1)) (hva : va.category = 1) (k : PG p l e R s m args below meth c nL D B ca cs sl Q n σ ρ (pc + 1) lv (va :: va :: rest)) : PG p l e R s m args below meth c nL D B ca cs sl Q n σ ρ pc lv (va :: rest) := fun H locs ls hP hz hS hl => lv_dup C.1 C.2.1 hdg hva (k H locs ls hP hz hS hl)
theorem g_goto (C : gC p s m args c cc own nL D B ca) {off : Int} {tgt : Nat} (hdg : decode cc pc = .ok (.goto off, 3)) (ht : (pc : Int) + off = (tgt : Int)) (k : PG p l e R s m args below meth c nL D B ca cs sl Q n σ ρ tgt lv rest) : PG p l e R s m args below meth c nL D B ca cs sl Q n σ ρ pc lv rest := fun H locs ls hP hz hS hl => lv_goto C.1 C.2.1 hdg ht (k H locs ls hP hz hS hl)
theorem g_icmp_ge (C : gC p s m args c cc own nL D B ca) {x y : Int32} {off : Int} {tgt : Nat} (hdg : decode cc pc = .ok (.if_icmp .ge off, 3)) (ht : (pc : Int) + off = (tgt : Int)) (kt : y ≤ x → PG p l e R s m args below meth c nL D B ca cs sl Q n σ ρ tgt lv rest) (kf : ¬ y ≤ x → PG p l e R s m args below meth c nL D B ca cs sl Q n σ ρ (pc + 3) lv rest) : PG p l e R s m args below meth c nL D B ca cs sl Q n σ ρ pc lv (.int y :: .int x :: rest) := fun H locs ls hP hz hS hl => lv_icmp_ge C.1 C.2.1 hdg ht (fun h => kt h H locs ls hP hz hS hl) (fun h => kf h H locs ls hP hz hS hl)
theorem g_lv (lv1 : List (Nat × Value)) (h : lv = lv1) {st : List Value} (k : PG p l e R s m args below meth c nL D B ca cs sl Q n σ ρ pc lv1 st) : PG p l e R s m args below meth c nL D B ca cs sl Q n σ ρ pc lv st := h ▸ k
theorem g_n {n1 : Nat} (h : n = n1) {st : List Value} (k : PG p l e R s m args below meth c nL D B ca cs sl Q n1 σ ρ pc lv st) : PG p l e R s m args below meth c nL D B ca cs sl Q n σ ρ pc lv st := h ▸ k
theorem g_objInit (C : gC p s m args c cc own nL D B ca) {idx a : Nat} (hl0 : Cond.methodLink own idx objectInit ∈ gw_tbl) (hc0 : Cond.instanceMethod objectInit ∈ gw_tbl) (hc1 : Cond.code objectInit ⟨#[0xb1]⟩ 1 none ∈ gw_tbl) (hdg : decode cc pc = .ok (.invokespecial idx, 3)) (hR : 1 ≤ R.frames ∧ (rest.map fun v => v.category).sum + 12 ≤ R.locals) (k : PG p l e R s m args below meth c nL D B ca cs sl Q n σ ρ (pc + 3) lv rest) : PG p l e R s m args below meth c nL D B ca cs sl Q n σ ρ pc lv (.ref a :: rest) := fun H locs ls hP hz hS hl => W.objInit C.1 C.2.1 C.2.2.2.1 (C.2.2.2.2.1 _ hl0) (C.2.2.2.2.1 _ hc0) (C.2.2.2.2.1 _ hc1) rfl (by rw [C.2.2.1]; exact hl.1) rfl hdg hR.1 (by have := hR.2; simpa [JFrame.monitorRoom] using this) (k H locs ls hP hz hS hl)
theorem g_new (C : gC p s m args c cc own nL D B ca) {ci N index : Nat} {Cn : String} {T : u_T} {fs : List Value} (hin : ∀ w ∈ u_ws Cn T N, w ∈ gw_tbl) (ty : Nat → FieldType) (hty : ∀ k, k < N → parseFieldDescriptor (T k).2.2.1 = some (ty k)) (hc : vwCl[ci]? = some (Cn, T, N)) (hcl : Cond.classLink own index Cn ∈ gw_tbl) (hinst : Cond.instantiable Cn N ∈ gw_tbl) (hini : Cond.initialized Cn ∈ gw_tbl) (hpg : pg B ca (zr σ n) (zf ρ n) n = .inr (ci, fs)) (hfs : ∀ j, j < N → defaultValue (ty j) = vp_V fs j) (hr : cs + 1 ≤ R.cells ∧ sl + N ≤ R.slots) (hdg : decode cc pc = .ok (.new index, 3)) (kk : PG p l e R s m args below meth c nL D B ca (cs + 1) (sl + N) Q (n + 1) (zr σ n) (zf ρ n) (pc + 3) lv (.ref (pad B n) :: rest)) : PG p l e R s m args below meth c nL D B ca cs sl Q n σ ρ pc lv rest := by
  intro H locs ls hP hz hS hl
  have hKn := C.2.2.2.2.2.1.1 ci _ hc
  refine W.newcK C.1 C.2.1 C.2.2.2.1 (C.2.2.2.2.1 _ hcl) (C.2.2.2.2.1 _ hinst) (C.2.2.2.2.1 _ hini) rfl hdg hr.1 hr.2 hKn.2.1 hz fun H1 kC hkC e1 z1 o1 => ?_
  refine kk H1 locs ls (pWG_P (pWG_kept hP hz o1 (fun j hj => pg_congr (zr_ne (ρ := ρ) (Nat.ne_of_lt hj)).1 (zr_ne (ρ := ρ) (Nat.ne_of_lt hj)).2.1 (zr_ne (σ := σ) (Nat.ne_of_lt hj)).2.2)) (fun j hj => ?_)) (by rw [z1]; omega) ⟨Nat.le_trans hS.1 (by omega), fun x h1 h2 => (o1 x (by have := hS.1; omega)).trans (hS.2.1 x h1 h2), hS.2.2⟩ hl
  have ej : j = 0 := by omega
  subst ej
  show va_at D vwCl (pad B n, pg B ca (zr σ n) (zf ρ n) n) H1
  rw [hpg]
  exact ⟨_, hc, (u_born ty C.2.2.2.2.1 hin hKn hkC e1 hty).to hfs⟩
theorem g_newa20 (C : gC p s m args c cc own nL D B ca) {N : Nat} {v : Int32} (hk : pk n = 20 ∧ pn n = N) (harr : Cond.arrayClass .byte ∈ gw_tbl) (hv : ¬ v < 0 ∧ v.toNatClampNeg = N ∧ N * componentBytes .byte ≤ 536870912) (hr : cs + 1 ≤ R.cells ∧ sl + N ≤ R.slots) (hdg : decode cc pc = .ok (.newarray .byte, 2)) (kk : PG p l e R s m args below meth c nL D B ca (cs + 1) (sl + N) Q (n + 1) (zr σ n) (zf ρ n) (pc + 2) lv (.ref (pad B n) :: rest)) : PG p l e R s m args below meth c nL D B ca cs sl Q n σ ρ pc lv (.int v :: rest) := by
  intro H locs ls hP hz hS hl
  refine va_newaK (atype := .byte) C.1 C.2.1 (C.2.2.2.2.1 _ harr) rfl hdg rfl hv.1 hv.2.1 hv.2.2 hr.1 hr.2 hz fun H1 cA e1 z1 o1 hAr hfc => ?_
  have hca : cA = ca 0 := Option.some.inj (hfc.symm.trans (C.2.2.2.2.2.1.2 0 _ rfl).2)
  subst hca
  refine kk H1 locs ls (pWG_P (pWG_kept hP hz o1 (fun j hj => pg_congr (zr_ne (ρ := ρ) (Nat.ne_of_lt hj)).1 (zr_ne (ρ := ρ) (Nat.ne_of_lt hj)).2.1 (zr_ne (σ := σ) (Nat.ne_of_lt hj)).2.2)) (fun j hj => ?_)) (by rw [z1]; omega) ⟨Nat.le_trans hS.1 (by omega), fun x h1 h2 => (o1 x (by have := hS.1; omega)).trans (hS.2.1 x h1 h2), hS.2.2⟩ hl
  have ej : j = 0 := by omega
  subst ej
  show va_at D vwCl (pad B n, pg B ca (zr σ n) (zf ρ n) n) H1
  have hp : pg B ca (zr σ n) (zf ρ n) n = .inl (ca 0, N, .inl (fun _ => 0)) := by
    simp only [pg, hk.1, hk.2]
    simp [zr]
  rw [hp]
  exact e1
theorem g_newa21 (C : gC p s m args c cc own nL D B ca) {N : Nat} {v : Int32} (hk : pk n = 21 ∧ pn n = N) (harr : Cond.arrayClass .int ∈ gw_tbl) (hv : ¬ v < 0 ∧ v.toNatClampNeg = N ∧ N * componentBytes .int ≤ 536870912) (hr : cs + 1 ≤ R.cells ∧ sl + N ≤ R.slots) (hdg : decode cc pc = .ok (.newarray .int, 2)) (kk : PG p l e R s m args below meth c nL D B ca (cs + 1) (sl + N) Q (n + 1) (zr σ n) (zf ρ n) (pc + 2) lv (.ref (pad B n) :: rest)) : PG p l e R s m args below meth c nL D B ca cs sl Q n σ ρ pc lv (.int v :: rest) := by
  intro H locs ls hP hz hS hl
  refine va_newaK (atype := .int) C.1 C.2.1 (C.2.2.2.2.1 _ harr) rfl hdg rfl hv.1 hv.2.1 hv.2.2 hr.1 hr.2 hz fun H1 cA e1 z1 o1 hAr hfc => ?_
  have hca : cA = ca 1 := Option.some.inj (hfc.symm.trans (C.2.2.2.2.2.1.2 1 _ rfl).2)
  subst hca
  refine kk H1 locs ls (pWG_P (pWG_kept hP hz o1 (fun j hj => pg_congr (zr_ne (ρ := ρ) (Nat.ne_of_lt hj)).1 (zr_ne (ρ := ρ) (Nat.ne_of_lt hj)).2.1 (zr_ne (σ := σ) (Nat.ne_of_lt hj)).2.2)) (fun j hj => ?_)) (by rw [z1]; omega) ⟨Nat.le_trans hS.1 (by omega), fun x h1 h2 => (o1 x (by have := hS.1; omega)).trans (hS.2.1 x h1 h2), hS.2.2⟩ hl
  have ej : j = 0 := by omega
  subst ej
  show va_at D vwCl (pad B n, pg B ca (zr σ n) (zf ρ n) n) H1
  have hp : pg B ca (zr σ n) (zf ρ n) n = .inl (ca 1, N, .inl (fun _ => 0)) := by
    simp only [pg, hk.1, hk.2]
    simp [zr]
  rw [hp]
  exact e1
theorem g_newa22 (C : gC p s m args c cc own nL D B ca) {N : Nat} {v : Int32} (hk : pk n = 22 ∧ pn n = N) (harr : Cond.arrayClass .long ∈ gw_tbl) (hv : ¬ v < 0 ∧ v.toNatClampNeg = N ∧ N * componentBytes .long ≤ 536870912) (hr : cs + 1 ≤ R.cells ∧ sl + N ≤ R.slots) (hdg : decode cc pc = .ok (.newarray .long, 2)) (kk : PG p l e R s m args below meth c nL D B ca (cs + 1) (sl + N) Q (n + 1) (zr σ n) (zf ρ n) (pc + 2) lv (.ref (pad B n) :: rest)) : PG p l e R s m args below meth c nL D B ca cs sl Q n σ ρ pc lv (.int v :: rest) := by
  intro H locs ls hP hz hS hl
  refine va_newaK (atype := .long) C.1 C.2.1 (C.2.2.2.2.1 _ harr) rfl hdg rfl hv.1 hv.2.1 hv.2.2 hr.1 hr.2 hz fun H1 cA e1 z1 o1 hAr hfc => ?_
  have hca : cA = ca 2 := Option.some.inj (hfc.symm.trans (C.2.2.2.2.2.1.2 2 _ rfl).2)
  subst hca
  refine kk H1 locs ls (pWG_P (pWG_kept hP hz o1 (fun j hj => pg_congr (zr_ne (ρ := ρ) (Nat.ne_of_lt hj)).1 (zr_ne (ρ := ρ) (Nat.ne_of_lt hj)).2.1 (zr_ne (σ := σ) (Nat.ne_of_lt hj)).2.2)) (fun j hj => ?_)) (by rw [z1]; omega) ⟨Nat.le_trans hS.1 (by omega), fun x h1 h2 => (o1 x (by have := hS.1; omega)).trans (hS.2.1 x h1 h2), hS.2.2⟩ hl
  have ej : j = 0 := by omega
  subst ej
  show va_at D vwCl (pad B n, pg B ca (zr σ n) (zf ρ n) n) H1
  have hp : pg B ca (zr σ n) (zf ρ n) n = .inl (ca 2, N, .inr (.inl (fun _ => 0))) := by
    simp only [pg, hk.1, hk.2]
    simp [zr]
  rw [hp]
  exact e1
theorem g_newa23 (C : gC p s m args c cc own nL D B ca) {N : Nat} {v : Int32} (hk : pk n = 23 ∧ pn n = N) (harr : Cond.arrayClass .boolean ∈ gw_tbl) (hv : ¬ v < 0 ∧ v.toNatClampNeg = N ∧ N * componentBytes .boolean ≤ 536870912) (hr : cs + 1 ≤ R.cells ∧ sl + N ≤ R.slots) (hdg : decode cc pc = .ok (.newarray .boolean, 2)) (kk : PG p l e R s m args below meth c nL D B ca (cs + 1) (sl + N) Q (n + 1) (zr σ n) (zf ρ n) (pc + 2) lv (.ref (pad B n) :: rest)) : PG p l e R s m args below meth c nL D B ca cs sl Q n σ ρ pc lv (.int v :: rest) := by
  intro H locs ls hP hz hS hl
  refine va_newaK (atype := .boolean) C.1 C.2.1 (C.2.2.2.2.1 _ harr) rfl hdg rfl hv.1 hv.2.1 hv.2.2 hr.1 hr.2 hz fun H1 cA e1 z1 o1 hAr hfc => ?_
  have hca : cA = ca 3 := Option.some.inj (hfc.symm.trans (C.2.2.2.2.2.1.2 3 _ rfl).2)
  subst hca
  refine kk H1 locs ls (pWG_P (pWG_kept hP hz o1 (fun j hj => pg_congr (zr_ne (ρ := ρ) (Nat.ne_of_lt hj)).1 (zr_ne (ρ := ρ) (Nat.ne_of_lt hj)).2.1 (zr_ne (σ := σ) (Nat.ne_of_lt hj)).2.2)) (fun j hj => ?_)) (by rw [z1]; omega) ⟨Nat.le_trans hS.1 (by omega), fun x h1 h2 => (o1 x (by have := hS.1; omega)).trans (hS.2.1 x h1 h2), hS.2.2⟩ hl
  have ej : j = 0 := by omega
  subst ej
  show va_at D vwCl (pad B n, pg B ca (zr σ n) (zf ρ n) n) H1
  have hp : pg B ca (zr σ n) (zf ρ n) n = .inl (ca 3, N, .inl (fun _ => 0)) := by
    simp only [pg, hk.1, hk.2]
    simp [zr]
  rw [hp]
  exact e1
theorem g_anew24 (C : gC p s m args c cc own nL D B ca) {N index : Nat} {v : Int32} (hk : pk n = 24 ∧ pn n = N) (hcl : Cond.classLink own index "AskedCamp$World" ∈ gw_tbl) (hv : ¬ v < 0 ∧ v.toNatClampNeg = N ∧ N * 4 ≤ 536870912) (hr : cs + 1 ≤ R.cells ∧ sl + N ≤ R.slots) (hdg : decode cc pc = .ok (.anewarray index, 3)) (kk : PG p l e R s m args below meth c nL D B ca (cs + 1) (sl + N) Q (n + 1) (zr σ n) (zf ρ n) (pc + 3) lv (.ref (pad B n) :: rest)) : PG p l e R s m args below meth c nL D B ca cs sl Q n σ ρ pc lv (.int v :: rest) := by
  intro H locs ls hP hz hS hl
  obtain ⟨hv1, hv2, hv3⟩ := hv
  subst hv2
  refine W.anew C.1 C.2.1 C.2.2.2.1 (C.2.2.2.2.1 _ hcl) (va_AO.use C.2.2.2.2.2.2.2.1) rfl hdg rfl hv1 hv3 hr.1 hr.2 fun cA kA comp f1 f2 f3 f4 => ?_
  obtain ⟨kA', comp', r1, r2, r3, r4⟩ := (C.2.2.2.2.2.1.2 4 _ rfl).2
  have hca : cA = ca 4 := Option.some.inj (f1.symm.trans r4)
  subst hca
  generalize hH1 : H.push ({ cls := ca 4, slots := Array.replicate v.toNatClampNeg .null, vm := .none } : Cell) = H1
  have z1 : H1.size = H.size + 1 := by rw [← hH1, Array.size_push]
  have e1 : H1[H.size]? = some (arrV (ca 4) v.toNatClampNeg (fun _ => .null)) := by rw [← hH1, Array.getElem?_push_size, ← arrV_new]
  have o1 : ∀ q : Nat, q < B + n → H1[q]? = H[q]? := fun q hq => by rw [← hH1, Array.getElem?_push, if_neg (by omega)]
  have hz' : H.size = pad B n := hz
  rw [hz'] at e1
  rw [show (F0 m pc ls (.int v :: rest)).pc = pc from rfl, hz']
  refine kk H1 locs ls (pWG_P (pWG_kept hP hz o1 (fun j hj => pg_congr (zr_ne (ρ := ρ) (Nat.ne_of_lt hj)).1 (zr_ne (ρ := ρ) (Nat.ne_of_lt hj)).2.1 (zr_ne (σ := σ) (Nat.ne_of_lt hj)).2.2)) (fun j hj => ?_)) (by rw [z1]; omega) ⟨Nat.le_trans hS.1 (by omega), fun x h1 h2 => (o1 x (by have := hS.1; omega)).trans (hS.2.1 x h1 h2), hS.2.2⟩ hl
  have ej : j = 0 := by omega
  subst ej
  show va_at D vwCl (pad B n, pg B ca (zr σ n) (zf ρ n) n) H1
  have hp : pg B ca (zr σ n) (zf ρ n) n = .inl (ca 4, v.toNatClampNeg, .inr (.inr (.inr (.inr (fun _ => none))))) := by
    simp only [pg, hk.1, hk.2]
    simp [zf]
  rw [hp]
  exact e1
theorem g_anew25 (C : gC p s m args c cc own nL D B ca) {N index : Nat} {v : Int32} (hk : pk n = 25 ∧ pn n = N) (hcl : Cond.classLink own index "AskedCamp$Scene" ∈ gw_tbl) (hv : ¬ v < 0 ∧ v.toNatClampNeg = N ∧ N * 4 ≤ 536870912) (hr : cs + 1 ≤ R.cells ∧ sl + N ≤ R.slots) (hdg : decode cc pc = .ok (.anewarray index, 3)) (kk : PG p l e R s m args below meth c nL D B ca (cs + 1) (sl + N) Q (n + 1) (zr σ n) (zf ρ n) (pc + 3) lv (.ref (pad B n) :: rest)) : PG p l e R s m args below meth c nL D B ca cs sl Q n σ ρ pc lv (.int v :: rest) := by
  intro H locs ls hP hz hS hl
  obtain ⟨hv1, hv2, hv3⟩ := hv
  subst hv2
  refine W.anew C.1 C.2.1 C.2.2.2.1 (C.2.2.2.2.1 _ hcl) (va_AO.use C.2.2.2.2.2.2.2.2.1) rfl hdg rfl hv1 hv3 hr.1 hr.2 fun cA kA comp f1 f2 f3 f4 => ?_
  obtain ⟨kA', comp', r1, r2, r3, r4⟩ := (C.2.2.2.2.2.1.2 5 _ rfl).2
  have hca : cA = ca 5 := Option.some.inj (f1.symm.trans r4)
  subst hca
  generalize hH1 : H.push ({ cls := ca 5, slots := Array.replicate v.toNatClampNeg .null, vm := .none } : Cell) = H1
  have z1 : H1.size = H.size + 1 := by rw [← hH1, Array.size_push]
  have e1 : H1[H.size]? = some (arrV (ca 5) v.toNatClampNeg (fun _ => .null)) := by rw [← hH1, Array.getElem?_push_size, ← arrV_new]
  have o1 : ∀ q : Nat, q < B + n → H1[q]? = H[q]? := fun q hq => by rw [← hH1, Array.getElem?_push, if_neg (by omega)]
  have hz' : H.size = pad B n := hz
  rw [hz'] at e1
  rw [show (F0 m pc ls (.int v :: rest)).pc = pc from rfl, hz']
  refine kk H1 locs ls (pWG_P (pWG_kept hP hz o1 (fun j hj => pg_congr (zr_ne (ρ := ρ) (Nat.ne_of_lt hj)).1 (zr_ne (ρ := ρ) (Nat.ne_of_lt hj)).2.1 (zr_ne (σ := σ) (Nat.ne_of_lt hj)).2.2)) (fun j hj => ?_)) (by rw [z1]; omega) ⟨Nat.le_trans hS.1 (by omega), fun x h1 h2 => (o1 x (by have := hS.1; omega)).trans (hS.2.1 x h1 h2), hS.2.2⟩ hl
  have ej : j = 0 := by omega
  subst ej
  show va_at D vwCl (pad B n, pg B ca (zr σ n) (zf ρ n) n) H1
  have hp : pg B ca (zr σ n) (zf ρ n) n = .inl (ca 5, v.toNatClampNeg, .inr (.inr (.inr (.inr (fun _ => none))))) := by
    simp only [pg, hk.1, hk.2]
    simp [zf]
  rw [hp]
  exact e1
end GROWS
