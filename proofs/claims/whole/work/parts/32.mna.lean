section MNA
variable {p : Program} {l : Launch} {e : Env} {R : Room} {s : State} {m : MethodId} {args : Array Value} {below : List Frame} {meth : Method} {c : Code} {cc : ByteArray} {own : String} {nL : Nat} {D : va_G} {B : Nat} {ca : Nat → ClassId} {cs sl : Nat} {Q : State → Prop} {n : Nat} {σ : PS} {ρ : RF} {pc : Nat} {lv : List (Nat × Value)} {rest : List Value}
theorem vr_outer (c : ClassId) (N h0 : Nat) : ∀ i : Nat, Jvm.Free.Multi.outerC c N h0 i = arrV c N (fun j => va_rf (if j < i then some (h0 + 1 + j) else none))
  | 0 => by
    show ({ cls := c, slots := Array.replicate N .null, vm := .none } : Cell) = _
    rw [arrV_new]
    refine congrArg (arrV c N) (funext fun j => ?_)
    simp [va_rf]
  | i + 1 => by
    show (Jvm.Free.Multi.outerC c N h0 i).setSlot i (.ref (h0 + 1 + i)) = _
    rw [vr_outer c N h0 i, arrV_store]
    refine congrArg (arrV c N) (funext fun j => ?_)
    by_cases e : j = i
    · subst e
      simp [updV, va_rf]
    · by_cases h : j < i
      · simp [updV, e, h, Nat.lt_succ_of_lt h]
      · simp [updV, e, h, show ¬ j < i + 1 by omega]
theorem g_mna26 (C : gC p s m args c cc own nL D B ca) {index : Nat} {v1 v2 : Int32} (hk : pk n = 26 ∧ pn n = v1.toNatClampNeg) (hrows : ∀ j, j < v1.toNatClampNeg → pk (n + 1 + j) = 21 ∧ pn (n + 1 + j) = v2.toNatClampNeg) (hn : n + 1 = 9) (hcl : Cond.classLink own index "[[I" ∈ gw_tbl) (harr : Cond.arrayClass .int ∈ gw_tbl) (h1 : ¬ v1 < 0) (h2 : ¬ v2 < 0) (hb1 : v1.toNatClampNeg * 4 ≤ 536870912) (hb2 : v2.toNatClampNeg * componentBytes .int ≤ 536870912) (hb3 : v2.toNatClampNeg ≤ 536870912) (hr : cs + (1 + v1.toNatClampNeg) ≤ R.cells ∧ sl + (v1.toNatClampNeg + v1.toNatClampNeg * v2.toNatClampNeg) ≤ R.slots) (hdg : decode cc pc = .ok (.multianewarray index 2, 4)) (kk : PG p l e R s m args below meth c nL D B ca (cs + (1 + v1.toNatClampNeg)) (sl + (v1.toNatClampNeg + v1.toNatClampNeg * v2.toNatClampNeg)) Q (n + (1 + v1.toNatClampNeg)) (zrR σ n v1.toNatClampNeg) (mf ρ n v1.toNatClampNeg) (pc + 4) lv (.ref (pad B n) :: rest)) : PG p l e R s m args below meth c nL D B ca cs sl Q n σ ρ pc lv (.int v2 :: .int v1 :: rest) := by
  intro H locs ls hP hz hS hl T hT Xs
  have hK := C.2.2.2.2.2.1
  obtain ⟨vm₁, cA, comp, -, fA, fC, hO, -, X', step⟩ := Xs.multianewarray2F (ty := .int) C.1 C.2.2.2.1 (C.2.2.2.2.1 _ hcl) (over_moved (Vm.Alike.refl s.vm) C.2.2.2.2.2.2.2.2.2) (C.2.2.2.2.1 _ harr) (g := F0 m pc ls (.int v2 :: .int v1 :: rest)) rfl (by rw [C.2.1]; exact hdg) rfl h1 h2 hb1 hb2 hb3 rfl rfl hr.1 hr.2
  have ec : comp = ca 1 := Option.some.inj (fC.symm.trans (hK.2 1 _ rfl).2)
  have eA : cA = ca 6 := Option.some.inj (fA.symm.trans (hK.2 6 _ rfl).2)
  subst ec
  subst eA
  generalize hF : Jvm.Free.Multi.fill (T.setVm vm₁) (ca 6) (ca 1) v1.toNatClampNeg v2.toNatClampNeg (defaultValue .int) v1.toNatClampNeg = F at X' step
  have hTh : (T.setVm vm₁).heap = H := hT
  obtain ⟨f1, f2, -, -⟩ := Jvm.Free.Multi.fill_facts (T.setVm vm₁) (ca 6) (ca 1) v1.toNatClampNeg v2.toNatClampNeg (defaultValue .int) v1.toNatClampNeg
  rw [hF, hTh] at f1 f2
  have hold : ∀ x : Nat, x < B + n → F.heap[x]? = H[x]? := fun x hx => by
    have := Jvm.Free.Multi.fill_old (T.setVm vm₁) (ca 6) (ca 1) v1.toNatClampNeg v2.toNatClampNeg (defaultValue .int) (a := x) (by rw [hTh, hz]; exact hx) v1.toNatClampNeg
    rw [hF, hTh] at this
    exact this
  have hrow : ∀ j : Nat, j < v1.toNatClampNeg → F.heap[H.size + 1 + j]? = some (arrV (ca 1) v2.toNatClampNeg (fun _ => .int 0)) := fun j hj => by
    have := Jvm.Free.Multi.fill_inner (T.setVm vm₁) (ca 6) (ca 1) v1.toNatClampNeg v2.toNatClampNeg (defaultValue .int) v1.toNatClampNeg j hj
    rw [hF, hTh] at this
    rw [this]
    show some ({ cls := ca 1, slots := Array.replicate v2.toNatClampNeg (defaultValue .int), vm := .none } : Cell) = _
    rw [arrV_new]
    rfl
  rw [vr_outer] at f2
  have hP1 : va_P D vwCl (pWG (n + (1 + v1.toNatClampNeg)) B ca (zrR σ n v1.toNatClampNeg) (mf ρ n v1.toNatClampNeg)) F.heap := by
    refine pWG_P (pWG_kept hP hz hold (fun j hj => pg_congr (funext fun b => if_neg (by omega)) (funext fun b => if_neg (by omega)) (funext fun b => by simp [mf, show j ≠ n by omega, show ¬ (n < j ∧ j ≤ n + v1.toNatClampNeg) by omega]))) (fun j hj => ?_)
    by_cases h0 : j = 0
    · subst h0
      show va_at D vwCl (pad B n, pg B ca (zrR σ n v1.toNatClampNeg) (mf ρ n v1.toNatClampNeg) n) F.heap
      have hp : pg B ca (zrR σ n v1.toNatClampNeg) (mf ρ n v1.toNatClampNeg) n = .inl (ca 6, v1.toNatClampNeg, .inr (.inr (.inr (.inr (fun q => if mf ρ n v1.toNatClampNeg n q then some (B + (9 + q)) else none))))) := by simp only [pg, hk.1, hk.2]
      rw [hp]
      show F.heap[pad B n]? = some (vp_cell _ _)
      rw [show pad B n = H.size from hz.symm, f2, vp_cell_q]
      congr 2
      funext q
      by_cases hq : q < v1.toNatClampNeg
      · have e9 : mf ρ n v1.toNatClampNeg n q = true := by simp [mf, hq]
        rw [if_pos hq, e9, if_pos rfl, hz, show B + n + 1 + q = B + (9 + q) by omega]
      · simp [mf, hq, va_rf]
    · obtain ⟨j', rfl⟩ : ∃ j', j = j' + 1 := ⟨j - 1, by omega⟩
      have e1 : n + (j' + 1) = n + 1 + j' := by omega
      rw [e1]
      have hp : pg B ca (zrR σ n v1.toNatClampNeg) (mf ρ n v1.toNatClampNeg) (n + 1 + j') = .inl (ca 1, v2.toNatClampNeg, .inl (fun _ => 0)) := by
        simp only [pg, (hrows j' (by omega)).1, (hrows j' (by omega)).2]
        have : (zrR σ n v1.toNatClampNeg).1 (n + 1 + j') = fun _ => 0 := funext fun b => if_pos (by omega)
        rw [this]
      rw [hp]
      show F.heap[pad B (n + 1 + j')]? = some (vp_cell _ _)
      rw [show pad B (n + 1 + j') = H.size + 1 + j' by rw [hz]; unfold pad; omega, hrow j' (by omega)]
      rfl
  have hz1 : F.heap.size = B + (n + (1 + v1.toNatClampNeg)) := by rw [f1, hz]; omega
  obtain ⟨t, a1, b1⟩ := kk F.heap locs ls hP1 hz1 ⟨by rw [f1]; have := hS.1; omega, fun x h1 h2 => (hold x (by have := hS.1; omega)).trans (hS.2.1 x h1 h2), hS.2.2⟩ hl F rfl (by rw [← Nat.add_assoc, ← Nat.add_assoc]; exact X')
  refine ⟨t, step t ?_, b1⟩
  rw [show pad B n = T.heap.size by rw [hT]; exact hz.symm] at a1
  exact a1
theorem g_mna27 (C : gC p s m args c cc own nL D B ca) {index : Nat} {v1 v2 : Int32} (hk : pk n = 27 ∧ pn n = v1.toNatClampNeg) (hrows : ∀ j, j < v1.toNatClampNeg → pk (n + 1 + j) = 21 ∧ pn (n + 1 + j) = v2.toNatClampNeg) (hn : n + 1 = 232) (hcl : Cond.classLink own index "[[I" ∈ gw_tbl) (harr : Cond.arrayClass .int ∈ gw_tbl) (h1 : ¬ v1 < 0) (h2 : ¬ v2 < 0) (hb1 : v1.toNatClampNeg * 4 ≤ 536870912) (hb2 : v2.toNatClampNeg * componentBytes .int ≤ 536870912) (hb3 : v2.toNatClampNeg ≤ 536870912) (hr : cs + (1 + v1.toNatClampNeg) ≤ R.cells ∧ sl + (v1.toNatClampNeg + v1.toNatClampNeg * v2.toNatClampNeg) ≤ R.slots) (hdg : decode cc pc = .ok (.multianewarray index 2, 4)) (kk : PG p l e R s m args below meth c nL D B ca (cs + (1 + v1.toNatClampNeg)) (sl + (v1.toNatClampNeg + v1.toNatClampNeg * v2.toNatClampNeg)) Q (n + (1 + v1.toNatClampNeg)) (zrR σ n v1.toNatClampNeg) (mf ρ n v1.toNatClampNeg) (pc + 4) lv (.ref (pad B n) :: rest)) : PG p l e R s m args below meth c nL D B ca cs sl Q n σ ρ pc lv (.int v2 :: .int v1 :: rest) := by
  intro H locs ls hP hz hS hl T hT Xs
  have hK := C.2.2.2.2.2.1
  obtain ⟨vm₁, cA, comp, -, fA, fC, hO, -, X', step⟩ := Xs.multianewarray2F (ty := .int) C.1 C.2.2.2.1 (C.2.2.2.2.1 _ hcl) (over_moved (Vm.Alike.refl s.vm) C.2.2.2.2.2.2.2.2.2) (C.2.2.2.2.1 _ harr) (g := F0 m pc ls (.int v2 :: .int v1 :: rest)) rfl (by rw [C.2.1]; exact hdg) rfl h1 h2 hb1 hb2 hb3 rfl rfl hr.1 hr.2
  have ec : comp = ca 1 := Option.some.inj (fC.symm.trans (hK.2 1 _ rfl).2)
  have eA : cA = ca 6 := Option.some.inj (fA.symm.trans (hK.2 6 _ rfl).2)
  subst ec
  subst eA
  generalize hF : Jvm.Free.Multi.fill (T.setVm vm₁) (ca 6) (ca 1) v1.toNatClampNeg v2.toNatClampNeg (defaultValue .int) v1.toNatClampNeg = F at X' step
  have hTh : (T.setVm vm₁).heap = H := hT
  obtain ⟨f1, f2, -, -⟩ := Jvm.Free.Multi.fill_facts (T.setVm vm₁) (ca 6) (ca 1) v1.toNatClampNeg v2.toNatClampNeg (defaultValue .int) v1.toNatClampNeg
  rw [hF, hTh] at f1 f2
  have hold : ∀ x : Nat, x < B + n → F.heap[x]? = H[x]? := fun x hx => by
    have := Jvm.Free.Multi.fill_old (T.setVm vm₁) (ca 6) (ca 1) v1.toNatClampNeg v2.toNatClampNeg (defaultValue .int) (a := x) (by rw [hTh, hz]; exact hx) v1.toNatClampNeg
    rw [hF, hTh] at this
    exact this
  have hrow : ∀ j : Nat, j < v1.toNatClampNeg → F.heap[H.size + 1 + j]? = some (arrV (ca 1) v2.toNatClampNeg (fun _ => .int 0)) := fun j hj => by
    have := Jvm.Free.Multi.fill_inner (T.setVm vm₁) (ca 6) (ca 1) v1.toNatClampNeg v2.toNatClampNeg (defaultValue .int) v1.toNatClampNeg j hj
    rw [hF, hTh] at this
    rw [this]
    show some ({ cls := ca 1, slots := Array.replicate v2.toNatClampNeg (defaultValue .int), vm := .none } : Cell) = _
    rw [arrV_new]
    rfl
  rw [vr_outer] at f2
  have hP1 : va_P D vwCl (pWG (n + (1 + v1.toNatClampNeg)) B ca (zrR σ n v1.toNatClampNeg) (mf ρ n v1.toNatClampNeg)) F.heap := by
    refine pWG_P (pWG_kept hP hz hold (fun j hj => pg_congr (funext fun b => if_neg (by omega)) (funext fun b => if_neg (by omega)) (funext fun b => by simp [mf, show j ≠ n by omega, show ¬ (n < j ∧ j ≤ n + v1.toNatClampNeg) by omega]))) (fun j hj => ?_)
    by_cases h0 : j = 0
    · subst h0
      show va_at D vwCl (pad B n, pg B ca (zrR σ n v1.toNatClampNeg) (mf ρ n v1.toNatClampNeg) n) F.heap
      have hp : pg B ca (zrR σ n v1.toNatClampNeg) (mf ρ n v1.toNatClampNeg) n = .inl (ca 6, v1.toNatClampNeg, .inr (.inr (.inr (.inr (fun q => if mf ρ n v1.toNatClampNeg n q then some (B + (232 + q)) else none))))) := by simp only [pg, hk.1, hk.2]
      rw [hp]
      show F.heap[pad B n]? = some (vp_cell _ _)
      rw [show pad B n = H.size from hz.symm, f2, vp_cell_q]
      congr 2
      funext q
      by_cases hq : q < v1.toNatClampNeg
      · have e9 : mf ρ n v1.toNatClampNeg n q = true := by simp [mf, hq]
        rw [if_pos hq, e9, if_pos rfl, hz, show B + n + 1 + q = B + (232 + q) by omega]
      · simp [mf, hq, va_rf]
    · obtain ⟨j', rfl⟩ : ∃ j', j = j' + 1 := ⟨j - 1, by omega⟩
      have e1 : n + (j' + 1) = n + 1 + j' := by omega
      rw [e1]
      have hp : pg B ca (zrR σ n v1.toNatClampNeg) (mf ρ n v1.toNatClampNeg) (n + 1 + j') = .inl (ca 1, v2.toNatClampNeg, .inl (fun _ => 0)) := by
        simp only [pg, (hrows j' (by omega)).1, (hrows j' (by omega)).2]
        have : (zrR σ n v1.toNatClampNeg).1 (n + 1 + j') = fun _ => 0 := funext fun b => if_pos (by omega)
        rw [this]
      rw [hp]
      show F.heap[pad B (n + 1 + j')]? = some (vp_cell _ _)
      rw [show pad B (n + 1 + j') = H.size + 1 + j' by rw [hz]; unfold pad; omega, hrow j' (by omega)]
      rfl
  have hz1 : F.heap.size = B + (n + (1 + v1.toNatClampNeg)) := by rw [f1, hz]; omega
  obtain ⟨t, a1, b1⟩ := kk F.heap locs ls hP1 hz1 ⟨by rw [f1]; have := hS.1; omega, fun x h1 h2 => (hold x (by have := hS.1; omega)).trans (hS.2.1 x h1 h2), hS.2.2⟩ hl F rfl (by rw [← Nat.add_assoc, ← Nat.add_assoc]; exact X')
  refine ⟨t, step t ?_, b1⟩
  rw [show pad B n = T.heap.size by rw [hT]; exact hz.symm] at a1
  exact a1
end MNA
