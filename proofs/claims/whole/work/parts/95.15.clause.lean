/-! A clause, and a whole rule; the class's side. -/
abbrev CR : Type := Nat × Nat × Nat × CL
def clauseP (B : Nat → Int32) (sz p m j : Nat) : CR := if wl B sz (sk B sz p) = wS 3 then (if j = 12 then (5 + 8 * sk B sz p, 0, 0, ([], [], false)) else (if (sumP B sz 61 0 0 (sk B sz p + 2) m).1 = 0 then (if wl B sz (sumP B sz 61 0 0 (sk B sz p + 2) m).2.1 = wS 4 then ((testP B sz 401 ((sumP B sz 61 0 0 (sk B sz p + 2) m).2.1 + 2) (sumP B sz 61 0 0 (sk B sz p + 2) m).2.2.1 []).1, (testP B sz 401 ((sumP B sz 61 0 0 (sk B sz p + 2) m).2.1 + 2) (sumP B sz 61 0 0 (sk B sz p + 2) m).2.2.1 []).2.1, (testP B sz 401 ((sumP B sz 61 0 0 (sk B sz p + 2) m).2.1 + 2) (sumP B sz 61 0 0 (sk B sz p + 2) m).2.2.1 []).2.2.1, ((sumP B sz 61 0 0 (sk B sz p + 2) m).2.2.2, (testP B sz 401 ((sumP B sz 61 0 0 (sk B sz p + 2) m).2.1 + 2) (sumP B sz 61 0 0 (sk B sz p + 2) m).2.2.1 []).2.2.2, true)) else (0, (sumP B sz 61 0 0 (sk B sz p + 2) m).2.1, (sumP B sz 61 0 0 (sk B sz p + 2) m).2.2.1, ((sumP B sz 61 0 0 (sk B sz p + 2) m).2.2.2, [], false))) else ((sumP B sz 61 0 0 (sk B sz p + 2) m).1, 0, 0, ([], [], false)))) else (1 + 8 * sk B sz p, 0, 0, ([], [], false))
def ruleP (B : Nat → Int32) (sz : Nat) : Nat → Nat → Nat → Nat → Nat × List CL
  | 0, _, _, _ => (1, [])
  | k + 1, p, m, j => if (clauseP B sz p m j).1 = 0 then (if sg B sz (clauseP B sz p m j).2.1 = 59 then ((ruleP B sz k ((clauseP B sz p m j).2.1 + 1) (clauseP B sz p m j).2.2.1 (j + 1)).1, (clauseP B sz p m j).2.2.2 :: (ruleP B sz k ((clauseP B sz p m j).2.1 + 1) (clauseP B sz p m j).2.2.1 (j + 1)).2) else if sg B sz (clauseP B sz p m j).2.1 = -1 then (0, [(clauseP B sz p m j).2.2.2]) else (1 + 8 * (clauseP B sz p m j).2.1, [])) else ((clauseP B sz p m j).1, [])
theorem clause_ok {B : Nat → Int32} {sz p m j : Nat} (hp : p ≤ sz) (hm : m ≤ 60) (hj : j ≤ 12) (h : (clauseP B sz p m j).1 = 0) : (clauseP B sz p m j).2.1 ≤ sz ∧ sk B sz (clauseP B sz p m j).2.1 = (clauseP B sz p m j).2.1 ∧ (clauseP B sz p m j).2.2.1 ≤ 60 ∧ okCl (clauseP B sz p m j).2.2.2 ∧ (clauseP B sz p m j).2.2.2.1.length + (clauseP B sz p m j).2.2.2.2.1.length + 2 + p ≤ (clauseP B sz p m j).2.1 ∧ j < 12 := by
  have hq := sk_le (B := B) hp
  have hg := sk_ge B sz p
  unfold clauseP at h ⊢
  by_cases z1 : wl B sz (sk B sz p) = wS 3
  · rw [if_pos z1] at h ⊢
    have hl := wl_67 (k := 2) rfl z1 hq
    by_cases z2 : j = 12
    · rw [if_pos z2] at h; simp at h
    rw [if_neg z2] at h ⊢
    by_cases z3 : (sumP B sz 61 0 0 (sk B sz p + 2) m).1 = 0
    · rw [if_pos z3] at h ⊢
      obtain ⟨i1, i2, i3, i4, i5, i6, i7, i8⟩ := sumP_ok 61 0 0 (sk B sz p + 2) m (Or.inl rfl) (Or.inl rfl) hl hm z3
      rw [show cO 0 = 0 from rfl] at i8
      generalize sumP B sz 61 0 0 (sk B sz p + 2) m = S at *
      have i6' : tyc S.2.2.2 [] = some [false] := i6
      by_cases z4 : wl B sz S.2.1 = wS 4
      · rw [if_pos z4] at h ⊢
        have hl2 := wl_67 (k := 2) rfl z4 i2
        obtain ⟨t1, t2, t3, t4, t5, t6, t7, t8⟩ := testP_ok (B := B) (sz := sz) 401 (S.2.1 + 2) S.2.2.1 [] hl2 i4 trivial (by decide) h
        rw [show pen [] = 0 from rfl] at t8
        generalize testP B sz 401 (S.2.1 + 2) S.2.2.1 [] = T at *
        refine ⟨t2, t3, t4, ⟨i5, t5, i6', fun _ => t6, fun q => by simp at q, ?_⟩, ?_, by omega⟩
        · show nvl S.2.2.2 + nvl T.2.2.2 ≤ 60; omega
        · show S.2.2.2.length + T.2.2.2.length + 2 + p ≤ T.2.1; omega
      · rw [if_neg z4]
        refine ⟨i2, i3, i4, ⟨i5, by simp, i6', fun q => by simp at q, fun _ => rfl, ?_⟩, ?_, by omega⟩
        · show nvl S.2.2.2 + nvl [] ≤ 60; rw [show nvl [] = 0 from rfl]; omega
        · show S.2.2.2.length + ([] : List Nat).length + 2 + p ≤ S.2.1; simp; omega
    · rw [if_neg z3] at h; exact absurd h z3
  · rw [if_neg z1] at h; simp at h
theorem clauseP_lt {B : Nat → Int32} {sz p m j : Nat} (h400 : sz ≤ 400) (hp : p ≤ sz) (hm : m ≤ 60) : (clauseP B sz p m j).1 < 2 ^ 31 := by
  have hq := sk_le (B := B) hp
  unfold clauseP
  by_cases z1 : wl B sz (sk B sz p) = wS 3
  · rw [if_pos z1]
    have hl := wl_67 (k := 2) rfl z1 hq
    by_cases z2 : j = 12
    · rw [if_pos z2]; show 5 + 8 * _ < _; omega
    rw [if_neg z2]
    by_cases z3 : (sumP B sz 61 0 0 (sk B sz p + 2) m).1 = 0
    · rw [if_pos z3]
      obtain ⟨i1, i2, i3, i4, i5, i6, i7, i8⟩ := sumP_ok 61 0 0 (sk B sz p + 2) m (Or.inl rfl) (Or.inl rfl) hl hm z3
      by_cases z4 : wl B sz (sumP B sz 61 0 0 (sk B sz p + 2) m).2.1 = wS 4
      · rw [if_pos z4]
        exact testP_lt h400 401 _ _ [] (wl_67 (k := 2) rfl z4 i2) i4 trivial (by decide)
      · rw [if_neg z4]; show 0 < 2 ^ 31; decide
    · rw [if_neg z3]; exact sumP_lt h400 61 0 0 _ m hl
  · rw [if_neg z1]; show 1 + 8 * _ < _; omega
def enC : List CL → List Int32
  | [] => []
  | k :: cs => k.1.map enT ++ (k.2.1.map enT ++ ((if k.2.2 = true then (-41 : Int32) else -40) :: enC cs))
section CX
variable {n : Nat} {B : Nat → Int32} {sz : Nat}
def xtl (n k : Nat) (x1 : Int32) (σ : PS) : Option (Nat × PS) := (F_X5_readSum n σ).bind (fun q56 => (F_X9_takeWord n q56).bind (fun q58 => (F_X9_wordIs n 4 q58).bind (fun q60 => (if q60.1 = 0 then (F_X9_putWordBack n q60.2).bind (fun q63 => (F_X5_emit n (-40 : Int32) q63).bind (fun q65 => (F_X9_takeSemicolon n q65).bind (fun q67 => (if q67.1 = 0 then some (0, q67.2) else L_X5_read_19 n k (x1 + 1) q67.2)))) else (F_X5_readTest n q60.2).bind (fun q70 => (F_X5_emit n (-41 : Int32) q70).bind (fun q72 => (F_X9_takeSemicolon n q72).bind (fun q74 => (if q74.1 = 0 then some (0, q74.2) else L_X5_read_19 n k (x1 + 1) q74.2))))))))
theorem X_read19 {k : Nat} {x1 : Int32} {σ : PS} : L_X5_read_19 n (k + 1) x1 σ = (if (13 : Int32) < x1 then some (1, σ) else (F_X9_takeWord n σ).bind (fun q4 => (F_X9_wordIs n 3 q4).bind (fun q6 => (if q6.1 = 0 then (F_X9_fail n (q6.2.1 1 3) (nI 0) q6.2).bind (fun q54 => xtl n k x1 q54) else (if x1 ≤ (12 : Int32) then xtl n k x1 q6.2 else (F_X9_fail n (q6.2.1 1 3) (nI 4) q6.2).bind (fun q31 => xtl n k x1 q31)))))) := rfl
theorem X_semiF {f : Int32} (hf : ¬ f = 0) {σ : PS} (h : SX σ B sz f) : F_X9_takeSemicolon n σ = some (0, σ) := by
  obtain ⟨p, s, ht⟩ := h.1
  unfold F_X9_takeSemicolon
  rw [ht.2.2.2.2.1, if_neg hf]
theorem ay_1 {σ τ : PS} (h : agr [1] σ τ) : ay σ τ := agr_mono h (by simp)
/-- behind a fault the rest of a clause changes nothing that counts -/
theorem X_tailF (hn : 1000 ≤ n) {f : Int32} (hf : ¬ f = 0) {k : Nat} {x1 : Int32} {σ : PS} (h : SX σ B sz f) : ∃ τ, xtl n k x1 σ = some (0, τ) ∧ ay σ τ ∧ SX τ B sz f := by
  unfold xtl
  rw [X_sumF hn h hf, Option.bind_some]
  obtain ⟨p, s, ht⟩ := h.1
  obtain ⟨τ1, a1, a2, a3, a4⟩ := X_takeWord hn ht
  have s1 := SX_1 h a4 a2
  rw [a1, Option.bind_some, X_wordIs hn (a := 4) (by decide) a2, Option.bind_some]
  by_cases z : wl B sz (sk B sz p) = wS 4
  · rw [if_pos z, if_neg ne10]
    show ∃ τ, (F_X5_readTest n τ1).bind _ = some _ ∧ _
    obtain ⟨τ2, b1, b2, b3⟩ := X_testF hn hf s1
    rw [b1, Option.bind_some]
    obtain ⟨τ3, c1, c2, c3⟩ := X_emitF (n := n) (v := -41) b3
    rw [c1, Option.bind_some, X_semiF hf c2, Option.bind_some, if_pos rfl]
    exact ⟨τ3, rfl, agr_trans (ay_1 a4) (agr_trans b2 (ay_ax c3)), c2⟩
  · rw [if_neg z, if_pos rfl]
    show ∃ τ, (F_X9_putWordBack n τ1).bind _ = some _ ∧ _
    obtain ⟨τ2, b1, b2, b3, b4⟩ := X_putBack (n := n) a2
    have s2 := SX_1 s1 b4 b2
    rw [b1, Option.bind_some]
    obtain ⟨τ3, c1, c2, c3⟩ := X_emitF (n := n) (v := -40) s2
    rw [c1, Option.bind_some, X_semiF hf c2, Option.bind_some, if_pos rfl]
    exact ⟨τ3, rfl, agr_trans (ay_1 a4) (agr_trans (ay_1 b4) (ay_ax c3)), c2⟩
theorem X_semi (hn : 1000 ≤ n) {e s : Nat} {σ : PS} (ht : TX σ B sz e s 0) (he : sk B sz e = e) : (sg B sz e = 59 ∧ ∃ τ, F_X9_takeSemicolon n σ = some (1, τ) ∧ agr [1] σ τ ∧ TX τ B sz (e + 1) s 0) ∨ (¬ sg B sz e = 59 ∧ ∃ τ, F_X9_takeSemicolon n σ = some (0, τ) ∧ agr [1] σ τ ∧ TX τ B sz e s (nI (if sg B sz e = -1 then 0 else 1 + 8 * e))) := by
  obtain ⟨τ1, a1, a2, a3, a4⟩ := X_peek hn ht
  rw [he] at a1 a2
  unfold F_X9_takeSemicolon
  rw [ht.2.2.2.2.1, if_pos rfl, a1, Option.bind_some]
  by_cases z : sg B sz e = 59
  · refine Or.inl ⟨z, ?_⟩
    have hlt := (sg_lt (by decide) z).1
    show ∃ τ, (if sg B sz e = 59 then some (1, psI τ1 1 2 (τ1.1 1 2 + 1)) else _) = some _ ∧ _
    rw [if_pos z, a2.2.2.1, nI_p1]
    exact ⟨_, rfl, agr_trans a4 (agr_psI (by simp)), TX_p a2 (by have := a2.2.2.2.2.2.1; omega) (by omega)⟩
  · refine Or.inr ⟨z, ?_⟩
    show ∃ τ, (if sg B sz e = 59 then _ else if sg B sz e = -1 then some (0, τ1) else (F_X9_fail n (τ1.1 1 2) (nI 0) τ1).bind _) = some _ ∧ _
    rw [if_neg z]
    by_cases z2 : sg B sz e = -1
    · rw [if_pos z2, if_pos z2]
      exact ⟨τ1, rfl, a4, a2⟩
    · rw [if_neg z2, if_neg z2, a2.2.2.1]
      obtain ⟨τ2, b1, b2, b3, b4⟩ := X_fail0 (n := n) (w := e) (k := 0) a2
      rw [b1]
      exact ⟨τ2, rfl, agr_trans a4 b4, b2⟩
/-- the class reads a rule -/
theorem X_rule19 (hn : 1000 ≤ n) : ∀ (k kf p m j s : Nat) (σ : PS) (c : List Int32), TX σ B sz p s 0 → KX σ c m → m ≤ 60 → c.length ≤ p → j ≤ 12 → 12 < k + j → k ≤ kf → ∃ e τ, L_X5_read_19 n kf (nI (j + 1)) σ = some (e, τ) ∧ ay σ τ ∧ SX τ B sz (nI (ruleP B sz k p m j).1) ∧ ((ruleP B sz k p m j).1 = 0 → ∃ m', KX τ (c ++ enC (ruleP B sz k p m j).2) m')
  | 0, kf, p, m, j, s, σ, c, ht, hk, hm, hl, hj, hf, hkf => by omega
  | k + 1, 0, p, m, j, s, σ, c, ht, hk, hm, hl, hj, hf, hkf => by omega
  | k + 1, kf + 1, p, m, j, s, σ, c, ht, hk, hm, hl, hj, hf, hkf => by
    have h400 := ht.2.2.2.2.2.2.2
    have hp := ht.2.2.2.2.2.2.1
    have hq := sk_le (B := B) hp
    have hg := sk_ge B sz p
    have hclt := clauseP_lt (B := B) (j := j) h400 hp hm
    obtain ⟨τ1, a1, a2, a3, a4⟩ := X_takeWord hn ht
    have k1 := KX_1 hk a4
    rw [X_read19, if_neg (show ¬ (13 : Int32) < nI (j + 1) from nI_nlt (show j + 1 ≤ 13 by omega) (by decide)), a1, Option.bind_some, X_wordIs hn (a := 3) (by decide) a2, Option.bind_some]
    unfold ruleP
    have cok := clause_ok (B := B) (sz := sz) (p := p) (m := m) (j := j) hp hm hj
    by_cases z1 : wl B sz (sk B sz p) = wS 3
    · rw [if_pos z1, if_neg ne10]
      have hl1 := wl_67 (k := 2) rfl z1 hq
      have a2' : TX τ1 B sz (sk B sz p + 2) (sk B sz p) 0 := by rw [z1] at a2; exact a2
      by_cases z2 : j = 12
      · have hC : clauseP B sz p m j = (5 + 8 * sk B sz p, 0, 0, ([], [], false)) := by unfold clauseP; rw [if_pos z1, if_pos z2]
        rw [if_neg (show ¬ nI (j + 1) ≤ (12 : Int32) from nI_ge (show 12 < j + 1 by omega) (by omega))]
        show ∃ e τ, (F_X9_fail n (τ1.1 1 3) (nI 4) τ1).bind _ = some (e, τ) ∧ _
        rw [a2'.2.2.2.1]
        obtain ⟨τ2, b1, b2, b3, b4⟩ := X_fail0 (n := n) (w := sk B sz p) (k := 4) a2'
        rw [b1, Option.bind_some]
        obtain ⟨τ3, c1, c2, c3⟩ := X_tailF (k := kf) (x1 := nI (j + 1)) hn (nI_ne0 (by omega) (by omega)) (KX_SX (KX_1 k1 b4) b2)
        rw [c1, hC, if_neg (show ¬ 5 + 8 * sk B sz p = 0 by omega)]
        exact ⟨_, τ3, rfl, agr_trans (ay_1 a4) (agr_trans (ay_1 b4) c2), by rw [show 1 + 8 * sk B sz p + 4 = 5 + 8 * sk B sz p by omega] at c3; exact c3, fun z => absurd z (by show ¬ 5 + 8 * _ = 0; omega)⟩
      rw [if_pos (show nI (j + 1) ≤ (12 : Int32) from nI_le (show j + 1 ≤ 12 by omega) (by decide))]
      show ∃ e τ, xtl n kf (nI (j + 1)) τ1 = some (e, τ) ∧ _
      obtain ⟨τ2, b1, b2, b3, b4⟩ := X_sum hn a2' k1 hm (by omega)
      by_cases z3 : (sumP B sz 61 0 0 (sk B sz p + 2) m).1 = 0
      · obtain ⟨s2, d1, d2⟩ := b4 z3
        obtain ⟨i1, i2, i3, i4, i5, i6, i7, i8⟩ := sumP_ok 61 0 0 (sk B sz p + 2) m (Or.inl rfl) (Or.inl rfl) hl1 hm z3
        rw [show cO 0 = 0 from rfl] at i8
        unfold xtl
        rw [b1, Option.bind_some]
        obtain ⟨τ3, e1, e2, e3, e4⟩ := X_takeWord hn d1
        rw [i3] at e2
        have k3 := KX_1 d2 e4
        rw [e1, Option.bind_some, X_wordIs hn (a := 4) (by decide) e2, Option.bind_some]
        have x3 : ay σ τ3 := agr_trans (ay_1 a4) (agr_trans (ay_ax b2) (ay_1 e4))
        -- what follows a clause that was read
        have next : ∀ (τ5 : PS) (s5 : Nat) (op : Int32) (cl : CL) (e m' : Nat), clauseP B sz p m j = (0, e, m', cl) → (if cl.2.2 = true then (-41 : Int32) else -40) = op → ay σ τ5 → TX τ5 B sz e s5 0 → KX τ5 (c ++ (cl.1.map enT ++ cl.2.1.map enT)) m' → ∃ e1 τ, ((F_X5_emit n op τ5).bind (fun q65 => (F_X9_takeSemicolon n q65).bind (fun q67 => (if q67.1 = 0 then some (0, q67.2) else L_X5_read_19 n kf (nI (j + 1) + 1) q67.2)))) = some (e1, τ) ∧ ay σ τ ∧ SX τ B sz (nI (if (clauseP B sz p m j).1 = 0 then (if sg B sz (clauseP B sz p m j).2.1 = 59 then ((ruleP B sz k ((clauseP B sz p m j).2.1 + 1) (clauseP B sz p m j).2.2.1 (j + 1)).1, (clauseP B sz p m j).2.2.2 :: (ruleP B sz k ((clauseP B sz p m j).2.1 + 1) (clauseP B sz p m j).2.2.1 (j + 1)).2) else if sg B sz (clauseP B sz p m j).2.1 = -1 then (0, [(clauseP B sz p m j).2.2.2]) else (1 + 8 * (clauseP B sz p m j).2.1, [])) else ((clauseP B sz p m j).1, [])).1) ∧ ((if (clauseP B sz p m j).1 = 0 then (if sg B sz (clauseP B sz p m j).2.1 = 59 then ((ruleP B sz k ((clauseP B sz p m j).2.1 + 1) (clauseP B sz p m j).2.2.1 (j + 1)).1, (clauseP B sz p m j).2.2.2 :: (ruleP B sz k ((clauseP B sz p m j).2.1 + 1) (clauseP B sz p m j).2.2.1 (j + 1)).2) else if sg B sz (clauseP B sz p m j).2.1 = -1 then (0, [(clauseP B sz p m j).2.2.2]) else (1 + 8 * (clauseP B sz p m j).2.1, [])) else ((clauseP B sz p m j).1, [])).1 = 0 → ∃ m'', KX τ (c ++ enC (if (clauseP B sz p m j).1 = 0 then (if sg B sz (clauseP B sz p m j).2.1 = 59 then ((ruleP B sz k ((clauseP B sz p m j).2.1 + 1) (clauseP B sz p m j).2.2.1 (j + 1)).1, (clauseP B sz p m j).2.2.2 :: (ruleP B sz k ((clauseP B sz p m j).2.1 + 1) (clauseP B sz p m j).2.2.1 (j + 1)).2) else if sg B sz (clauseP B sz p m j).2.1 = -1 then (0, [(clauseP B sz p m j).2.2.2]) else (1 + 8 * (clauseP B sz p m j).2.1, [])) else ((clauseP B sz p m j).1, [])).2) m'') := by
          intro τ5 s5 op cl e m' hC hop x5 t5 k5
          have cok' := cok (by rw [hC])
          rw [hC] at cok' ⊢
          obtain ⟨f1, f2, f3, f4, f5, f6⟩ := cok'
          simp only [] at f1 f2 f3 f4 f5
          have hne : ¬ op = 0 := by rw [← hop]; split <;> decide
          obtain ⟨τ6, g1, g2, g3, g4⟩ := X_emit (n := n) k5 (by simp only [List.length_append, List.length_map]; omega) hne
          have t6 := TX_agr t5 g3 (by decide) (by decide)
          rw [g1, Option.bind_some, if_pos (show (0, e, m', cl).1 = 0 from rfl)]
          have x6 : ay σ τ6 := agr_trans x5 (ay_ax g4)
          rcases X_semi hn t6 f2 with ⟨w, τ7, h1, h2, h3⟩ | ⟨w, τ7, h1, h2, h3⟩
          · rw [h1, Option.bind_some, if_neg ne10, nI_1]
            dsimp only
            rw [if_pos w]
            have hlt := (sg_lt (by decide) w).1
            have k7 := KX_1 g2 h2
            obtain ⟨e1, τ, r1, r2, r3, r4⟩ := X_rule19 hn k kf (e + 1) m' (j + 1) s5 τ7 _ h3 k7 f3 (by simp only [List.length_append, List.length_map, List.length_cons, List.length_nil]; omega) (by omega) (by omega) (by omega)
            refine ⟨e1, τ, r1, agr_trans x6 (agr_trans (ay_1 h2) r2), r3, fun z => ?_⟩
            obtain ⟨m'', v⟩ := r4 z
            refine ⟨m'', ?_⟩
            have lst : ∀ w : List CL, c ++ enC (cl :: w) = c ++ (cl.1.map enT ++ cl.2.1.map enT) ++ [op] ++ enC w := fun w => by
              show c ++ (cl.1.map enT ++ (cl.2.1.map enT ++ (_ :: enC w))) = _
              rw [hop]; simp [List.append_assoc]
            show KX τ (c ++ enC (cl :: _)) m''
            rw [lst]
            exact v
          · rw [h1, Option.bind_some, if_pos rfl]
            dsimp only
            rw [if_neg w]
            have k7 := KX_1 g2 h2
            by_cases w2 : sg B sz e = -1
            · rw [if_pos w2] at h3 ⊢
              refine ⟨_, τ7, rfl, agr_trans x6 (ay_1 h2), KX_SX k7 h3, fun _ => ⟨m', ?_⟩⟩
              have lst : c ++ enC [cl] = c ++ (cl.1.map enT ++ cl.2.1.map enT) ++ [op] := by
                show c ++ (cl.1.map enT ++ (cl.2.1.map enT ++ (_ :: []))) = _
                rw [hop]; simp [List.append_assoc]
              rw [lst]
              exact k7
            · rw [if_neg w2] at h3 ⊢
              exact ⟨_, τ7, rfl, agr_trans x6 (ay_1 h2), KX_SX k7 h3, fun z => absurd z (by show ¬ 1 + 8 * e = 0; omega)⟩
        by_cases z4 : wl B sz (sumP B sz 61 0 0 (sk B sz p + 2) m).2.1 = wS 4
        · rw [if_pos z4, if_neg ne10]
          have hl2 := wl_67 (k := 2) rfl z4 i2
          have e2' : TX τ3 B sz ((sumP B sz 61 0 0 (sk B sz p + 2) m).2.1 + 2) (sumP B sz 61 0 0 (sk B sz p + 2) m).2.1 0 := by rw [z4] at e2; exact e2
          obtain ⟨τ4, f1, f2, f3, f4⟩ := X_test hn e2' k3 i4 (by simp only [List.length_append, List.length_map]; omega) (by omega)
          have hC : clauseP B sz p m j = ((testP B sz 401 ((sumP B sz 61 0 0 (sk B sz p + 2) m).2.1 + 2) (sumP B sz 61 0 0 (sk B sz p + 2) m).2.2.1 []).1, (testP B sz 401 ((sumP B sz 61 0 0 (sk B sz p + 2) m).2.1 + 2) (sumP B sz 61 0 0 (sk B sz p + 2) m).2.2.1 []).2.1, (testP B sz 401 ((sumP B sz 61 0 0 (sk B sz p + 2) m).2.1 + 2) (sumP B sz 61 0 0 (sk B sz p + 2) m).2.2.1 []).2.2.1, ((sumP B sz 61 0 0 (sk B sz p + 2) m).2.2.2, (testP B sz 401 ((sumP B sz 61 0 0 (sk B sz p + 2) m).2.1 + 2) (sumP B sz 61 0 0 (sk B sz p + 2) m).2.2.1 []).2.2.2, true)) := by
            unfold clauseP; rw [if_pos z1, if_neg z2, if_pos z3, if_pos z4]
          generalize sumP B sz 61 0 0 (sk B sz p + 2) m = S at *
          have hTl := testP_lt (B := B) h400 401 (S.2.1 + 2) S.2.2.1 [] hl2 i4 trivial (by decide)
          generalize testP B sz 401 (S.2.1 + 2) S.2.2.1 [] = T at *
          show ∃ e τ, (F_X5_readTest n τ3).bind _ = some (e, τ) ∧ _
          rw [f1, Option.bind_some]
          by_cases z5 : T.1 = 0
          · obtain ⟨s4, t4, k4⟩ := f4 z5
            have hC0 : clauseP B sz p m j = (0, T.2.1, T.2.2.1, (S.2.2.2, T.2.2.2, true)) := by rw [hC, z5]
            exact next τ4 s4 (-41) (S.2.2.2, T.2.2.2, true) T.2.1 T.2.2.1 hC0 rfl (agr_trans x3 f2) t4 (by
              show KX τ4 (c ++ (S.2.2.2.map enT ++ T.2.2.2.map enT)) T.2.2.1
              rw [← List.append_assoc]; exact k4)
          · obtain ⟨τ5, g1, g2, g3⟩ := X_emitF (n := n) (v := -41) f3
            have fne := nI_fault z5 hTl
            rw [g1, Option.bind_some, X_semiF fne g2, Option.bind_some, if_pos rfl, hC, if_neg (show ¬ T.1 = 0 from z5)]
            exact ⟨_, τ5, rfl, agr_trans x3 (agr_trans f2 (ay_ax g3)), g2, fun z => absurd z z5⟩
        · rw [if_neg z4, if_pos rfl]
          have hC0 : clauseP B sz p m j = (0, (sumP B sz 61 0 0 (sk B sz p + 2) m).2.1, (sumP B sz 61 0 0 (sk B sz p + 2) m).2.2.1, ((sumP B sz 61 0 0 (sk B sz p + 2) m).2.2.2, [], false)) := by
            unfold clauseP; rw [if_pos z1, if_neg z2, if_pos z3, if_neg z4]
          obtain ⟨τ4, f1, f2, f3, f4⟩ := X_putBack (n := n) e2
          show ∃ e τ, (F_X9_putWordBack n τ3).bind _ = some (e, τ) ∧ _
          rw [f1, Option.bind_some]
          exact next τ4 _ (-40) _ _ _ hC0 rfl (agr_trans x3 (ay_1 f4)) f2 (by
            show KX τ4 (c ++ ((sumP B sz 61 0 0 (sk B sz p + 2) m).2.2.2.map enT ++ [])) _
            rw [List.append_nil]; exact KX_1 k3 f4)
      · have hC : clauseP B sz p m j = ((sumP B sz 61 0 0 (sk B sz p + 2) m).1, 0, 0, ([], [], false)) := by unfold clauseP; rw [if_pos z1, if_neg z2, if_neg z3]
        have fne := nI_fault z3 (sumP_lt h400 61 0 0 _ m hl1)
        obtain ⟨τ3, c1, c2, c3⟩ := X_tailF (k := kf) (x1 := nI (j + 1)) hn fne b3
        have e0 : xtl n kf (nI (j + 1)) τ1 = xtl n kf (nI (j + 1)) τ2 := by
          unfold xtl
          rw [b1, X_sumF hn b3 fne]
        rw [e0, c1, hC, if_neg (show ¬ (sumP B sz 61 0 0 (sk B sz p + 2) m).1 = 0 from z3)]
        exact ⟨_, τ3, rfl, agr_trans (ay_1 a4) (agr_trans (ay_ax b2) c2), c3, fun z => absurd z z3⟩
    · have hC : clauseP B sz p m j = (1 + 8 * sk B sz p, 0, 0, ([], [], false)) := by unfold clauseP; rw [if_neg z1]
      rw [if_neg z1, if_pos rfl]
      show ∃ e τ, (F_X9_fail n (τ1.1 1 3) (nI 0) τ1).bind _ = some (e, τ) ∧ _
      rw [a2.2.2.2.1]
      obtain ⟨τ2, b1, b2, b3, b4⟩ := X_fail0 (n := n) (w := sk B sz p) (k := 0) a2
      rw [b1, Option.bind_some]
      obtain ⟨τ3, c1, c2, c3⟩ := X_tailF (k := kf) (x1 := nI (j + 1)) hn (nI_ne0 (by omega) (by omega)) (KX_SX (KX_1 k1 b4) b2)
      rw [c1, hC, if_neg (show ¬ 1 + 8 * sk B sz p = 0 by omega)]
      exact ⟨_, τ3, rfl, agr_trans (ay_1 a4) (agr_trans (ay_1 b4) c2), c3, fun z => absurd z (by show ¬ 1 + 8 * _ = 0; omega)⟩
end CX
