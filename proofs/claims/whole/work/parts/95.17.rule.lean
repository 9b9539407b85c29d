/-! A whole rule on the reference's side; what stands in the rows then; the call rule on both sides. -/
def flM : List CL → List Nat
  | [] => []
  | k :: cs => (k.1 ++ k.2.1) ++ flM cs
def c4s (σ : PS) (r : Nat) : List CL → Nat → Nat → Prop
  | [], _, _ => True
  | k :: cs, j, b => c4M σ r j b k ∧ c4s σ r cs (j + 1) (b + (k.1 ++ k.2.1).length)
theorem c4M_af {r j b : Nat} {k : CL} {σ τ : PS} (h : c4M σ r j b k) (ha : af r (j + 1) σ τ) : c4M τ r j b k := by
  unfold c4M
  rw [ha.2.2.1 _ (by omega), ha.2.2.1 _ (by omega), ha.2.2.1 _ (by omega), ha.2.2.1 _ (by omega)]
  exact h
theorem getD_mid {α : Type} (a b c : List α) (d : α) (i : Nat) (h : i < b.length) : (a ++ (b ++ c)).getD (a.length + i) d = b.getD i d := by
  rw [List.getD_eq_getElem?_getD, List.getD_eq_getElem?_getD, List.getElem?_append_right (by omega), show a.length + i - a.length = i by omega, List.getElem?_append_left h]
theorem clM_of {σ : PS} {r : Nat} : ∀ (cs : List CL) (j : Nat) (a : List Nat), c4s σ r cs j a.length → (∀ i, i < (a ++ flM cs).length → σ.1 251 (400 * r + i) = nI ((a ++ flM cs).getD i 0)) → (a ++ flM cs).length ≤ 400 → clM (fun k => σ.1 253 (48 * r + k)) (fun k => σ.1 251 (400 * r + k)) cs j a.length
  | [], j, a, h, hg, hl => trivial
  | k :: cs, j, a, h, hg, hl => by
    obtain ⟨⟨h1, h2, h3, h4⟩, h5⟩ := h
    have hlen : (a ++ flM (k :: cs)).length = a.length + k.1.length + k.2.1.length + (flM cs).length := by
      show (a ++ ((k.1 ++ k.2.1) ++ flM cs)).length = _
      simp only [List.length_append]; omega
    have fl : a ++ flM (k :: cs) = (a ++ (k.1 ++ k.2.1)) ++ flM cs := by
      show a ++ ((k.1 ++ k.2.1) ++ flM cs) = _
      simp [List.append_assoc]
    have ih := clM_of cs (j + 1) (a ++ (k.1 ++ k.2.1)) (by rw [List.length_append]; exact h5) (by rw [← fl]; exact hg) (by rw [← fl]; exact hl)
    rw [hlen] at hl hg
    refine ⟨h1, h2, h3, h4, fun i hi => ?_, fun i hi => ?_, by omega, ?_⟩
    · show σ.1 251 (400 * r + (a.length + i)) = _
      rw [hg _ (by omega)]
      show nI ((a ++ ((k.1 ++ k.2.1) ++ flM cs)).getD (a.length + i) 0) = _
      rw [List.append_assoc, getD_mid a k.1 (k.2.1 ++ flM cs) 0 i hi]
    · show σ.1 251 (400 * r + (a.length + k.1.length + i)) = _
      rw [hg _ (by omega)]
      have e : a ++ flM (k :: cs) = (a ++ k.1) ++ (k.2.1 ++ flM cs) := by
        show a ++ ((k.1 ++ k.2.1) ++ flM cs) = _
        simp [List.append_assoc]
      rw [e, show a.length + k.1.length + i = (a ++ k.1).length + i by rw [List.length_append], getD_mid (a ++ k.1) k.2.1 (flM cs) 0 i hi]
    · have e : (a ++ (k.1 ++ k.2.1)).length = a.length + k.1.length + k.2.1.length := by simp only [List.length_append]; omega
      rw [e] at ih
      exact ih
theorem enC_len : ∀ cs : List CL, (enC cs).length = szX cs
  | [] => rfl
  | k :: cs => by
    have := enC_len cs
    show (k.1.map enT ++ (k.2.1.map enT ++ (_ :: enC cs))).length = k.1.length + k.2.1.length + 1 + szX cs
    simp only [List.length_append, List.length_map, List.length_cons]
    omega
theorem getD_map (l : List Nat) (i : Nat) (h : i < l.length) : (l.map enT).getD i 0 = enT (l.getD i 0) := by
  rw [List.getD_eq_getElem?_getD, List.getD_eq_getElem?_getD, List.getElem?_map, List.getElem?_eq_getElem h]
  rfl
theorem clX_of {ρ : Nat → Int32} : ∀ (cs : List CL) (a : List Int32), (∀ i, i < (a ++ enC cs).length → ρ i = (a ++ enC cs).getD i 0) → clX ρ cs a.length
  | [], a, h => trivial
  | k :: cs, a, h => by
    have fl : a ++ enC (k :: cs) = (a ++ (k.1.map enT ++ (k.2.1.map enT ++ [if k.2.2 = true then (-41 : Int32) else -40]))) ++ enC cs := by
      show a ++ (k.1.map enT ++ (k.2.1.map enT ++ (_ :: enC cs))) = _
      simp [List.append_assoc]
    have ih := clX_of cs (a ++ (k.1.map enT ++ (k.2.1.map enT ++ [if k.2.2 = true then (-41 : Int32) else -40]))) (by rw [← fl]; exact h)
    have hlen : (a ++ enC (k :: cs)).length = a.length + k.1.length + k.2.1.length + 1 + (enC cs).length := by
      show (a ++ (k.1.map enT ++ (k.2.1.map enT ++ (_ :: enC cs)))).length = _
      simp only [List.length_append, List.length_map, List.length_cons]; omega
    rw [hlen] at h
    refine ⟨fun x hx => ?_, fun x hx => ?_, ?_, ?_⟩
    · rw [h _ (by omega)]
      show (a ++ (k.1.map enT ++ (k.2.1.map enT ++ (_ :: enC cs)))).getD (a.length + x) 0 = _
      rw [getD_mid a (k.1.map enT) _ 0 x (by simpa using hx), getD_map _ _ hx]
    · rw [h _ (by omega)]
      have e : a ++ enC (k :: cs) = (a ++ k.1.map enT) ++ (k.2.1.map enT ++ ((if k.2.2 = true then (-41 : Int32) else -40) :: enC cs)) := by
        show a ++ (k.1.map enT ++ (k.2.1.map enT ++ (_ :: enC cs))) = _
        simp [List.append_assoc]
      rw [e, show a.length + k.1.length + x = (a ++ k.1.map enT).length + x by rw [List.length_append, List.length_map], getD_mid (a ++ k.1.map enT) (k.2.1.map enT) _ 0 x (by simpa using hx), getD_map _ _ hx]
    · rw [h _ (by omega)]
      have e : a ++ enC (k :: cs) = (a ++ k.1.map enT ++ k.2.1.map enT) ++ ([if k.2.2 = true then (-41 : Int32) else -40] ++ enC cs) := by
        show a ++ (k.1.map enT ++ (k.2.1.map enT ++ (_ :: enC cs))) = _
        simp [List.append_assoc]
      rw [e, show a.length + k.1.length + k.2.1.length = (a ++ k.1.map enT ++ k.2.1.map enT).length + 0 by simp only [List.length_append, List.length_map, Nat.add_zero], getD_mid (a ++ k.1.map enT ++ k.2.1.map enT) [if k.2.2 = true then (-41 : Int32) else -40] (enC cs) 0 0 (by simp)]
      rfl
    · have e : (a ++ (k.1.map enT ++ (k.2.1.map enT ++ [if k.2.2 = true then (-41 : Int32) else -40]))).length = a.length + k.1.length + k.2.1.length + 1 := by simp only [List.length_append, List.length_map, List.length_cons, List.length_nil]; omega
      rw [e] at ih
      exact ih
theorem hasN_get : ∀ cs : List CL, hasN cs → ∃ i, i < (enC cs).length ∧ (enC cs).getD i 0 = -7 := by
  intro cs h
  have key : ∀ cs : List CL, hasN cs → (-7 : Int32) ∈ enC cs := by
    intro cs
    induction cs with
    | nil => intro h; obtain ⟨k, hk, _⟩ := h; simp at hk
    | cons k cs ih =>
      intro h
      obtain ⟨k', hk, hh⟩ := h
      show (-7 : Int32) ∈ k.1.map enT ++ (k.2.1.map enT ++ (_ :: enC cs))
      rcases List.mem_cons.mp hk with e | e
      · subst e
        rcases hh with q | q
        · exact List.mem_append.mpr (Or.inl (List.mem_map.mpr ⟨97, q, by decide⟩))
        · exact List.mem_append.mpr (Or.inr (List.mem_append.mpr (Or.inl (List.mem_map.mpr ⟨97, q, by decide⟩))))
      · exact List.mem_append.mpr (Or.inr (List.mem_append.mpr (Or.inr (List.mem_cons_of_mem _ (ih ⟨k', e, hh⟩)))))
  obtain ⟨i, hi, e⟩ := List.mem_iff_getElem.mp (key cs h)
  exact ⟨i, hi, by rw [List.getD_eq_getElem?_getD, List.getElem?_eq_getElem hi]; exact e⟩
theorem ruleP_ok {B : Nat → Int32} {sz : Nat} : ∀ (k p m j : Nat), p ≤ sz → m ≤ 60 → j ≤ 12 → (ruleP B sz k p m j).1 = 0 → (∀ x ∈ (ruleP B sz k p m j).2, okCl x) ∧ j + (ruleP B sz k p m j).2.length ≤ 12
  | 0, p, m, j, hp, hm, hj, h => by simp [ruleP] at h
  | k + 1, p, m, j, hp, hm, hj, h => by
    unfold ruleP at h ⊢
    by_cases z1 : (clauseP B sz p m j).1 = 0
    · rw [if_pos z1] at h ⊢
      obtain ⟨f1, f2, f3, f4, f5, f6⟩ := clause_ok hp hm hj z1
      generalize clauseP B sz p m j = C at *
      by_cases z2 : sg B sz C.2.1 = 59
      · rw [if_pos z2] at h ⊢
        have hlt := (sg_lt (by decide) z2).1
        obtain ⟨i1, i2⟩ := ruleP_ok k (C.2.1 + 1) C.2.2.1 (j + 1) (by omega) f3 (by omega) h
        refine ⟨fun x hx => ?_, ?_⟩
        · rcases List.mem_cons.mp hx with e | e
          · rw [e]; exact f4
          · exact i1 x e
        · show j + (_ :: (ruleP B sz k (C.2.1 + 1) C.2.2.1 (j + 1)).2).length ≤ 12
          rw [List.length_cons]; omega
      · rw [if_neg z2] at h ⊢
        by_cases z3 : sg B sz C.2.1 = -1
        · rw [if_pos z3]
          refine ⟨fun x hx => ?_, by show j + 1 ≤ 12; omega⟩
          rw [List.mem_singleton.mp hx]; exact f4
        · rw [if_neg z3] at h; simp at h
    · rw [if_neg z1] at h; exact absurd h z1
theorem ruleP_lt {B : Nat → Int32} {sz : Nat} (h400 : sz ≤ 400) : ∀ (k p m j : Nat), p ≤ sz → m ≤ 60 → j ≤ 12 → (ruleP B sz k p m j).1 < 2 ^ 31
  | 0, p, m, j, hp, hm, hj => by show 1 < 2 ^ 31; decide
  | k + 1, p, m, j, hp, hm, hj => by
    unfold ruleP
    by_cases z1 : (clauseP B sz p m j).1 = 0
    · rw [if_pos z1]
      obtain ⟨f1, f2, f3, f4, f5, f6⟩ := clause_ok hp hm hj z1
      generalize clauseP B sz p m j = C at *
      by_cases z2 : sg B sz C.2.1 = 59
      · rw [if_pos z2]
        have hlt := (sg_lt (by decide) z2).1
        exact ruleP_lt h400 k (C.2.1 + 1) C.2.2.1 (j + 1) (by omega) f3 (by omega)
      · rw [if_neg z2]
        by_cases z3 : sg B sz C.2.1 = -1
        · rw [if_pos z3]; show 0 < 2 ^ 31; decide
        · rw [if_neg z3]; show 1 + 8 * C.2.1 < 2 ^ 31; omega
    · rw [if_neg z1]; exact clauseP_lt h400 hp hm
section RU2
variable {n : Nat} {B : Nat → Int32} {sz : Nat}
theorem fin_1 {r j : Nat} {σ : PS} : af r j σ (psI σ 249 1 0) := af_f (Fs := [1]) (agm_fld (by simp)) (by simp)
theorem M_rule35 (hn : 1000 ≤ n) (hB : ∀ i, byt (B i)) {r : Nat} (hr : r < 6) : ∀ (k kf p m j : Nat) (σ : PS) (c : List Nat), TM σ B sz p 0 → KM σ r c m → m ≤ 60 → c.length ≤ p → j ≤ 12 → σ.1 254 r = nI j → σ.1 249 14 = nI j → 12 < k + j → k ≤ kf → ∃ τ, mra n kf σ = some (if (ruleP B sz k p m j).1 = 0 then 1 else 0, τ) ∧ af r j σ τ ∧ τ.1 249 1 = 0 ∧ τ.1 249 9 = nI (ruleP B sz k p m j).1 ∧ ((ruleP B sz k p m j).1 = 0 → τ.1 254 r = nI (j + (ruleP B sz k p m j).2.length) ∧ c4s τ r (ruleP B sz k p m j).2 j c.length ∧ ∃ m', KM τ r (c ++ flM (ruleP B sz k p m j).2) m')
  | 0, kf, p, m, j, σ, c, ht, hk, hm, hl, hj, h254, h14, hf, hkf => by omega
  | k + 1, 0, p, m, j, σ, c, ht, hk, hm, hl, hj, h254, h14, hf, hkf => by omega
  | k + 1, kf + 1, p, m, j, σ, c, ht, hk, hm, hl, hj, h254, h14, hf, hkf => by
    have h400 := ht.2.2.2.2.2
    have hp := ht.2.2.2.2.1
    have hclt := clauseP_lt (B := B) (j := j) h400 hp hm
    have cok := clause_ok (B := B) (sz := sz) (p := p) (m := m) (j := j) hp hm hj
    obtain ⟨τ1, a1, a2, a3, a4⟩ := M_clause hn hB hr ht hk hm hl hj h254 h14
    unfold mra
    rw [a1, Option.bind_some]
    unfold ruleP
    generalize clauseP B sz p m j = C at *
    by_cases z1 : C.1 = 0
    · obtain ⟨b1, b2, b3, b4, b5⟩ := a4 z1
      obtain ⟨f1, f2, f3, f4, f5, f6⟩ := cok z1
      rw [if_pos z1, if_pos z1]
      show ∃ τ, (L_X12_readsAll_35 n (kf + 1) 1 τ1).bind _ = some _ ∧ _
      rw [L_X12_readsAll_35, if_neg ne10, M_see' hn b1 f2, Option.bind_some]
      by_cases z2 : sg B sz C.2.1 = 59
      · have hlt := (sg_lt (by decide) z2).1
        show ∃ τ, (if sg B sz C.2.1 = 59 then (F_X12_clauseHere n (psI τ1 249 8 (τ1.1 249 8 + 1))).bind (fun q8 => L_X12_readsAll_35 n kf q8.1 q8.2) else _).bind _ = some _ ∧ _
        rw [if_pos z2, if_pos z2, b1.2.2.1, nI_p1]
        have a5 : agm [] [8] τ1 (psI τ1 249 8 (nI (C.2.1 + 1))) := agm_fld (by simp)
        obtain ⟨τ, r1, r2, r3, r4, r5⟩ := M_rule35 hn hB hr k kf (C.2.1 + 1) C.2.2.1 (j + 1) _ _ (TM_p b1 (p' := C.2.1 + 1) (by omega)) (KM_f b2 a5 (by decide) (by decide)) f3 (by simp only [List.length_append]; omega) (by omega) (by rw [(a5.1 254 (by simp) (by decide)).1]; exact b3) (by rw [(a5.2 14 (by decide)).1]; exact b4) (by omega) (by omega)
        unfold mra at r1
        rw [Option.bind_assoc, r1]
        have xx : af r (j + 1) τ1 τ := af_trans (af_f a5 (by simp)) r2
        refine ⟨τ, rfl, af_trans a2 (af_le xx (by omega)), r3, r4, fun z => ?_⟩
        obtain ⟨s1, s2, m', s3⟩ := r5 z
        refine ⟨?_, ⟨c4M_af b5 xx, ?_⟩, m', ?_⟩
        · rw [s1, List.length_cons]; congr 1; omega
        · rw [List.length_append] at s2; exact s2
        · show KM τ r (c ++ ((C.2.2.2.1 ++ C.2.2.2.2.1) ++ flM _)) m'
          rw [← List.append_assoc]; exact s3
      · show ∃ τ, (if sg B sz C.2.1 = 59 then _ else some ((1 : Int32), τ1)).bind _ = some _ ∧ _
        rw [if_neg z2, if_neg z2, Option.bind_some]
        unfold fin35
        show ∃ τ, (if (1 : Int32) = 0 then _ else (F_X12_see n τ1).bind _) = some _ ∧ _
        rw [if_neg ne10, M_see' hn b1 f2, Option.bind_some]
        have g9 : (psI τ1 249 1 (0 : Int32)).1 249 9 = 0 := by rw [psI_eq, if_neg (by decide)]; exact b1.2.2.2.1
        show ∃ τ, (if sg B sz C.2.1 = -1 then (if (psI τ1 249 1 (0 : Int32)).1 249 9 = 0 then some ((1 : Int32), psI τ1 249 1 (0 : Int32)) else _) else (F_X12_fails n (nI 0) (τ1.1 249 8) τ1).bind _) = some _ ∧ _
        by_cases z3 : sg B sz C.2.1 = -1
        · rw [if_pos z3, if_pos z3, if_pos g9]
          refine ⟨_, rfl, af_trans a2 fin_1, by rw [psI_eq, if_pos rfl], g9, fun _ => ⟨?_, ⟨c4M_af b5 fin_1, trivial⟩, C.2.2.1, ?_⟩⟩
          · rw [psI_other (by decide)]; exact b3
          · show KM _ r (c ++ ((C.2.2.2.1 ++ C.2.2.2.2.1) ++ [])) _
            rw [List.append_nil]
            exact KM_f b2 (agm_fld (T := []) (Fs := [1]) (by simp)) (by decide) (by decide)
        · rw [if_neg z3, if_neg z3, b1.2.2.1]
          obtain ⟨τ2, c1, c2, c3⟩ := M_fails0 (n := n) (w := C.2.1) (k := 0) b1
          rw [c1, Option.bind_some]
          have g9' : (psI τ2 249 1 (0 : Int32)).1 249 9 = nI (1 + 8 * C.2.1) := by rw [psI_eq, if_neg (by decide)]; exact c2.2.2.2.1
          rw [g9', if_neg (nI_ne0 (by omega) (by omega)), if_neg (show ¬ 1 + 8 * C.2.1 = 0 by omega)]
          exact ⟨_, rfl, af_trans a2 (af_trans (af_f c3 (by simp)) fin_1), by rw [psI_eq, if_pos rfl], g9', fun z => absurd z (by show ¬ 1 + 8 * C.2.1 = 0; omega)⟩
    · rw [if_neg z1, if_neg z1]
      show ∃ τ, (L_X12_readsAll_35 n (kf + 1) 0 τ1).bind _ = some _ ∧ _
      rw [L_X12_readsAll_35, if_pos rfl, Option.bind_some]
      unfold fin35
      have g9' : (psI τ1 249 1 (0 : Int32)).1 249 9 = nI C.1 := by rw [psI_eq, if_neg (by decide)]; exact a3
      show ∃ τ, (if (0 : Int32) = 0 then (if (psI τ1 249 1 (0 : Int32)).1 249 9 = 0 then _ else some ((0 : Int32), psI τ1 249 1 (0 : Int32))) else _) = some _ ∧ _
      rw [if_pos rfl, g9', if_neg (nI_fault z1 hclt), if_neg z1]
      exact ⟨_, rfl, af_trans a2 fin_1, by rw [psI_eq, if_pos rfl], g9', fun z => absurd z z1⟩
/-- the reference's reading of a rule -/
theorem M_readsRule (hn : 1000 ≤ n) (hB : ∀ i, byt (B i)) {r : Nat} (hr : r < 6) {σ : PS} (h0 : σ.1 250 = B) (h1 : σ.1 249 1 = nI sz) (hs : sz ≤ 400) (h11 : σ.1 249 11 = nI r) (h254 : σ.1 254 r = nI 0) : ∃ τ, F_X12_readsAll n σ = some (if (ruleP B sz 13 0 0 0).1 = 0 then 1 else 0, τ) ∧ af r 0 σ τ ∧ τ.1 249 1 = 0 ∧ τ.1 249 9 = nI (ruleP B sz 13 0 0 0).1 ∧ ((ruleP B sz 13 0 0 0).1 = 0 → stM τ r (ruleP B sz 13 0 0 0).2) := by
  unfold F_X12_readsAll
  rw [h11, nI_clamp (by omega), if_pos ⟨nI_pos' (by omega), by omega⟩]
  generalize hT : psI (psI (psI (psI (psI σ 252 r (0 : Int32)) 249 14 (0 : Int32)) 249 8 (0 : Int32)) 249 9 (0 : Int32)) 249 12 (0 : Int32) = τ0
  have a0 : agm [252] [8, 9, 12, 14] σ τ0 := by rw [← hT]; exact agm_trans (agm_psI (by simp) (by decide)) (agm_trans (agm_fld (by simp)) (agm_trans (agm_fld (by simp)) (agm_trans (agm_fld (by simp)) (agm_fld (by simp)))))
  have x0 : af r 0 σ τ0 := ⟨agm_mono a0 (by simp) (by simp), fun x _ => by rw [(a0.1 251 (by decide) (by decide)).1], fun x _ => by rw [(a0.1 253 (by decide) (by decide)).1], fun x _ => by rw [(a0.1 254 (by decide) (by decide)).1]⟩
  have t0 : TM τ0 B sz 0 0 := by
    refine ⟨by rw [(a0.1 250 (by decide) (by decide)).1]; exact h0, by rw [(a0.2 1 (by decide)).1]; exact h1, ?_, ?_, Nat.zero_le _, hs⟩
    · rw [← hT, psI_eq, if_neg (by decide), psI_eq, if_neg (by decide), psI_eq, if_pos rfl]; rfl
    · rw [← hT, psI_eq, if_neg (by decide), psI_eq, if_pos rfl]
  have k0 : KM τ0 r [] 0 := by
    refine ⟨by simp, by rw [(a0.2 11 (by decide)).1]; exact h11, ?_, fun i hi => by simp at hi, ?_⟩
    · rw [← hT, psI_other (by decide), psI_other (by decide), psI_other (by decide), psI_other (by decide), psI_eq, if_pos rfl]; rfl
    · rw [← hT, psI_eq, if_pos rfl]; rfl
  obtain ⟨τ, r1, r2, r3, r4, r5⟩ := M_rule35 hn hB hr 13 n 0 0 0 τ0 [] t0 k0 (by decide) (by simp) (by decide) (by rw [(a0.1 254 (by decide) (by decide)).1]; exact h254) (by rw [← hT, psI_eq, if_neg (by decide), psI_eq, if_neg (by decide), psI_eq, if_neg (by decide), psI_eq, if_pos rfl]; rfl) (by omega) (by omega)
  refine ⟨τ, r1, af_trans x0 r2, r3, r4, fun z => ?_⟩
  obtain ⟨s1, s2, m', s3⟩ := r5 z
  obtain ⟨o1, o2⟩ := ruleP_ok (B := B) (sz := sz) 13 0 0 0 (Nat.zero_le _) (by decide) (by decide) z
  rw [Nat.zero_add] at s1 o2
  exact ⟨o2, s1, o1, clM_of _ 0 [] s2 s3.2.2.2.1 s3.1⟩
end RU2
