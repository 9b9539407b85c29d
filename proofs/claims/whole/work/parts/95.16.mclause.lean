/-! A clause, and a whole rule; the reference's side. -/
def af (r j : Nat) (σ τ : PS) : Prop := agm [251, 252, 253, 254, 256] [1, 8, 9, 10, 12, 13, 14, 16] σ τ ∧ (∀ x, x < 400 * r → τ.1 251 x = σ.1 251 x) ∧ (∀ x, x < 48 * r + 4 * j → τ.1 253 x = σ.1 253 x) ∧ ∀ x, x ≠ r → τ.1 254 x = σ.1 254 x
theorem af_refl {r j : Nat} {σ : PS} : af r j σ σ := ⟨agm_refl, fun _ _ => rfl, fun _ _ => rfl, fun _ _ => rfl⟩
theorem af_trans {r j : Nat} {a b c : PS} (h1 : af r j a b) (h2 : af r j b c) : af r j a c := ⟨agm_trans h1.1 h2.1, fun x hx => (h2.2.1 x hx).trans (h1.2.1 x hx), fun x hx => (h2.2.2.1 x hx).trans (h1.2.2.1 x hx), fun x hx => (h2.2.2.2 x hx).trans (h1.2.2.2 x hx)⟩
theorem af_le {r j j' : Nat} {a b : PS} (h : af r j' a b) (hj : j ≤ j') : af r j a b := ⟨h.1, h.2.1, fun x hx => h.2.2.1 x (by omega), h.2.2.2⟩
theorem af_at {r j : Nat} {σ τ : PS} (h : at2 r σ τ) : af r j σ τ := ⟨agm_mono h.1 (by simp) (by simp), h.2, fun x _ => by rw [(h.1.1 253 (by decide) (by decide)).1], fun x _ => by rw [(h.1.1 254 (by decide) (by decide)).1]⟩
theorem af_f {r j : Nat} {σ τ : PS} {Fs : List Nat} (h : agm [] Fs σ τ) (hs : ∀ j ∈ Fs, j ∈ [1, 8, 9, 10, 12, 13, 14, 16]) : af r j σ τ := ⟨agm_mono h (by simp) hs, fun x _ => by rw [(h.1 251 (by simp) (by decide)).1], fun x _ => by rw [(h.1 253 (by simp) (by decide)).1], fun x _ => by rw [(h.1 254 (by simp) (by decide)).1]⟩
theorem af_3 {r j x : Nat} {v : Int32} {σ : PS} (hx : 48 * r + 4 * j ≤ x) : af r j σ (psI σ 253 x v) := ⟨agm_psI (by simp) (by decide), fun y _ => by rw [psI_other (by decide)], fun y hy => by rw [psI_eq, if_neg (by omega)], fun y _ => by rw [psI_other (by decide)]⟩
theorem af_4 {r j : Nat} {v : Int32} {σ : PS} : af r j σ (psI σ 254 r v) := ⟨agm_psI (by simp) (by decide), fun y _ => by rw [psI_other (by decide)], fun y hy => by rw [psI_other (by decide)], fun y hy => by rw [psI_eq, if_neg hy]⟩
theorem TM_3 {σ : PS} {B : Nat → Int32} {sz p i x : Nat} {f v : Int32} (h : TM σ B sz p f) (hi : i = 253 ∨ i = 254) : TM (psI σ i x v) B sz p f := by
  have a : agm [253, 254] [] σ (psI σ i x v) := agm_psI (by rcases hi with e | e <;> subst e <;> simp) (by rcases hi with e | e <;> subst e <;> decide)
  exact TM_agm h a (by decide) (by simp) (by simp) (by simp)
theorem KM_3 {σ : PS} {r i x : Nat} {v : Int32} {c : List Nat} {m : Nat} (h : KM σ r c m) (hi : i = 253 ∨ i = 254) : KM (psI σ i x v) r c m := by
  have a : agm [253, 254] [] σ (psI σ i x v) := agm_psI (by rcases hi with e | e <;> subst e <;> simp) (by rcases hi with e | e <;> subst e <;> decide)
  exact KM_ag h a (by decide) (by decide) (by simp) (by simp)
section CM2
variable {n : Nat} {B : Nat → Int32} {sz : Nat}
/-- what stands in the rows of a clause -/
def c4M (σ : PS) (r j b : Nat) (k : CL) : Prop := σ.1 253 (48 * r + 4 * j) = nI b ∧ σ.1 253 (48 * r + 4 * j + 1) = nI (b + k.1.length) ∧ σ.1 253 (48 * r + 4 * j + 2) = (if k.2.2 = true then nI (b + k.1.length) else m1) ∧ σ.1 253 (48 * r + 4 * j + 3) = nI (b + k.1.length + k.2.1.length)
theorem M_go (hn : 1000 ≤ n) (hB : ∀ i, byt (B i)) {r : Nat} (hr : r < 6) {q m j : Nat} {σ : PS} {c : List Nat} (ht : TM σ B sz q 0) (hs : sk B sz q = q) (hk : KM σ r c m) (hm : m ≤ 60) (hl : c.length ≤ q) (hj : j < 12) (h254 : σ.1 254 r = nI j) (hw : wl B sz q = wS 3) : ∃ τ, F_X12_isGoHere n σ = some (if (clauseP B sz q m j).1 = 0 then 1 else 0, τ) ∧ af r j σ τ ∧ τ.1 249 14 = σ.1 249 14 ∧ τ.1 249 9 = nI (clauseP B sz q m j).1 ∧ ((clauseP B sz q m j).1 = 0 → TM τ B sz (clauseP B sz q m j).2.1 0 ∧ KM τ r (c ++ ((clauseP B sz q m j).2.2.2.1 ++ (clauseP B sz q m j).2.2.2.2.1)) (clauseP B sz q m j).2.2.1 ∧ τ.1 254 r = nI (j + 1) ∧ c4M τ r j c.length (clauseP B sz q m j).2.2.2) := by
  have h400 := ht.2.2.2.2.2
  have hq := ht.2.2.2.2.1
  have hl1 := wl_67 (k := 2) rfl hw hq
  obtain ⟨τ1, a1, a2, a3⟩ := M_passWord hn ht
  rw [hw] at a2
  have a2' : TM τ1 B sz (q + 2) 0 := a2
  have k1 := KM_f hk a3 (by decide) (by decide)
  have g11 : τ1.1 249 11 = nI r := k1.2.1
  have g254 : τ1.1 254 r = nI j := by rw [(a3.1 254 (by simp) (by decide)).1]; exact h254
  have g252 : τ1.1 252 r = nI c.length := k1.2.2.1
  have g14 : τ1.1 249 14 = σ.1 249 14 := (a3.2 14 (by decide)).1
  unfold F_X12_isGoHere
  rw [a1, Option.bind_some]
  simp only [g11, nI_clamp (show r < 2 ^ 31 by omega), g254, g252]
  have e48 : (48 : Int32) * nI r + 4 * nI j = nI (48 * r + 4 * j) := by
    show nI 48 * nI r + nI 4 * nI j = _
    rw [nI_mul, nI_mul, nI_add]
  have e1 : nI (48 * r + 4 * j) + (1 : Int32) = nI (48 * r + 4 * j + 1) := nI_add _ 1
  have e2 : nI (48 * r + 4 * j) + (2 : Int32) = nI (48 * r + 4 * j + 2) := nI_add _ 2
  have e3 : nI (48 * r + 4 * j) + (3 : Int32) = nI (48 * r + 4 * j + 3) := nI_add _ 3
  simp only [e48, e1, e2, e3, nI_clamp (show 48 * r + 4 * j < 2 ^ 31 by omega), nI_clamp (show 48 * r + 4 * j + 1 < 2 ^ 31 by omega), nI_clamp (show 48 * r + 4 * j + 2 < 2 ^ 31 by omega), nI_clamp (show 48 * r + 4 * j + 3 < 2 ^ 31 by omega)]
  rw [if_pos ⟨nI_pos' (by omega), by omega⟩, if_pos ⟨nI_pos' (by omega), by omega⟩, if_pos ⟨nI_pos' (by omega), by omega⟩]
  generalize hT0 : psI τ1 253 (48 * r + 4 * j) (nI c.length) = τ2
  have t2 : TM τ2 B sz (q + 2) 0 := by rw [← hT0]; exact TM_3 a2' (Or.inl rfl)
  have k2 : KM τ2 r c m := by rw [← hT0]; exact KM_3 k1 (Or.inl rfl)
  have x2 : af r j σ τ2 := by rw [← hT0]; exact af_trans (af_f a3 (by simp)) (af_3 (by omega))
  have y2 : τ2.1 249 14 = σ.1 249 14 := by rw [← hT0, psI_other (by decide)]; exact g14
  have z2 : τ2.1 253 (48 * r + 4 * j) = nI c.length := by rw [← hT0, psI_eq, if_pos rfl]
  have w2 : τ2.1 254 r = nI j := by rw [← hT0, psI_other (by decide)]; exact g254
  obtain ⟨τ3, b1, b2, b3, b4⟩ := M_sum hn hB hr t2 k2 hm (by omega)
  rw [b1, Option.bind_some]
  have x3 : af r j σ τ3 := af_trans x2 (af_at (at2_am b2))
  have y3 : τ3.1 249 14 = σ.1 249 14 := by rw [(b2.1.2 14 (by decide)).1]; exact y2
  have r253 : τ3.1 253 = τ2.1 253 := (b2.1.1 253 (by decide) (by decide)).1
  have r254 : τ3.1 254 = τ2.1 254 := (b2.1.1 254 (by decide) (by decide)).1
  by_cases z3 : (sumP B sz 61 0 0 (q + 2) m).1 = 0
  · obtain ⟨d1, d2⟩ := b4 z3
    obtain ⟨i1, i2, i3, i4, i5, i6, i7, i8⟩ := sumP_ok 61 0 0 (q + 2) m (Or.inl rfl) (Or.inl rfl) hl1 hm z3
    rw [show cO 0 = 0 from rfl] at i8
    have hCS : ∀ X, clauseP B sz q m j = X → clauseP B sz q m j = X := fun _ h => h
    have c0 : clauseP B sz q m j = (if wl B sz (sumP B sz 61 0 0 (q + 2) m).2.1 = wS 4 then ((testP B sz 401 ((sumP B sz 61 0 0 (q + 2) m).2.1 + 2) (sumP B sz 61 0 0 (q + 2) m).2.2.1 []).1, (testP B sz 401 ((sumP B sz 61 0 0 (q + 2) m).2.1 + 2) (sumP B sz 61 0 0 (q + 2) m).2.2.1 []).2.1, (testP B sz 401 ((sumP B sz 61 0 0 (q + 2) m).2.1 + 2) (sumP B sz 61 0 0 (q + 2) m).2.2.1 []).2.2.1, ((sumP B sz 61 0 0 (q + 2) m).2.2.2, (testP B sz 401 ((sumP B sz 61 0 0 (q + 2) m).2.1 + 2) (sumP B sz 61 0 0 (q + 2) m).2.2.1 []).2.2.2, true)) else (0, (sumP B sz 61 0 0 (q + 2) m).2.1, (sumP B sz 61 0 0 (q + 2) m).2.2.1, ((sumP B sz 61 0 0 (q + 2) m).2.2.2, [], false))) := by
      unfold clauseP; rw [hs, if_pos hw, if_neg (by omega), if_pos z3]
    simp only [z3, if_true]
    rw [if_neg (show ¬ (1 : Int32) = 0 by decide)]
    generalize hS : sumP B sz 61 0 0 (q + 2) m = S at *
    have g11' : τ3.1 249 11 = nI r := d2.2.1
    have g252' : τ3.1 252 r = nI (c ++ S.2.2.2).length := d2.2.2.1
    simp only [g11', nI_clamp (show r < 2 ^ 31 by omega), g252']
    rw [if_pos ⟨nI_pos' (by omega), by omega⟩, if_pos ⟨nI_pos' (by omega), by omega⟩, if_pos ⟨nI_pos' (by omega), by omega⟩]
    generalize hT1 : psI (psI τ3 253 (48 * r + 4 * j + 1) (nI (c ++ S.2.2.2).length)) 253 (48 * r + 4 * j + 2) (-1 : Int32) = τ4
    have t4 : TM τ4 B sz S.2.1 0 := by rw [← hT1]; exact TM_3 (TM_3 d1 (Or.inl rfl)) (Or.inl rfl)
    have k4 : KM τ4 r (c ++ S.2.2.2) S.2.2.1 := by rw [← hT1]; exact KM_3 (KM_3 d2 (Or.inl rfl)) (Or.inl rfl)
    have x4 : af r j σ τ4 := by rw [← hT1]; exact af_trans x3 (af_trans (af_3 (by omega)) (af_3 (by omega)))
    have y4 : τ4.1 249 14 = σ.1 249 14 := by rw [← hT1, psI_other (by decide), psI_other (by decide)]; exact y3
    have u0 : τ4.1 253 (48 * r + 4 * j) = nI c.length := by rw [← hT1, psI_eq, if_neg (by omega), psI_eq, if_neg (by omega), r253]; exact z2
    have u1 : τ4.1 253 (48 * r + 4 * j + 1) = nI (c.length + S.2.2.2.length) := by rw [← hT1, psI_eq, if_neg (by omega), psI_eq, if_pos rfl, List.length_append]
    have u2 : τ4.1 253 (48 * r + 4 * j + 2) = m1 := by rw [← hT1, psI_eq, if_pos rfl]; rfl
    have w4 : τ4.1 254 r = nI j := by rw [← hT1, psI_other (by decide), psI_other (by decide), r254]; exact w2
    unfold F_X12_takesWord
    rw [M_isWord' hn t4 i3 (l := wS 4) (wS_mem 4 (by decide)) (by decide) (by decide) (by decide +kernel), Option.bind_some]
    by_cases z4 : wl B sz S.2.1 = wS 4
    · rw [if_pos z4] at c0 ⊢
      have hl2 := wl_67 (k := 2) rfl z4 i2
      rw [if_neg ne10]
      obtain ⟨τ5, p1, p2, p3⟩ := M_passWord hn t4
      rw [z4] at p2
      have p2' : TM τ5 B sz (S.2.1 + 2) 0 := p2
      show ∃ τ, ((((F_X12_passWord n τ4).bind _)).bind _) = some _ ∧ _
      rw [p1, Option.bind_some, Option.bind_some, if_neg ne10]
      have k5 := KM_f k4 p3 (by decide) (by decide)
      have g11'' : τ5.1 249 11 = nI r := k5.2.1
      have g252'' : τ5.1 252 r = nI (c ++ S.2.2.2).length := k5.2.2.1
      simp only [g11'', nI_clamp (show r < 2 ^ 31 by omega), g252'']
      rw [if_pos ⟨nI_pos' (by omega), by omega⟩]
      generalize hT2 : psI τ5 253 (48 * r + 4 * j + 2) (nI (c ++ S.2.2.2).length) = τ6
      have t6 : TM τ6 B sz (S.2.1 + 2) 0 := by rw [← hT2]; exact TM_3 p2' (Or.inl rfl)
      have k6 : KM τ6 r (c ++ S.2.2.2) S.2.2.1 := by rw [← hT2]; exact KM_3 k5 (Or.inl rfl)
      have x6 : af r j σ τ6 := by rw [← hT2]; exact af_trans x4 (af_trans (af_f p3 (by simp)) (af_3 (by omega)))
      have s253 : τ5.1 253 = τ4.1 253 := (p3.1 253 (by simp) (by decide)).1
      have s254 : τ5.1 254 = τ4.1 254 := (p3.1 254 (by simp) (by decide)).1
      have y6 : τ6.1 249 14 = σ.1 249 14 := by rw [← hT2, psI_other (by decide), (p3.2 14 (by decide)).1]; exact y4
      obtain ⟨τ7, q1, q2, q3, q4⟩ := M_test hn hB hr t6 k6 i4 (by rw [List.length_append]; omega)
      rw [q1, Option.bind_some]
      have x7 : af r j σ τ7 := af_trans x6 (af_at q2)
      have y7 : τ7.1 249 14 = σ.1 249 14 := by rw [(q2.1.2 14 (by decide)).1]; exact y6
      have v253 : τ7.1 253 = τ6.1 253 := (q2.1.1 253 (by decide) (by decide)).1
      have v254 : τ7.1 254 = τ6.1 254 := (q2.1.1 254 (by decide) (by decide)).1
      have tok := testP_ok (B := B) (sz := sz) 401 (S.2.1 + 2) S.2.2.1 [] hl2 i4 trivial (by decide)
      rw [c0]
      generalize testP B sz 401 (S.2.1 + 2) S.2.2.1 [] = T at *
      by_cases z5 : T.1 = 0
      · obtain ⟨o1, o2, o3, o4, o5, o6, o7, o8⟩ := tok z5
        rw [show pen [] = 0 from rfl] at o8
        obtain ⟨v1, v2⟩ := q4 z5
        simp only [z5, if_true]
        rw [if_neg (show ¬ (1 : Int32) = 0 by decide)]
        have h11 : τ7.1 249 11 = nI r := v2.2.1
        have h252 : τ7.1 252 r = nI (c ++ S.2.2.2 ++ T.2.2.2).length := v2.2.2.1
        simp only [h11, nI_clamp (show r < 2 ^ 31 by omega), h252]
        have h11b : (psI τ7 253 (48 * r + 4 * j + 3) (nI (c ++ S.2.2.2 ++ T.2.2.2).length)).1 249 11 = nI r := by rw [psI_other (by decide)]; exact h11
        have h254b : (psI τ7 253 (48 * r + 4 * j + 3) (nI (c ++ S.2.2.2 ++ T.2.2.2).length)).1 254 r = nI j := by
          rw [psI_other (by decide), v254, ← hT2, psI_other (by decide), s254]; exact w4
        simp only [h11b, nI_clamp (show r < 2 ^ 31 by omega), h254b, nI_p1]
        rw [if_pos ⟨nI_pos' (by omega), by omega⟩, if_pos ⟨nI_pos' (by omega), by omega⟩, if_pos ⟨nI_pos' (by omega), by omega⟩]
        refine ⟨_, rfl, ?_, ?_, ?_, fun _ => ⟨?_, ?_, ?_, ?_, ?_, ?_, ?_⟩⟩
        · exact af_trans x7 (af_trans (af_3 (by omega)) af_4)
        · rw [psI_other (by decide), psI_other (by decide)]; exact y7
        · rw [psI_other (by decide), psI_other (by decide)]; exact v1.2.2.2.1
        · exact TM_3 (TM_3 v1 (Or.inl rfl)) (Or.inr rfl)
        · rw [← List.append_assoc]; exact KM_3 (KM_3 v2 (Or.inl rfl)) (Or.inr rfl)
        · rw [psI_eq, if_pos rfl]
        · rw [psI_other (by decide), psI_eq, if_neg (by omega), v253, ← hT2, psI_eq, if_neg (by omega), s253]; exact u0
        · rw [psI_other (by decide), psI_eq, if_neg (by omega), v253, ← hT2, psI_eq, if_neg (by omega), s253]; exact u1
        · rw [psI_other (by decide), psI_eq, if_neg (by omega), v253, ← hT2, psI_eq, if_pos rfl, List.length_append]; rfl
        · rw [psI_other (by decide), psI_eq, if_pos rfl, List.length_append, List.length_append]
      · simp only [z5, if_false, if_true]
        exact ⟨τ7, rfl, x7, y7, q3, fun z => z.elim⟩
    · rw [if_neg z4] at c0 ⊢
      rw [if_pos rfl, Option.bind_some, if_pos rfl, c0]
      have h11 : τ4.1 249 11 = nI r := k4.2.1
      have h252 : τ4.1 252 r = nI (c ++ S.2.2.2).length := k4.2.2.1
      simp only [h11, nI_clamp (show r < 2 ^ 31 by omega), h252]
      have h11b : (psI τ4 253 (48 * r + 4 * j + 3) (nI (c ++ S.2.2.2).length)).1 249 11 = nI r := by rw [psI_other (by decide)]; exact h11
      have h254b : (psI τ4 253 (48 * r + 4 * j + 3) (nI (c ++ S.2.2.2).length)).1 254 r = nI j := by rw [psI_other (by decide)]; exact w4
      simp only [h11b, nI_clamp (show r < 2 ^ 31 by omega), h254b, nI_p1]
      rw [if_pos ⟨nI_pos' (by omega), by omega⟩, if_pos ⟨nI_pos' (by omega), by omega⟩, if_pos ⟨nI_pos' (by omega), by omega⟩]
      refine ⟨_, rfl, ?_, ?_, ?_, fun _ => ⟨?_, ?_, ?_, ?_, ?_, ?_, ?_⟩⟩
      · exact af_trans x4 (af_trans (af_3 (by omega)) af_4)
      · rw [psI_other (by decide), psI_other (by decide)]; exact y4
      · rw [psI_other (by decide), psI_other (by decide)]; exact t4.2.2.2.1
      · exact TM_3 (TM_3 t4 (Or.inl rfl)) (Or.inr rfl)
      · rw [List.append_nil]; exact KM_3 (KM_3 k4 (Or.inl rfl)) (Or.inr rfl)
      · rw [psI_eq, if_pos rfl]
      · rw [psI_other (by decide), psI_eq, if_neg (by omega)]; exact u0
      · rw [psI_other (by decide), psI_eq, if_neg (by omega)]; exact u1
      · rw [psI_other (by decide), psI_eq, if_neg (by omega)]; exact u2
      · rw [psI_other (by decide), psI_eq, if_pos rfl, List.length_append]; rfl
  · have hC : clauseP B sz q m j = ((sumP B sz 61 0 0 (q + 2) m).1, 0, 0, ([], [], false)) := by unfold clauseP; rw [hs, if_pos hw, if_neg (by omega), if_neg z3]
    rw [hC]
    simp only [z3, if_false, if_true]
    exact ⟨τ3, rfl, x3, y3, b3, fun z => z.elim⟩
theorem M_clause (hn : 1000 ≤ n) (hB : ∀ i, byt (B i)) {r : Nat} (hr : r < 6) {p m j : Nat} {σ : PS} {c : List Nat} (ht : TM σ B sz p 0) (hk : KM σ r c m) (hm : m ≤ 60) (hl : c.length ≤ p) (hj : j ≤ 12) (h254 : σ.1 254 r = nI j) (h14 : σ.1 249 14 = nI j) : ∃ τ, F_X12_clauseHere n σ = some (if (clauseP B sz p m j).1 = 0 then 1 else 0, τ) ∧ af r j σ τ ∧ τ.1 249 9 = nI (clauseP B sz p m j).1 ∧ ((clauseP B sz p m j).1 = 0 → TM τ B sz (clauseP B sz p m j).2.1 0 ∧ KM τ r (c ++ ((clauseP B sz p m j).2.2.2.1 ++ (clauseP B sz p m j).2.2.2.2.1)) (clauseP B sz p m j).2.2.1 ∧ τ.1 254 r = nI (j + 1) ∧ τ.1 249 14 = nI (j + 1) ∧ c4M τ r j c.length (clauseP B sz p m j).2.2.2) := by
  have h400 := ht.2.2.2.2.2
  have hp := ht.2.2.2.2.1
  have hsk := sk_idem (B := B) hp
  have hg := sk_ge B sz p
  obtain ⟨τ1, a1, a2, a3⟩ := M_see hn ht
  have k1 := KM_f hk a3 (by decide) (by decide)
  have g11 : τ1.1 249 11 = nI r := k1.2.1
  have hcl : clauseP B sz p m j = clauseP B sz (sk B sz p) m j := by unfold clauseP; rw [hsk]
  rw [hcl]
  unfold F_X12_clauseHere
  rw [a1, Option.bind_some]
  show ∃ τ, (if τ1.1 249 11 = (6 : Int32) then _ else (if (0 : Int32) = 0 then (F_X12_isWord n (26479 : Int64) τ1).bind (fun q5 => (if q5.1 = 0 then (F_X12_fails n (nI 0) (τ1.1 249 8) q5.2).bind (fun q31 => (if q31.1 = 0 ∨ q31.1 = 1 then some (q31.1, q31.2) else none)) else J_X12_clauseHere_56 n (τ1.1 249 8) (0 : Int32) q5.2)) else _)) = some _ ∧ _
  rw [g11, if_neg (show ¬ nI r = (6 : Int32) from fun z => by have := nI_inj (b := 6) (by omega) (by decide) z; omega), if_pos rfl, M_isWord' hn a2 hsk (l := wS 3) (wS_mem 3 (by decide)) (by decide) (by decide) (by decide +kernel), Option.bind_some, a2.2.2.1]
  generalize hqq : sk B sz p = q at *
  by_cases z1 : wl B sz q = wS 3
  · rw [if_pos z1, if_neg ne10]
    unfold J_X12_clauseHere_56
    have g14 : τ1.1 249 14 = nI j := by rw [(a3.2 14 (by decide)).1]; exact h14
    show ∃ τ, (if (0 : Int32) = 0 then (if τ1.1 249 14 = (12 : Int32) then (F_X12_fails n (nI 4) (nI q) τ1).bind (fun q17 => (if q17.1 = 0 ∨ q17.1 = 1 then some (q17.1, q17.2) else none)) else (if (0 : Int32) = 0 then (F_X12_isGoHere n (psI τ1 249 14 (τ1.1 249 14 + 1))).bind (fun q11 => (if q11.1 = 0 ∨ q11.1 = 1 then some (q11.1, q11.2) else none)) else _)) else _) = some _ ∧ _
    rw [if_pos rfl, g14]
    by_cases z2 : j = 12
    · have hC : clauseP B sz q m j = (5 + 8 * q, 0, 0, ([], [], false)) := by unfold clauseP; rw [hsk, if_pos z1, if_pos z2]
      rw [if_pos (show nI j = (12 : Int32) by rw [z2]; rfl), hC]
      obtain ⟨τ2, b1, b2, b3⟩ := M_fails0 (n := n) (w := q) (k := 4) a2
      rw [b1, Option.bind_some, if_pos (Or.inl rfl), if_neg (show ¬ 5 + 8 * q = 0 by omega)]
      exact ⟨τ2, rfl, af_trans (af_f a3 (by simp)) (af_f b3 (by simp)), by rw [b2.2.2.2.1, show 1 + 8 * q + 4 = 5 + 8 * q by omega], fun z => absurd z (by show ¬ 5 + 8 * q = 0; omega)⟩
    · rw [if_neg (show ¬ nI j = (12 : Int32) from fun z => z2 (nI_inj (b := 12) (by omega) (by decide) z)), if_pos rfl, nI_p1]
      have a4 : agm [] [14] τ1 (psI τ1 249 14 (nI (j + 1))) := agm_fld (by simp)
      obtain ⟨τ2, b1, b2, b3, b4, b5⟩ := M_go hn hB hr (TM_agm a2 a4 (by simp) (by decide) (by decide) (by decide)) hsk (KM_f k1 a4 (by decide) (by decide)) hm (by omega) (by omega) (by rw [(a4.1 254 (by simp) (by decide)).1, (a3.1 254 (by simp) (by decide)).1]; exact h254) z1 (j := j)
      rw [b1, Option.bind_some]
      have b3' : τ2.1 249 14 = nI (j + 1) := by rw [b3, psI_eq, if_pos rfl]
      refine ⟨τ2, ?_, af_trans (af_f a3 (by simp)) (af_trans (af_f a4 (by simp)) b2), b4, fun z => ⟨(b5 z).1, (b5 z).2.1, (b5 z).2.2.1, b3', (b5 z).2.2.2⟩⟩
      by_cases zf : (clauseP B sz q m j).1 = 0
      · rw [if_pos zf]; rfl
      · rw [if_neg zf]; rfl
  · have hC : clauseP B sz q m j = (1 + 8 * q, 0, 0, ([], [], false)) := by unfold clauseP; rw [hsk, if_neg z1]
    rw [if_neg z1, if_pos rfl, hC]
    show ∃ τ, (F_X12_fails n (nI 0) (nI q) τ1).bind _ = some _ ∧ _
    obtain ⟨τ2, b1, b2, b3⟩ := M_fails0 (n := n) (w := q) (k := 0) a2
    rw [b1, Option.bind_some, if_pos (Or.inl rfl), if_neg (show ¬ 1 + 8 * q = 0 by omega)]
    exact ⟨τ2, rfl, af_trans (af_f a3 (by simp)) (af_f b3 (by simp)), b2.2.2.2.1, fun z => absurd z (by show ¬ 1 + 8 * q = 0; omega)⟩
def fin35 (n : Nat) (o10 : Int32 × PS) : Option (Int32 × PS) := (if o10.1 = 0 then (if ((psI o10.2 249 1 (0 : Int32)).1 249 9) = 0 then some ((1 : Int32), psI o10.2 249 1 (0 : Int32)) else some ((0 : Int32), psI o10.2 249 1 (0 : Int32))) else (F_X12_see n o10.2).bind (fun q14 => (if q14.1 = (-1 : Int32) then (if ((psI q14.2 249 1 (0 : Int32)).1 249 9) = 0 then some ((1 : Int32), psI q14.2 249 1 (0 : Int32)) else some ((0 : Int32), psI q14.2 249 1 (0 : Int32))) else (F_X12_fails n (0 : Int32) (q14.2.1 249 8) q14.2).bind (fun q18 => (if ((psI q18.2 249 1 (0 : Int32)).1 249 9) = 0 then some ((1 : Int32), psI q18.2 249 1 (0 : Int32)) else some ((0 : Int32), psI q18.2 249 1 (0 : Int32)))))))
def mra (n kf : Nat) (σ : PS) : Option (Int32 × PS) := (F_X12_clauseHere n σ).bind (fun q2 => (L_X12_readsAll_35 n kf q2.1 q2.2).bind (fun o10 => fin35 n o10))
end CM2
