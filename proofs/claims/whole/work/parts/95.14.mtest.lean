/-! A whole test on the reference's side. -/
section MS
variable {n : Nat} {B : Nat → Int32} {sz : Nat}
theorem M_fact (hn : 1000 ≤ n) (hB : ∀ i, byt (B i)) {r : Nat} (hr : r < 6) {p m : Nat} {pd : List Nat} {σ : PS} {c : List Nat} (ht : TM σ B sz p 0) (hq : QM σ pd) (hk : KM σ r c m) (hm : m ≤ 60) (ho : ordP pd) (hd : dep pd ≤ 10) (hl : c.length + pen pd + 1 ≤ p) : ∃ τ, F_X12_fact n σ = some (if (if (oP B sz p pd).1 = 0 then (fP B sz p m pd).1 else (oP B sz p pd).1) = 0 then 1 else 0, τ) ∧ at2 r σ τ ∧ τ.1 249 9 = nI (if (oP B sz p pd).1 = 0 then (fP B sz p m pd).1 else (oP B sz p pd).1) ∧ ((oP B sz p pd).1 = 0 → (fP B sz p m pd).1 = 0 → TM τ B sz (fP B sz p m pd).2.1 0 ∧ QM τ (oP B sz p pd).2.2 ∧ KM τ r (c ++ (fP B sz p m pd).2.2.2) (fP B sz p m pd).2.2.1) := by
  have hp := ht.2.2.2.2.1
  obtain ⟨e, τ1, a1, a2, a3⟩ := M_fact2 hn (r := r) 11 n p pd σ c m ht hq hk ho hd (by omega) (by omega)
  unfold F_X12_fact
  rw [a1, Option.bind_some]
  rcases a3 with ⟨z, ze, b1, b2, b3⟩ | ⟨z, ze, b1⟩
  · have z' : (oP B sz p pd).1 = 0 := z
    obtain ⟨o1, o2, o3, o4, o5, o6, o7⟩ := openP_ok (B := B) (sz := sz) 11 p pd hp ho hd z
    subst ze
    rw [if_pos z']
    show ∃ τ, (if (2 : Nat) = 0 then _ else if (2 : Nat) = 1 then _ else (F_X12_compare n τ1).bind _) = some _ ∧ _
    rw [if_neg (by decide), if_neg (by decide)]
    obtain ⟨τ2, c1, c2, c3, c4⟩ := M_cmp hn hB hr b1 b3 hm (by omega)
    rw [c1, Option.bind_some]
    have hF : cmpP B sz (openP B sz 11 p pd).2.1 m = fP B sz p m pd := rfl
    rw [hF] at c3 c4 ⊢
    refine ⟨τ2, ?_, at2_trans a2 (at2_am c2), c3, fun _ zf => ⟨(c4 zf).1, QM_am b2 c2, (c4 zf).2⟩⟩
    by_cases zf : (fP B sz p m pd).1 = 0
    · rw [if_pos zf]; rfl
    · rw [if_neg zf]; rfl
  · have z' : ¬ (oP B sz p pd).1 = 0 := z
    rw [if_neg z', if_neg z']
    rcases ze with ze | ze <;> subst ze
    · exact ⟨τ1, rfl, a2, b1, fun q => absurd q z'⟩
    · exact ⟨τ1, rfl, a2, b1, fun q => absurd q z'⟩
def mts (n kf : Nat) (σ : PS) : Option (Int32 × PS) := (L_X12_tested_12 n kf (1 : Int32) σ).bind (fun o67 => (if o67.1 = 0 then some ((0 : Int32), o67.2) else (F_X12_isInside n o67.2).bind (fun q69 => (if q69.1 = 0 then (F_X12_layDown n (1 : Int32) q69.2).bind (fun q72 => some ((1 : Int32), q72)) else (F_X12_see n q69.2).bind (fun q74 => (F_X12_fails n (0 : Int32) (q74.2.1 249 8) q74.2).bind (fun q76 => (if q76.1 = 0 ∨ q76.1 = 1 then some (q76.1, q76.2) else none)))))))
theorem QM_push {r : Nat} {σ : PS} {pd : List Nat} {x : Nat} (hx : x = 12 ∨ x = 13) (hq : QM σ pd) : QM (psI (psI σ 256 pd.length (nI x)) 249 16 (nI (pd.length + 1))) (x :: pd) ∧ agm [256] [16] σ (psI (psI σ 256 pd.length (nI x)) 249 16 (nI (pd.length + 1))) ∧ at2 r σ (psI (psI σ 256 pd.length (nI x)) 249 16 (nI (pd.length + 1))) := by
  obtain ⟨a, b, c⟩ := hq
  obtain ⟨o1, o2, o3, o4⟩ := dep_o hx pd
  have ag : agm [256] [16] σ (psI (psI σ 256 pd.length (nI x)) 249 16 (nI (pd.length + 1))) := agm_trans (agm_psI (by simp) (by decide)) (agm_fld (by simp))
  refine ⟨⟨by rw [psI_eq, if_pos rfl]; rfl, ?_, ?_, ?_⟩, ag, at2_6 ag (by simp)⟩
  · rw [psI_eq, if_neg (by decide), psI_other (by decide), o1]; exact b
  · rw [psI_other (by decide), psI_eq, if_pos rfl]
  · exact stM6_ext pd (fun j hj => by rw [psI_other (by decide), psI_eq, if_neg (by omega)]) c
theorem M_test12 (hn : 1000 ≤ n) (hB : ∀ i, byt (B i)) {r : Nat} (hr : r < 6) : ∀ (k kf p m : Nat) (pd : List Nat) (σ : PS) (c : List Nat), TM σ B sz p 0 → QM σ pd → KM σ r c m → m ≤ 60 → ordP pd → dep pd ≤ 10 → c.length + pen pd + 1 ≤ p → k < kf → sz < k + p → ∃ τ, mts n kf σ = some (if (testP B sz k p m pd).1 = 0 then 1 else 0, τ) ∧ at2 r σ τ ∧ τ.1 249 9 = nI (testP B sz k p m pd).1 ∧ ((testP B sz k p m pd).1 = 0 → TM τ B sz (testP B sz k p m pd).2.1 0 ∧ KM τ r (c ++ (testP B sz k p m pd).2.2.2) (testP B sz k p m pd).2.2.1)
  | 0, kf, p, m, pd, σ, c, ht, hq, hk, hm, ho, hd, hl, hkf, hs => by have := ht.2.2.2.2.1; omega
  | k + 1, 0, p, m, pd, σ, c, ht, hq, hk, hm, ho, hd, hl, hkf, hs => by omega
  | k + 1, kf + 1, p, m, pd, σ, c, ht, hq, hk, hm, ho, hd, hl, hkf, hs => by
    have h400 := ht.2.2.2.2.2
    have hp := ht.2.2.2.2.1
    obtain ⟨kg, hkg⟩ : ∃ kg, kf = kg + 1 := ⟨kf - 1, by omega⟩
    have stop : ∀ (τ : PS), L_X12_tested_12 n kf 0 τ = some (1, τ) := by
      intro τ
      rw [hkg, L_X12_tested_12, if_pos rfl]
    obtain ⟨τ1, a1, a2, a3, a4⟩ := M_fact hn hB hr ht hq hk hm ho hd hl
    unfold mts
    rw [L_X12_tested_12, if_neg ne10, a1, Option.bind_some]
    unfold testP
    by_cases z1 : (oP B sz p pd).1 = 0
    · rw [if_pos z1] at a3 ⊢
      by_cases z2 : (fP B sz p m pd).1 = 0
      · obtain ⟨b1, b2, b3⟩ := a4 z1 z2
        obtain ⟨f1, f2, f3, f4, f5, f6, f7, f8, f9, f10⟩ := fact_ok hp hm ho hd z1 z2
        rw [if_pos z1, if_pos z2, if_pos z2, if_neg ne10]
        unfold oP at z1
        obtain ⟨o1, o2, o3, o4, o5, o6, o7⟩ := openP_ok (B := B) (sz := sz) 11 p pd hp ho hd z1
        have ob := stk_len _ (ord_ok _ o4)
        unfold fP oP at z2
        obtain ⟨g1, g2, g3, g4, g5, g6, g7, g8⟩ := cmpP_ok (B := B) o2 hm z2
        obtain ⟨τ2, c1, c2, c3, c4, c5⟩ := M_close hn hr 11 n (fP B sz p m pd).2.1 (oP B sz p pd).2.2 τ1 _ _ b1 b2 b3 o4 o5 (by unfold oP; omega) (by omega) (by unfold fP oP; simp only [List.length_append]; omega)
        have hcl : F_X12_closes n τ1 = some τ2 := by
          unfold F_X12_closes
          unfold mcl at c1
          have e : (F_X12_layDown n (3 : Int32) τ1).bind (fun q1 => (L_X12_closes_5 n n q1).bind (fun o13 => some o13)) = ((F_X12_layDown n (3 : Int32) τ1).bind (fun q1 => L_X12_closes_5 n n q1)) := by
            congr 1
            funext q
            cases L_X12_closes_5 n n q <;> rfl
          rw [e, c1]
        show ∃ τ, ((F_X12_closes n τ1).bind _).bind _ = some _ ∧ _
        rw [hcl, Option.bind_some]
        have c3' : TM τ2 B sz (clP B sz p m pd).1 0 := c3
        have c4' : QM τ2 (clP B sz p m pd).2.1 := c4
        have c5' : KM τ2 r (c ++ (fP B sz p m pd).2.2.2 ++ (clP B sz p m pd).2.2) (fP B sz p m pd).2.2.1 := c5
        have x2' : at2 r σ τ2 := at2_trans a2 c2
        generalize fP B sz p m pd = F at *
        generalize clP B sz p m pd = C at *
        have hlen : (c ++ F.2.2.2 ++ C.2.2).length = c.length + (F.2.2.2 ++ C.2.2).length := by simp
        have lst : ∀ w : List Nat, c ++ (F.2.2.2 ++ (C.2.2 ++ w)) = c ++ F.2.2.2 ++ C.2.2 ++ w := fun w => by simp [List.append_assoc]
        have h32 := stk_32 f4 f5
        rw [M_isWord' hn c3' f3 (l := wS 6) (wS_mem 6 (by decide)) (by decide) (by decide) (by decide +kernel), Option.bind_some]
        by_cases w1 : wl B sz C.1 = wS 6
        · rw [if_pos w1, if_neg ne10, if_neg ne10]
          show ∃ τ, ((F_X12_isWord n (6385252 : Int64) τ2).bind _).bind _ = some _ ∧ _
          rw [M_isWord' hn c3' f3 (l := wS 6) (wS_mem 6 (by decide)) (by decide) (by decide) (by decide +kernel), Option.bind_some, if_pos w1, if_neg ne10]
          obtain ⟨i1, i2, i3, i4, i5, i6, i7, i8⟩ := dP_facts 2 (by decide) C.2.1 f4
          obtain ⟨u1, u2, u3, u4⟩ := dep_o (x := 12) (Or.inl rfl) (dP 2 C.2.1).2
          obtain ⟨τ3, d1, d2, d3⟩ := M_passWord hn c3'
          rw [w1] at d2
          show ∃ τ, ((F_X12_passWord n τ2).bind _).bind _ = some _ ∧ _
          rw [d1, Option.bind_some, show F_X12_strength n (12 : Int32) τ3 = some (nI 2, τ3) from rfl, Option.bind_some]
          obtain ⟨τ4, e1, e2, e3, e4, e5⟩ := M_layDown (n := n) hn hr (th := 2) (by decide) (by decide) f4 (QM_am (r := r) c4' (am_f d3 (by simp))) (KM_f c5' d3 (by decide) (by decide)) (by omega) (by rw [hlen]; omega)
          have h33 := stk_32 i1 (by omega)
          show ∃ τ, ((F_X12_layDown n (nI 2) τ3).bind _).bind _ = some _ ∧ _
          rw [e1, Option.bind_some, e3.1, nI_clamp (by omega), if_pos ⟨nI_pos' (by omega), by omega⟩]
          have g16 : (psI τ4 256 (dP 2 C.2.1).2.length (12 : Int32)).1 249 16 = nI (dP 2 C.2.1).2.length := by rw [psI_other (by decide)]; exact e3.1
          rw [g16, nI_p1]
          obtain ⟨v1, v2, v3⟩ := QM_push (r := r) (x := 12) (Or.inl rfl) e3
          have t4 := TM_agm (TM_agm d2 e4 (by decide) (by decide) (by decide) (by decide)) v2 (by decide) (by decide) (by decide) (by decide)
          have k4 := KM_ag e2 v2 (by decide) (by decide) (by decide) (by decide)
          obtain ⟨τ, r1, r2, r3, r4⟩ := M_test12 hn hB hr k kf (C.1 + 3) F.2.2.1 (12 :: (dP 2 C.2.1).2) _ _ t4 v1 k4 f6 (ord_12 i1 i2) (by omega) (by rw [List.length_append, hlen]; omega) (by omega) (by omega)
          unfold mts at r1
          rw [if_pos w1]
          refine ⟨τ, r1, at2_trans x2' (at2_trans (at2_f d3 (by simp)) (at2_trans e5 (at2_trans v3 r2))), r3, fun z => ⟨(r4 z).1, ?_⟩⟩
          simp only [pre]
          rw [← List.append_assoc, lst]
          exact (r4 z).2
        rw [if_neg w1, if_pos rfl]
        show ∃ τ, ((F_X12_isWord n (28530 : Int64) τ2).bind _).bind _ = some _ ∧ _
        rw [M_isWord' hn c3' f3 (l := wS 7) (wS_mem 7 (by decide)) (by decide) (by decide) (by decide +kernel), Option.bind_some]
        obtain ⟨i1, i2, i3, i4, i5, i6, i7, i8⟩ := dP_facts 1 (by decide) C.2.1 f4
        by_cases w2 : wl B sz C.1 = wS 7
        · rw [if_pos w2, if_neg ne10, if_neg ne10]
          show ∃ τ, ((F_X12_isWord n (6385252 : Int64) τ2).bind _).bind _ = some _ ∧ _
          rw [M_isWord' hn c3' f3 (l := wS 6) (wS_mem 6 (by decide)) (by decide) (by decide) (by decide +kernel), Option.bind_some, if_neg w1, if_pos rfl]
          obtain ⟨u1, u2, u3, u4⟩ := dep_o (x := 13) (Or.inr rfl) (dP 1 C.2.1).2
          obtain ⟨τ3, d1, d2, d3⟩ := M_passWord hn c3'
          rw [w2] at d2
          show ∃ τ, ((F_X12_passWord n τ2).bind _).bind _ = some _ ∧ _
          rw [d1, Option.bind_some, show F_X12_strength n (13 : Int32) τ3 = some (nI 1, τ3) from rfl, Option.bind_some]
          obtain ⟨τ4, e1, e2, e3, e4, e5⟩ := M_layDown (n := n) hn hr (th := 1) (by decide) (by decide) f4 (QM_am (r := r) c4' (am_f d3 (by simp))) (KM_f c5' d3 (by decide) (by decide)) (by omega) (by rw [hlen]; omega)
          have h33 := stk_32 i1 (by omega)
          show ∃ τ, ((F_X12_layDown n (nI 1) τ3).bind _).bind _ = some _ ∧ _
          rw [e1, Option.bind_some, e3.1, nI_clamp (by omega), if_pos ⟨nI_pos' (by omega), by omega⟩]
          have g16 : (psI τ4 256 (dP 1 C.2.1).2.length (13 : Int32)).1 249 16 = nI (dP 1 C.2.1).2.length := by rw [psI_other (by decide)]; exact e3.1
          rw [g16, nI_p1]
          obtain ⟨v1, v2, v3⟩ := QM_push (r := r) (x := 13) (Or.inr rfl) e3
          have t4 := TM_agm (TM_agm d2 e4 (by decide) (by decide) (by decide) (by decide)) v2 (by decide) (by decide) (by decide) (by decide)
          have k4 := KM_ag e2 v2 (by decide) (by decide) (by decide) (by decide)
          obtain ⟨τ, r1, r2, r3, r4⟩ := M_test12 hn hB hr k kf (C.1 + 2) F.2.2.1 (13 :: (dP 1 C.2.1).2) _ _ t4 v1 k4 f6 (ord_13 i1 i2) (by omega) (by rw [List.length_append, hlen]; omega) (by omega) (by omega)
          unfold mts at r1
          rw [if_neg w1, if_pos w2]
          refine ⟨τ, r1, at2_trans x2' (at2_trans (at2_f d3 (by simp)) (at2_trans e5 (at2_trans v3 r2))), r3, fun z => ⟨(r4 z).1, ?_⟩⟩
          simp only [pre]
          rw [← List.append_assoc, lst]
          exact (r4 z).2
        rw [if_neg w2, if_pos rfl, if_pos rfl, if_neg w1, if_neg w2]
        show ∃ τ, (L_X12_tested_12 n kf 0 τ2).bind _ = some _ ∧ _
        rw [stop, Option.bind_some, if_neg (show ¬ (1 : Nat) = 0 by decide)]
        show ∃ τ, (F_X12_isInside n τ2).bind _ = some _ ∧ _
        rw [M_isInside hn c4' f4 (by omega), Option.bind_some]
        by_cases w3 : brk C.2.1 = 0
        · rw [if_pos w3, if_pos rfl, if_pos w3]
          obtain ⟨τ4, e1, e2, e3, e4, e5⟩ := M_layDown (n := n) hn hr (th := 1) (by decide) (by decide) f4 c4' c5' (by omega) (by rw [hlen]; omega)
          show ∃ τ, (F_X12_layDown n (nI 1) τ2).bind _ = some _ ∧ _
          rw [e1]
          have t4 := TM_agm c3' e4 (by decide) (by decide) (by decide) (by decide)
          refine ⟨τ4, rfl, at2_trans x2' e5, t4.2.2.2.1, fun _ => ⟨t4, ?_⟩⟩
          show KM τ4 r (c ++ (F.2.2.2 ++ (C.2.2 ++ (dP 1 C.2.1).1))) F.2.2.1
          rw [lst]
          exact e2
        · rw [if_neg w3, if_neg ne10, if_neg w3]
          show ∃ τ, (F_X12_see n τ2).bind _ = some _ ∧ _
          rw [M_see' hn c3' f3, Option.bind_some]
          show ∃ τ, (F_X12_fails n (nI 0) (τ2.1 249 8) τ2).bind _ = some _ ∧ _
          rw [c3'.2.2.1]
          obtain ⟨τ4, e1, e2, e3⟩ := M_fails0 (n := n) (w := C.1) (k := 0) c3'
          rw [e1, Option.bind_some, if_pos (Or.inl rfl)]
          refine ⟨τ4, ?_, at2_trans x2' (at2_f e3 (by simp)), e2.2.2.2.1, fun z => by simp at z⟩
          rw [if_neg (show ¬ 1 + 8 * C.1 = 0 by omega)]
      · rw [if_pos z1, if_neg z2, if_pos rfl, if_neg z2]
        refine ⟨τ1, ?_, a2, a3, fun z => absurd z z2⟩
        rw [if_neg (show ¬ (fP B sz p m pd).1 = 0 from z2)]
        rfl
    · rw [if_neg z1] at a3 ⊢
      rw [if_neg z1, if_neg z1, if_pos rfl]
      refine ⟨τ1, ?_, a2, a3, fun z => absurd z z1⟩
      rw [if_neg (show ¬ (oP B sz p pd).1 = 0 from z1)]
      rfl
theorem M_test (hn : 1000 ≤ n) (hB : ∀ i, byt (B i)) {r : Nat} (hr : r < 6) {p m : Nat} {σ : PS} {c : List Nat} (ht : TM σ B sz p 0) (hk : KM σ r c m) (hm : m ≤ 60) (hl : c.length + 1 ≤ p) : ∃ τ, F_X12_tested n σ = some (if (testP B sz 401 p m []).1 = 0 then 1 else 0, τ) ∧ at2 r σ τ ∧ τ.1 249 9 = nI (testP B sz 401 p m []).1 ∧ ((testP B sz 401 p m []).1 = 0 → TM τ B sz (testP B sz 401 p m []).2.1 0 ∧ KM τ r (c ++ (testP B sz 401 p m []).2.2.2) (testP B sz 401 p m []).2.2.1) := by
  have h400 := ht.2.2.2.2.2
  have a0 : agm [] [13, 16] σ (psI (psI σ 249 16 (0 : Int32)) 249 13 (0 : Int32)) := agm_trans (agm_fld (by simp)) (agm_fld (by simp))
  have q0 : QM (psI (psI σ 249 16 (0 : Int32)) 249 13 (0 : Int32)) [] := by
    refine ⟨?_, ?_, trivial⟩
    · rw [psI_eq, if_neg (by decide), psI_eq, if_pos rfl]; rfl
    · rw [psI_eq, if_pos rfl]; rfl
  obtain ⟨τ, r1, r2, r3, r4⟩ := M_test12 hn hB hr 401 n p m [] _ c (TM_agm ht a0 (by simp) (by decide) (by decide) (by decide)) q0 (KM_f hk a0 (by decide) (by decide)) hm trivial (by decide) (by rw [show pen [] = 0 from rfl]; omega) (by omega) (by omega)
  exact ⟨τ, r1, at2_trans (at2_f a0 (by simp)) r2, r3, r4⟩
end MS
