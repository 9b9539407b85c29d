/-! A whole test, both sides. -/
section TP
variable (B : Nat → Int32) (sz : Nat)
def oP (p : Nat) (pd : List Nat) : Nat × Nat × List Nat := openP B sz 11 p pd
def fP (p m : Nat) (pd : List Nat) : PR := cmpP B sz (oP B sz p pd).2.1 m
def clP (p m : Nat) (pd : List Nat) : Nat × List Nat × List Nat := closeP B sz 11 (fP B sz p m pd).2.1 (oP B sz p pd).2.2
def testP : Nat → Nat → Nat → List Nat → PR
  | 0, _, _, _ => (1, 0, 0, [])
  | k + 1, p, m, pd => if (oP B sz p pd).1 = 0 then (if (fP B sz p m pd).1 = 0 then (if wl B sz (clP B sz p m pd).1 = wS 6 then pre ((fP B sz p m pd).2.2.2 ++ ((clP B sz p m pd).2.2 ++ (dP 2 (clP B sz p m pd).2.1).1)) (testP k ((clP B sz p m pd).1 + 3) (fP B sz p m pd).2.2.1 (12 :: (dP 2 (clP B sz p m pd).2.1).2)) else if wl B sz (clP B sz p m pd).1 = wS 7 then pre ((fP B sz p m pd).2.2.2 ++ ((clP B sz p m pd).2.2 ++ (dP 1 (clP B sz p m pd).2.1).1)) (testP k ((clP B sz p m pd).1 + 2) (fP B sz p m pd).2.2.1 (13 :: (dP 1 (clP B sz p m pd).2.1).2)) else if brk (clP B sz p m pd).2.1 = 0 then (0, (clP B sz p m pd).1, (fP B sz p m pd).2.2.1, (fP B sz p m pd).2.2.2 ++ ((clP B sz p m pd).2.2 ++ (dP 1 (clP B sz p m pd).2.1).1)) else (1 + 8 * (clP B sz p m pd).1, 0, 0, [])) else ((fP B sz p m pd).1, 0, 0, [])) else ((oP B sz p pd).1, 0, 0, [])
end TP
/-- what holds behind a fact and what closes it -/
theorem fact_ok {B : Nat → Int32} {sz p m : Nat} {pd : List Nat} (hp : p ≤ sz) (hm : m ≤ 60) (ho : ordP pd) (hd : dep pd ≤ 10) (h1 : (oP B sz p pd).1 = 0) (h2 : (fP B sz p m pd).1 = 0) : p + 2 < (clP B sz p m pd).1 ∧ (clP B sz p m pd).1 ≤ sz ∧ sk B sz (clP B sz p m pd).1 = (clP B sz p m pd).1 ∧ ordP (clP B sz p m pd).2.1 ∧ dep (clP B sz p m pd).2.1 ≤ 10 ∧ (fP B sz p m pd).2.2.1 ≤ 60 ∧ (∀ t ∈ (fP B sz p m pd).2.2.2 ++ (clP B sz p m pd).2.2, okT t) ∧ tyc ((fP B sz p m pd).2.2.2 ++ (clP B sz p m pd).2.2) (List.replicate (nbn pd) true) = some (List.replicate (nbn (clP B sz p m pd).2.1 + 1) true) ∧ nvl ((fP B sz p m pd).2.2.2 ++ (clP B sz p m pd).2.2) + m ≤ (fP B sz p m pd).2.2.1 ∧ ((fP B sz p m pd).2.2.2 ++ (clP B sz p m pd).2.2).length + pen (clP B sz p m pd).2.1 + p ≤ (clP B sz p m pd).1 + pen pd := by
  unfold oP at h1
  obtain ⟨a1, a2, a3, a4, a5, a6, a7⟩ := openP_ok (B := B) (sz := sz) 11 p pd hp ho hd h1
  unfold clP
  unfold fP at h2 ⊢
  unfold oP at h2 ⊢
  generalize openP B sz 11 p pd = O at *
  obtain ⟨b1, b2, b3, b4, b5, b6, b7, b8⟩ := cmpP_ok (B := B) a2 hm h2
  generalize cmpP B sz O.2.1 m = F at *
  have hbr := stk_len O.2.2 (ord_ok _ a4)
  obtain ⟨c1, c2, c3, c4, c5, c6, c7, c8, c9⟩ := closeP_ok (B := B) (sz := sz) 11 F.2.1 O.2.2 b2 a4 a5 (by omega)
  generalize closeP B sz 11 F.2.1 O.2.2 = C at *
  have fr := tyc_frame _ _ _ (List.replicate (nbn pd) true) b6
  rw [List.nil_append] at fr
  refine ⟨by omega, c2, c3, c4, c5, b4, ?_, ?_, ?_, ?_⟩
  · intro t ht
    rcases List.mem_append.mp ht with q | q
    · exact b5 t q
    · have := c7 t q; unfold okT; omega
  · rw [tyc_app, fr, Option.bind_some, ← a6]
    exact c8
  · rw [nvl_app, c9]; omega
  · rw [List.length_append]; omega
theorem ord_12 {pd : List Nat} (h : ordP pd) (hs : stg (pd.headD 91) < 2) : ordP (12 :: pd) := ⟨Or.inr (Or.inr (Or.inl rfl)), Or.inr (Or.inr (Or.inl hs)), h⟩
theorem ord_13 {pd : List Nat} (h : ordP pd) (hs : stg (pd.headD 91) < 1) : ordP (13 :: pd) := ⟨Or.inr (Or.inr (Or.inr rfl)), Or.inr (Or.inr (Or.inl hs)), h⟩
theorem dep_o {x : Nat} (hx : x = 12 ∨ x = 13) (pd : List Nat) : dep (x :: pd) = dep pd ∧ brk (x :: pd) = brk pd ∧ pen (x :: pd) = pen pd + 1 ∧ nbn (x :: pd) = nbn pd + 1 := by
  refine ⟨?_, ?_, ?_, ?_⟩
  · show (if x = 91 ∨ x = 11 then 1 else 0) + dep pd = _; rw [if_neg (by omega)]; omega
  · show (if x = 91 then 1 else 0) + brk pd = _; rw [if_neg (by omega)]; omega
  · show (if x = 91 then 0 else 1) + pen pd = _; rw [if_neg (by omega)]; omega
  · show (if x = 12 ∨ x = 13 then 1 else 0) + nbn pd = _; rw [if_pos hx]; omega
theorem dP_nil {pd : List Nat} (ho : ordP pd) (hb : brk pd = 0) : (dP 1 pd).2 = [] := by
  obtain ⟨i1, i2, i3, i4, i5, i6, i7, i8⟩ := dP_facts 1 (by decide) pd ho
  generalize dP 1 pd = d at *
  obtain ⟨d1, d2⟩ := d
  cases d2 with
  | nil => rfl
  | cons x t =>
    have hx := i1.1
    unfold okx at hx
    have i2' : stg x < 1 := i2
    rcases hx with z | z | z | z
    · subst z
      have := brk_91 t
      simp only [] at i3
      omega
    all_goals subst z; exact absurd i2' (by decide)
theorem wl_67 {B : Nat → Int32} {sz q k : Nat} {a : Nat} (hk : (wS a).length = k) (h : wl B sz q = wS a) (hq : q ≤ sz) : q + k ≤ sz := by
  have := wl_len (B := B) hq
  rw [h, hk] at this
  exact this
theorem testP_ok {B : Nat → Int32} {sz : Nat} : ∀ (k p m : Nat) (pd : List Nat), p ≤ sz → m ≤ 60 → ordP pd → dep pd ≤ 10 → (testP B sz k p m pd).1 = 0 → p < (testP B sz k p m pd).2.1 ∧ (testP B sz k p m pd).2.1 ≤ sz ∧ sk B sz (testP B sz k p m pd).2.1 = (testP B sz k p m pd).2.1 ∧ (testP B sz k p m pd).2.2.1 ≤ 60 ∧ (∀ t ∈ (testP B sz k p m pd).2.2.2, okT t) ∧ tyc (testP B sz k p m pd).2.2.2 (List.replicate (nbn pd) true) = some [true] ∧ nvl (testP B sz k p m pd).2.2.2 + m ≤ (testP B sz k p m pd).2.2.1 ∧ (testP B sz k p m pd).2.2.2.length + p ≤ (testP B sz k p m pd).2.1 + pen pd
  | 0, p, m, pd, hp, hm, ho, hd, h => by simp [testP] at h
  | k + 1, p, m, pd, hp, hm, ho, hd, h => by
    unfold testP at h ⊢
    by_cases z1 : (oP B sz p pd).1 = 0
    · rw [if_pos z1] at h ⊢
      by_cases z2 : (fP B sz p m pd).1 = 0
      · rw [if_pos z2] at h ⊢
        obtain ⟨a1, a2, a3, a4, a5, a6, a7, a8, a9, a10⟩ := fact_ok hp hm ho hd z1 z2
        generalize fP B sz p m pd = F at *
        generalize clP B sz p m pd = C at *
        by_cases z3 : wl B sz C.1 = wS 6
        · rw [if_pos z3] at h ⊢
          obtain ⟨i1, i2, i3, i4, i5, i6, i7, i8⟩ := dP_facts 2 (by decide) C.2.1 a4
          obtain ⟨o1, o2, o3, o4⟩ := dep_o (x := 12) (Or.inl rfl) (dP 2 C.2.1).2
          have hl := wl_67 (k := 3) rfl z3 a2
          obtain ⟨r1, r2, r3, r4, r5, r6, r7, r8⟩ := testP_ok k (C.1 + 3) F.2.2.1 (12 :: (dP 2 C.2.1).2) hl a6 (ord_12 i1 i2) (by omega) h
          simp only [pre]
          rw [o4] at r6
          refine ⟨by omega, r2, r3, r4, ?_, ?_, ?_, ?_⟩
          · intro t ht
            rcases List.mem_append.mp ht with q | q
            · rcases List.mem_append.mp q with q | q
              · exact a7 t (List.mem_append.mpr (Or.inl q))
              · rcases List.mem_append.mp q with q | q
                · exact a7 t (List.mem_append.mpr (Or.inr q))
                · have := i6 t q; unfold okT; omega
            · exact r5 t q
          · rw [tyc_app, ← List.append_assoc, tyc_app, a8, Option.bind_some, i7, Option.bind_some]
            exact r6
          · rw [nvl_app] at a9
            rw [nvl_app, nvl_app, nvl_app, i8]; omega
          · rw [List.length_append] at a10
            rw [List.length_append, List.length_append, List.length_append]; omega
        rw [if_neg z3] at h ⊢
        obtain ⟨i1, i2, i3, i4, i5, i6, i7, i8⟩ := dP_facts 1 (by decide) C.2.1 a4
        by_cases z4 : wl B sz C.1 = wS 7
        · rw [if_pos z4] at h ⊢
          obtain ⟨o1, o2, o3, o4⟩ := dep_o (x := 13) (Or.inr rfl) (dP 1 C.2.1).2
          have hl := wl_67 (k := 2) rfl z4 a2
          obtain ⟨r1, r2, r3, r4, r5, r6, r7, r8⟩ := testP_ok k (C.1 + 2) F.2.2.1 (13 :: (dP 1 C.2.1).2) hl a6 (ord_13 i1 i2) (by omega) h
          simp only [pre]
          rw [o4] at r6
          refine ⟨by omega, r2, r3, r4, ?_, ?_, ?_, ?_⟩
          · intro t ht
            rcases List.mem_append.mp ht with q | q
            · rcases List.mem_append.mp q with q | q
              · exact a7 t (List.mem_append.mpr (Or.inl q))
              · rcases List.mem_append.mp q with q | q
                · exact a7 t (List.mem_append.mpr (Or.inr q))
                · have := i6 t q; unfold okT; omega
            · exact r5 t q
          · rw [tyc_app, ← List.append_assoc, tyc_app, a8, Option.bind_some, i7, Option.bind_some]
            exact r6
          · rw [nvl_app] at a9
            rw [nvl_app, nvl_app, nvl_app, i8]; omega
          · rw [List.length_append] at a10
            rw [List.length_append, List.length_append, List.length_append]; omega
        rw [if_neg z4] at h ⊢
        by_cases z5 : brk C.2.1 = 0
        · rw [if_pos z5]
          have hn := dP_nil a4 z5
          rw [hn] at i7
          refine ⟨by show p < C.1; omega, a2, a3, a6, ?_, ?_, ?_, ?_⟩
          · intro t ht
            rcases List.mem_append.mp ht with q | q
            · exact a7 t (List.mem_append.mpr (Or.inl q))
            · rcases List.mem_append.mp q with q | q
              · exact a7 t (List.mem_append.mpr (Or.inr q))
              · have := i6 t q; unfold okT; omega
          · show tyc (F.2.2.2 ++ (C.2.2 ++ (dP 1 C.2.1).1)) _ = _
            rw [← List.append_assoc, tyc_app, a8, Option.bind_some, i7]
            rfl
          · rw [nvl_app] at a9
            show nvl (F.2.2.2 ++ (C.2.2 ++ (dP 1 C.2.1).1)) + m ≤ F.2.2.1
            rw [nvl_app, nvl_app, i8]; omega
          · rw [List.length_append] at a10
            show (F.2.2.2 ++ (C.2.2 ++ (dP 1 C.2.1).1)).length + p ≤ C.1 + pen pd
            rw [List.length_append, List.length_append]; omega
        · rw [if_neg z5] at h; simp at h
      · rw [if_neg z2] at h; exact absurd h z2
    · rw [if_neg z1] at h; exact absurd h z1
theorem testP_lt {B : Nat → Int32} {sz : Nat} (h400 : sz ≤ 400) : ∀ (k p m : Nat) (pd : List Nat), p ≤ sz → m ≤ 60 → ordP pd → dep pd ≤ 10 → (testP B sz k p m pd).1 < 2 ^ 31
  | 0, p, m, pd, hp, hm, ho, hd => by show 1 < 2 ^ 31; decide
  | k + 1, p, m, pd, hp, hm, ho, hd => by
    unfold testP
    by_cases z1 : (oP B sz p pd).1 = 0
    · rw [if_pos z1]
      by_cases z2 : (fP B sz p m pd).1 = 0
      · rw [if_pos z2]
        obtain ⟨a1, a2, a3, a4, a5, a6, a7, a8, a9, a10⟩ := fact_ok hp hm ho hd z1 z2
        generalize fP B sz p m pd = F at *
        generalize clP B sz p m pd = C at *
        by_cases z3 : wl B sz C.1 = wS 6
        · rw [if_pos z3]
          obtain ⟨i1, i2, i3, i4, i5, i6, i7, i8⟩ := dP_facts 2 (by decide) C.2.1 a4
          exact testP_lt h400 k _ _ _ (wl_67 (k := 3) rfl z3 a2) a6 (ord_12 i1 i2) (by rw [(dep_o (x := 12) (Or.inl rfl) _).1]; omega)
        rw [if_neg z3]
        by_cases z4 : wl B sz C.1 = wS 7
        · rw [if_pos z4]
          obtain ⟨i1, i2, i3, i4, i5, i6, i7, i8⟩ := dP_facts 1 (by decide) C.2.1 a4
          exact testP_lt h400 k _ _ _ (wl_67 (k := 2) rfl z4 a2) a6 (ord_13 i1 i2) (by rw [(dep_o (x := 13) (Or.inr rfl) _).1]; omega)
        rw [if_neg z4]
        by_cases z5 : brk C.2.1 = 0
        · rw [if_pos z5]; show 0 < 2 ^ 31; decide
        · rw [if_neg z5]; show 1 + 8 * C.1 < 2 ^ 31; omega
      · rw [if_neg z2]
        unfold oP at z1
        obtain ⟨a1, a2, a3, a4, a5, a6, a7⟩ := openP_ok (B := B) (sz := sz) 11 p pd hp ho hd z1
        exact cmpP_lt h400 a2 hm
    · rw [if_neg z1]; exact openP_lt h400 11 p pd hp
section TS
variable {n : Nat} {B : Nat → Int32} {sz : Nat}
/-- what opens, then a comparison -/
def xfact (n : Nat) (σ : PS) : Option PS := (F_X5_openFact n σ).bind (fun q => xcmp n q)
theorem X_t19 {k : Nat} {x1 x2 : Int32} {σ : PS} : L_X5_readTest_19 n (k + 1) x1 x2 σ = (if x1 = 0 then some σ else (if (400 : Int32) ≤ x2 then some σ else (xfact n σ).bind (fun q3 => (if (q3.1 1 5) = 0 then (F_X5_closeFact n q3).bind (fun q6 => (if q6.1 = 0 then L_X5_readTest_19 n k (0 : Int32) (x2 + 1) q6.2 else L_X5_readTest_19 n k (1 : Int32) (x2 + 1) q6.2)) else L_X5_readTest_19 n k (0 : Int32) (x2 + 1) q3)))) := by
  rw [L_X5_readTest_19]
  unfold xfact xcmp
  simp only [Option.bind_assoc, Option.bind_some]
theorem X_readFact (hn : 1000 ≤ n) {p m s : Nat} {pd : List Nat} {σ : PS} {c : List Int32} (ht : TX σ B sz p s 0) (hq : QX σ pd) (hk : KX σ c m) (hm : m ≤ 60) (ho : ordP pd) (hd : dep pd ≤ 10) (hl : c.length + pen pd + 1 ≤ p) : ∃ τ, xfact n σ = some τ ∧ ay σ τ ∧ SX τ B sz (nI (if (oP B sz p pd).1 = 0 then (fP B sz p m pd).1 else (oP B sz p pd).1)) ∧ ((oP B sz p pd).1 = 0 → (fP B sz p m pd).1 = 0 → ∃ s', TX τ B sz (fP B sz p m pd).2.1 s' 0 ∧ QX τ (oP B sz p pd).2.2 ∧ KX τ (c ++ (fP B sz p m pd).2.2.2.map enT) (fP B sz p m pd).2.2.1) := by
  have hp := ht.2.2.2.2.2.2.1
  obtain ⟨e, τ1, a1, a2, a3, a4⟩ := X_fact2 hn 11 n 0 p pd σ c m s ht hq hk ho hd (by omega) (by omega) (by omega)
  unfold xfact F_X5_openFact
  show ∃ τ, ((L_X5_openFact_2 n n (nI 0) σ).bind _).bind _ = some τ ∧ _
  rw [a1, Option.bind_some]
  rcases a4 with ⟨z, ze, s1, b1, b2⟩ | ⟨z, ze, p1, s1, b1, b2⟩
  · have z' : (oP B sz p pd).1 = 0 := z
    obtain ⟨o1, o2, o3, o4, o5, o6, o7⟩ := openP_ok (B := B) (sz := sz) 11 p pd hp ho hd z
    subst ze
    rw [if_pos z']
    show ∃ τ, (if (0 : Nat) = 0 then some τ1 else _).bind _ = some τ ∧ _
    rw [if_pos rfl, Option.bind_some]
    obtain ⟨τ2, c1, c2, c3, c4⟩ := X_cmp hn b1 a3 hm (by omega)
    rw [c1]
    refine ⟨τ2, rfl, agr_trans a2 (ay_ax c2), c3, fun _ zf => ?_⟩
    obtain ⟨s2, d1, d2⟩ := c4 zf
    exact ⟨s2, d1, QX_ax b2 c2, d2⟩
  · have z' : ¬ (oP B sz p pd).1 = 0 := z
    subst ze
    rw [if_neg z']
    show ∃ τ, (if (1 : Nat) = 0 then _ else if (1 : Nat) = 1 then (F_X9_fail n (τ1.1 1 3) (nI 2) τ1).bind _ else _).bind _ = some τ ∧ _
    rw [if_neg (by decide), if_pos rfl, b1.2.2.2.1]
    obtain ⟨τ2, c1, c2, c3, c4⟩ := X_fail0 (n := n) (w := s1) (k := 2) b1
    have b2' : (oP B sz p pd).1 = 1 + 8 * s1 + 2 := b2
    have hlt : (oP B sz p pd).1 < 2 ^ 31 := openP_lt ht.2.2.2.2.2.2.2 11 p pd hp
    rw [b2'] at hlt
    rw [c1, Option.bind_some, Option.bind_some, b2', X_cmpF hn (KX_SX (KX_1 a3 c4) c2) (nI_fault (by omega) hlt)]
    exact ⟨τ2, rfl, agr_trans a2 (agr_mono c4 (by simp)), KX_SX (KX_1 a3 c4) c2, fun q => absurd q (by omega)⟩
theorem X_readFactF (hn : 1000 ≤ n) {f : Int32} (hf : ¬ f = 0) {σ : PS} (h : SX σ B sz f) (h4 : σ.1 4 4 = nI 0) : ∃ τ, xfact n σ = some τ ∧ ay σ τ ∧ SX τ B sz f := by
  obtain ⟨e, τ1, a1, a2, a3⟩ := X_fact2F hn (f := f) n 0 0 σ h h4 (by omega) (by omega) (by omega)
  unfold xfact F_X5_openFact
  show ∃ τ, ((L_X5_openFact_2 n n (nI 0) σ).bind _).bind _ = some τ ∧ _
  rw [a1, Option.bind_some]
  by_cases z0 : e = 0
  · rw [if_pos z0, Option.bind_some, X_cmpF hn a3 hf]
    exact ⟨τ1, rfl, a2, a3⟩
  rw [if_neg z0]
  by_cases z1 : e = 1
  · rw [if_pos z1]
    obtain ⟨p1, s1, t1⟩ := a3.1
    rw [X_fail1 t1 hf, Option.bind_some, Option.bind_some, X_cmpF hn a3 hf]
    exact ⟨τ1, rfl, a2, a3⟩
  · rw [if_neg z1, Option.bind_some, X_cmpF hn a3 hf]
    exact ⟨τ1, rfl, a2, a3⟩
theorem QX_push {σ τ : PS} {pd : List Nat} {x : Nat} (hx : x = 12 ∨ x = 13) (hq : QX σ pd) (e : τ = psI (psI σ 6 pd.length (enP x)) 4 4 (nI (pd.length + 1))) : QX τ (x :: pd) := by
  obtain ⟨a, b, c, d⟩ := hq
  obtain ⟨o1, o2, o3, o4⟩ := dep_o hx pd
  subst e
  refine ⟨by rw [psI_eq, if_pos rfl]; rfl, ?_, ?_, ?_, ?_⟩
  · rw [psI_eq, if_neg (by decide), psI_other (by decide), o1]; exact b
  · rw [psI_eq, if_neg (by decide), psI_other (by decide), o2]; exact c
  · rw [psI_other (by decide), psI_eq, if_pos rfl]
  · exact stX6_ext pd (fun j hj => by rw [psI_other (by decide), psI_eq, if_neg (by omega)]) d
/-- what follows a closed fact, on the class's side -/
def xaf (n : Nat) (σ : PS) : Option (Int32 × PS) := (F_X9_takeWord n σ).bind (fun q12 => (F_X9_wordIs n 6 q12).bind (fun q14 => (if q14.1 = 0 then (F_X5_popDownTo n (-34 : Int32) q14.2).bind (fun q17 => (F_X9_wordIs n 7 q17).bind (fun q19 => (if q19.1 = 0 then (F_X9_putWordBack n q19.2).bind (fun q22 => (if (q22.1 4 6) ≤ 0 then some ((0 : Int32), q22) else (F_X9_fail n (q22.1 1 2) (0 : Int32) q22).bind (fun q25 => some ((0 : Int32), q25)))) else (F_X5_push n (-34 : Int32) q19.2).bind (fun q27 => some ((1 : Int32), q27))))) else (F_X5_popDownTo n (-35 : Int32) q14.2).bind (fun q29 => (F_X5_push n (-35 : Int32) q29).bind (fun q31 => some ((1 : Int32), q31))))))
theorem X_closeEq {σ : PS} : F_X5_closeFact n σ = (L_X5_closeFact_2 n n (0 : Int32) σ).bind (fun o => xaf n o.2) := by
  unfold F_X5_closeFact
  congr 1
  funext o
  by_cases z : o.1 = 0
  · rw [if_pos z]; rfl
  · rw [if_neg z]; rfl
theorem X_af (hn : 1000 ≤ n) {p e m s : Nat} {pd : List Nat} {σ : PS} {c : List Int32} (ht : TX σ B sz p s 0) (he : sk B sz p = e) (hq : QX σ pd) (hk : KX σ c m) (ho : ordP pd) (hd : dep pd ≤ 10) (hc : c.length + pen pd ≤ 400) : (wl B sz e = wS 6 ∧ ∃ τ s', xaf n σ = some (1, τ) ∧ ay σ τ ∧ TX τ B sz (e + 3) s' 0 ∧ QX τ (12 :: (dP 2 pd).2) ∧ KX τ (c ++ (dP 2 pd).1.map enT) m) ∨ (¬ wl B sz e = wS 6 ∧ wl B sz e = wS 7 ∧ ∃ τ s', xaf n σ = some (1, τ) ∧ ay σ τ ∧ TX τ B sz (e + 2) s' 0 ∧ QX τ (13 :: (dP 1 pd).2) ∧ KX τ (c ++ (dP 1 pd).1.map enT) m) ∨ (¬ wl B sz e = wS 6 ∧ ¬ wl B sz e = wS 7 ∧ brk pd = 0 ∧ ∃ τ s', xaf n σ = some (0, τ) ∧ ay σ τ ∧ TX τ B sz e s' 0 ∧ KX τ (c ++ (dP 1 pd).1.map enT) m) ∨ (¬ wl B sz e = wS 6 ∧ ¬ wl B sz e = wS 7 ∧ ¬ brk pd = 0 ∧ ∃ τ, xaf n σ = some (0, τ) ∧ ay σ τ ∧ SX τ B sz (nI (1 + 8 * e))) := by
  have h32 := stk_32 ho hd
  have h400 := ht.2.2.2.2.2.2.2
  obtain ⟨τ1, a1, a2, a3, a4⟩ := X_takeWord hn ht
  rw [he] at a2
  have hle : e ≤ sz := by have := a2.2.2.2.2.2.2.1; omega
  have q1 := QX_ax hq (ax_1 a4)
  have k1 := KX_1 hk a4
  have hx : xaf n σ = (if (if wl B sz e = wS 6 then (1 : Int32) else 0) = 0 then (F_X5_popDownTo n (enH 1) τ1).bind (fun q17 => (F_X9_wordIs n 7 q17).bind (fun q19 => (if q19.1 = 0 then (F_X9_putWordBack n q19.2).bind (fun q22 => (if (q22.1 4 6) ≤ 0 then some ((0 : Int32), q22) else (F_X9_fail n (q22.1 1 2) (nI 0) q22).bind (fun q25 => some ((0 : Int32), q25)))) else (F_X5_push n (enP 13) q19.2).bind (fun q27 => some ((1 : Int32), q27))))) else (F_X5_popDownTo n (enH 2) τ1).bind (fun q29 => (F_X5_push n (enP 12) q29).bind (fun q31 => some ((1 : Int32), q31)))) := by
    unfold xaf
    rw [a1, Option.bind_some, X_wordIs hn (a := 6) (by decide) a2, Option.bind_some]
    rfl
  rw [hx]
  by_cases z3 : wl B sz e = wS 6
  · refine Or.inl ⟨z3, ?_⟩
    rw [if_pos z3, if_neg ne10]
    obtain ⟨i1, i2, i3, i4, i5, i6, i7, i8⟩ := dP_facts 2 (by decide) pd ho
    obtain ⟨τ2, b1, b2, b3, b4⟩ := X_popDown (n := n) hn (th := 2) (by decide) (by decide) ho q1 k1 (by omega) hc
    have h33 := stk_32 i1 (by omega)
    rw [b1, Option.bind_some, X_pushRaw b3.1 (by omega), Option.bind_some]
    have a5 : agr [4, 6] τ2 (psI (psI τ2 6 (dP 2 pd).2.length (enP 12)) 4 4 (nI ((dP 2 pd).2.length + 1))) := agr_trans (agr_psI (by simp)) (agr_psI (by simp))
    refine ⟨_, e, rfl, ?_, ?_, QX_push (Or.inl rfl) b3 rfl, ?_⟩
    · exact agr_trans (agr_mono a4 (by simp)) (agr_trans (agr_mono b4 (by simp)) (agr_mono a5 (by simp)))
    · rw [z3] at a2
      exact TX_agr (TX_agr a2 b4 (by decide) (by decide)) a5 (by decide) (by decide)
    · exact KX_ag b2 (by rw [psI_eq, if_neg (by decide), psI_other (by decide)]) (by rw [psI_eq, if_neg (by decide), psI_other (by decide)]) (a5 5 (by decide)).1
  refine Or.inr ?_
  rw [if_neg z3, if_pos rfl]
  obtain ⟨i1, i2, i3, i4, i5, i6, i7, i8⟩ := dP_facts 1 (by decide) pd ho
  obtain ⟨τ2, b1, b2, b3, b4⟩ := X_popDown (n := n) hn (th := 1) (by decide) (by decide) ho q1 k1 (by omega) hc
  have h33 := stk_32 i1 (by omega)
  have t2 := TX_agr a2 b4 (by decide) (by decide)
  rw [b1, Option.bind_some, X_wordIs hn (a := 7) (by decide) t2, Option.bind_some]
  by_cases z4 : wl B sz e = wS 7
  · refine Or.inl ⟨z3, z4, ?_⟩
    rw [if_pos z4, if_neg ne10]
    show ∃ τ s', (F_X5_push n (enP 13) τ2).bind _ = some _ ∧ _
    rw [X_pushRaw b3.1 (by omega), Option.bind_some]
    have a5 : agr [4, 6] τ2 (psI (psI τ2 6 (dP 1 pd).2.length (enP 13)) 4 4 (nI ((dP 1 pd).2.length + 1))) := agr_trans (agr_psI (by simp)) (agr_psI (by simp))
    refine ⟨_, e, rfl, ?_, ?_, QX_push (Or.inr rfl) b3 rfl, ?_⟩
    · exact agr_trans (agr_mono a4 (by simp)) (agr_trans (agr_mono b4 (by simp)) (agr_mono a5 (by simp)))
    · rw [z4] at t2
      exact TX_agr t2 a5 (by decide) (by decide)
    · exact KX_ag b2 (by rw [psI_eq, if_neg (by decide), psI_other (by decide)]) (by rw [psI_eq, if_neg (by decide), psI_other (by decide)]) (a5 5 (by decide)).1
  refine Or.inr ?_
  rw [if_neg z4, if_pos rfl]
  obtain ⟨τ3, c1, c2, c3, c4⟩ := X_putBack (n := n) t2
  show (_ ∧ _ ∧ _ ∧ ∃ τ s', (F_X9_putWordBack n τ2).bind _ = some _ ∧ _) ∨ (_ ∧ _ ∧ _ ∧ ∃ τ, (F_X9_putWordBack n τ2).bind _ = some _ ∧ _)
  rw [c1, Option.bind_some]
  have h46 : τ3.1 4 6 = nI (brk pd) := by rw [(c4 4 (by decide)).1, b3.2.2.1, i3]
  have hbl := stk_len pd (ord_ok pd ho)
  rw [h46]
  by_cases z5 : brk pd = 0
  · refine Or.inl ⟨z3, z4, z5, ?_⟩
    rw [if_pos (show nI (brk pd) ≤ 0 by rw [z5]; decide)]
    exact ⟨τ3, e, rfl, agr_trans (agr_mono a4 (by simp)) (agr_trans (agr_mono b4 (by simp)) (agr_mono c4 (by simp))), c2, KX_1 b2 c4⟩
  · refine Or.inr ⟨z3, z4, z5, ?_⟩
    rw [if_neg (nI_nle (by omega) (by omega)), c2.2.2.1]
    obtain ⟨τ4, d1, d2, d3, d4⟩ := X_fail0 (n := n) (w := e) (k := 0) c2
    rw [d1]
    exact ⟨τ4, rfl, agr_trans (agr_mono a4 (by simp)) (agr_trans (agr_mono b4 (by simp)) (agr_trans (agr_mono c4 (by simp)) (agr_mono d4 (by simp)))), KX_SX (KX_1 (KX_1 b2 c4) d4) d2⟩
theorem X_test19 (hn : 1000 ≤ n) : ∀ (k kf x2 p m s : Nat) (pd : List Nat) (σ : PS) (c : List Int32), TX σ B sz p s 0 → QX σ pd → KX σ c m → m ≤ 60 → ordP pd → dep pd ≤ 10 → c.length + pen pd + 1 ≤ p → k < kf → sz < k + p → x2 + 2 ≤ p → ∃ τ, L_X5_readTest_19 n kf 1 (nI x2) σ = some τ ∧ ay σ τ ∧ SX τ B sz (nI (testP B sz k p m pd).1) ∧ ((testP B sz k p m pd).1 = 0 → ∃ s', TX τ B sz (testP B sz k p m pd).2.1 s' 0 ∧ KX τ (c ++ (testP B sz k p m pd).2.2.2.map enT) (testP B sz k p m pd).2.2.1)
  | 0, kf, x2, p, m, s, pd, σ, c, ht, hq, hk, hm, ho, hd, hl, hkf, hs, hx => by have := ht.2.2.2.2.2.2.1; omega
  | k + 1, 0, x2, p, m, s, pd, σ, c, ht, hq, hk, hm, ho, hd, hl, hkf, hs, hx => by omega
  | k + 1, kf + 1, x2, p, m, s, pd, σ, c, ht, hq, hk, hm, ho, hd, hl, hkf, hs, hx => by
    have h400 := ht.2.2.2.2.2.2.2
    have hp := ht.2.2.2.2.2.2.1
    obtain ⟨kg, hkg⟩ : ∃ kg, kf = kg + 1 := ⟨kf - 1, by omega⟩
    have stop : ∀ (w : Int32) (τ : PS), L_X5_readTest_19 n kf 0 w τ = some τ := by
      intro w τ
      rw [hkg, L_X5_readTest_19, if_pos rfl]
    obtain ⟨τ1, a1, a2, a3, a4⟩ := X_readFact hn ht hq hk hm ho hd hl
    rw [X_t19, if_neg ne10, if_neg (show ¬ (400 : Int32) ≤ nI x2 from nI_ge (show x2 < 400 by omega) (by decide)), a1, Option.bind_some]
    have hlt := testP_lt (B := B) h400 (k + 1) p m pd hp hm ho hd
    unfold testP at hlt ⊢
    obtain ⟨p1, s1, t1⟩ := a3.1
    by_cases z1 : (oP B sz p pd).1 = 0
    · rw [if_pos z1] at a3 t1 hlt ⊢
      by_cases z2 : (fP B sz p m pd).1 = 0
      · obtain ⟨s2, b1, b2, b3⟩ := a4 z1 z2
        obtain ⟨f1, f2, f3, f4, f5, f6, f7, f8, f9, f10⟩ := fact_ok hp hm ho hd z1 z2
        unfold oP at z1
        obtain ⟨o1, o2, o3, o4, o5, o6, o7⟩ := openP_ok (B := B) (sz := sz) 11 p pd hp ho hd z1
        have ob := stk_len _ (ord_ok _ o4)
        rw [if_pos z2] at hlt ⊢
        unfold fP oP at z2
        obtain ⟨g1, g2, g3, g4, g5, g6, g7, g8⟩ := cmpP_ok (B := B) o2 hm z2
        rw [b1.2.2.2.2.1, if_pos rfl, X_closeEq]
        obtain ⟨e, τ2, p2, s3, c1, c2, c3, c4, c5, c6⟩ := X_close2 hn 11 n 0 (fP B sz p m pd).2.1 s2 (oP B sz p pd).2.2 τ1 _ _ b1 b2 b3 o4 o5 (by unfold oP; omega) (by omega) (by unfold oP; omega) (by unfold fP oP; simp only [List.length_append, List.length_map]; omega)
        show ∃ τ, ((L_X5_closeFact_2 n n (nI 0) τ1).bind _).bind _ = some τ ∧ _
        rw [c1, Option.bind_some]
        show ∃ τ, (xaf n τ2).bind _ = some τ ∧ _
        have c4' : sk B sz p2 = (clP B sz p m pd).1 := c4
        have c5' : QX τ2 (clP B sz p m pd).2.1 := c5
        have c6' : KX τ2 (c ++ (fP B sz p m pd).2.2.2.map enT ++ (clP B sz p m pd).2.2.map enT) (fP B sz p m pd).2.2.1 := c6
        have x2' : ay σ τ2 := agr_trans a2 c2
        generalize fP B sz p m pd = F at *
        generalize clP B sz p m pd = C at *
        have hlen : (c ++ F.2.2.2.map enT ++ C.2.2.map enT).length = c.length + (F.2.2.2 ++ C.2.2).length := by simp
        have lst : ∀ w : List Nat, c ++ (F.2.2.2 ++ (C.2.2 ++ w)).map enT = c ++ F.2.2.2.map enT ++ C.2.2.map enT ++ w.map enT := fun w => by simp [List.append_assoc]
        rcases X_af hn c3 c4' c5' c6' f4 f5 (by rw [hlen]; omega) with ⟨w1, τ3, s4, d1, d2, d3, d4, d5⟩ | ⟨w1, w2, τ3, s4, d1, d2, d3, d4, d5⟩ | ⟨w1, w2, w3, τ3, s4, d1, d2, d3, d4⟩ | ⟨w1, w2, w3, τ3, d1, d2, d3⟩
        · rw [if_pos w1] at hlt ⊢
          rw [d1, Option.bind_some, if_neg ne10, nI_1]
          obtain ⟨i1, i2, i3, i4, i5, i6, i7, i8⟩ := dP_facts 2 (by decide) C.2.1 f4
          obtain ⟨u1, u2, u3, u4⟩ := dep_o (x := 12) (Or.inl rfl) (dP 2 C.2.1).2
          obtain ⟨τ, r1, r2, r3, r4⟩ := X_test19 hn k kf (x2 + 1) (C.1 + 3) F.2.2.1 s4 (12 :: (dP 2 C.2.1).2) τ3 _ d3 d4 d5 f6 (ord_12 i1 i2) (by omega) (by rw [List.length_append, hlen, List.length_map]; omega) (by omega) (by omega) (by omega)
          refine ⟨τ, r1, agr_trans x2' (agr_trans d2 r2), r3, fun z => ?_⟩
          obtain ⟨s5, v1, v2⟩ := r4 z
          refine ⟨s5, v1, ?_⟩
          simp only [pre]
          rw [List.map_append, ← List.append_assoc, lst]
          exact v2
        · rw [if_neg w1, if_pos w2] at hlt ⊢
          rw [d1, Option.bind_some, if_neg ne10, nI_1]
          obtain ⟨i1, i2, i3, i4, i5, i6, i7, i8⟩ := dP_facts 1 (by decide) C.2.1 f4
          obtain ⟨u1, u2, u3, u4⟩ := dep_o (x := 13) (Or.inr rfl) (dP 1 C.2.1).2
          obtain ⟨τ, r1, r2, r3, r4⟩ := X_test19 hn k kf (x2 + 1) (C.1 + 2) F.2.2.1 s4 (13 :: (dP 1 C.2.1).2) τ3 _ d3 d4 d5 f6 (ord_13 i1 i2) (by omega) (by rw [List.length_append, hlen, List.length_map]; omega) (by omega) (by omega) (by omega)
          refine ⟨τ, r1, agr_trans x2' (agr_trans d2 r2), r3, fun z => ?_⟩
          obtain ⟨s5, v1, v2⟩ := r4 z
          refine ⟨s5, v1, ?_⟩
          simp only [pre]
          rw [List.map_append, ← List.append_assoc, lst]
          exact v2
        · rw [if_neg w1, if_neg w2, if_pos w3] at hlt ⊢
          rw [d1, Option.bind_some, if_pos rfl, stop]
          refine ⟨τ3, rfl, agr_trans x2' d2, KX_SX d4 d3, fun _ => ⟨s4, d3, ?_⟩⟩
          show KX τ3 (c ++ (F.2.2.2 ++ (C.2.2 ++ (dP 1 C.2.1).1)).map enT) F.2.2.1
          rw [lst]
          exact d4
        · rw [if_neg w1, if_neg w2, if_neg w3] at hlt ⊢
          rw [d1, Option.bind_some, if_pos rfl, stop]
          exact ⟨τ3, rfl, agr_trans x2' d2, d3, fun z => by simp at z⟩
      · rw [if_neg z2] at hlt ⊢
        rw [t1.2.2.2.2.1, if_neg (nI_fault z2 hlt), stop]
        exact ⟨τ1, rfl, a2, a3, fun z => absurd z z2⟩
    · rw [if_neg z1] at a3 t1 hlt ⊢
      rw [t1.2.2.2.2.1, if_neg (nI_fault z1 hlt), stop]
      exact ⟨τ1, rfl, a2, a3, fun z => absurd z z1⟩
theorem X_test (hn : 1000 ≤ n) {p m s : Nat} {σ : PS} {c : List Int32} (ht : TX σ B sz p s 0) (hk : KX σ c m) (hm : m ≤ 60) (hl : c.length + 1 ≤ p) (h2 : 2 ≤ p) : ∃ τ, F_X5_readTest n σ = some τ ∧ ay σ τ ∧ SX τ B sz (nI (testP B sz 401 p m []).1) ∧ ((testP B sz 401 p m []).1 = 0 → ∃ s', TX τ B sz (testP B sz 401 p m []).2.1 s' 0 ∧ KX τ (c ++ (testP B sz 401 p m []).2.2.2.map enT) (testP B sz 401 p m []).2.2.1) := by
  have h400 := ht.2.2.2.2.2.2.2
  unfold F_X5_readTest
  generalize hT : psI (psI (psI σ 4 4 (0 : Int32)) 4 5 (0 : Int32)) 4 6 (0 : Int32) = τ0
  have a0 : agr [4] σ τ0 := by rw [← hT]; exact agr_trans (agr_psI (by simp)) (agr_trans (agr_psI (by simp)) (agr_psI (by simp)))
  have q0 : QX τ0 [] := by
    rw [← hT]
    refine ⟨?_, ?_, ?_, trivial⟩
    · rw [psI_eq, if_neg (by decide), psI_eq, if_neg (by decide), psI_eq, if_pos rfl]; rfl
    · rw [psI_eq, if_neg (by decide), psI_eq, if_pos rfl]; rfl
    · rw [psI_eq, if_pos rfl]; rfl
  have k0 : KX τ0 c m := by
    refine KX_ag hk ?_ ?_ (a0 5 (by decide)).1
    · rw [← hT, psI_eq, if_neg (by decide), psI_eq, if_neg (by decide), psI_eq, if_neg (by decide)]
    · rw [← hT, psI_eq, if_neg (by decide), psI_eq, if_neg (by decide), psI_eq, if_neg (by decide)]
  obtain ⟨τ, r1, r2, r3, r4⟩ := X_test19 hn 401 n 0 p m s [] τ0 c (TX_agr ht a0 (by decide) (by decide)) q0 k0 hm trivial (by decide) (by rw [show pen [] = 0 from rfl]; omega) (by omega) (by omega) (by omega)
  show ∃ τ, (L_X5_readTest_19 n n 1 (nI 0) τ0).bind _ = some τ ∧ _
  rw [r1]
  exact ⟨τ, rfl, agr_trans (agr_mono a0 (by simp)) r2, r3, r4⟩
theorem X_testF (hn : 1000 ≤ n) {f : Int32} (hf : ¬ f = 0) {σ : PS} (h : SX σ B sz f) : ∃ τ, F_X5_readTest n σ = some τ ∧ ay σ τ ∧ SX τ B sz f := by
  unfold F_X5_readTest
  generalize hT : psI (psI (psI σ 4 4 (0 : Int32)) 4 5 (0 : Int32)) 4 6 (0 : Int32) = τ0
  have a0 : agr [4] σ τ0 := by rw [← hT]; exact agr_trans (agr_psI (by simp)) (agr_trans (agr_psI (by simp)) (agr_psI (by simp)))
  obtain ⟨⟨p, s, ht⟩, k, k1, k2⟩ := h
  have h44 : τ0.1 4 4 = nI 0 := by rw [← hT, psI_eq, if_neg (by decide), psI_eq, if_neg (by decide), psI_eq, if_pos rfl]; rfl
  have s0 : SX τ0 B sz f := ⟨⟨p, s, TX_agr ht a0 (by decide) (by decide)⟩, k, k1, by rw [← hT, psI_eq, if_neg (by decide), psI_eq, if_neg (by decide), psI_eq, if_neg (by decide)]; exact k2⟩
  obtain ⟨τ, r1, r2, r3⟩ := X_readFactF hn hf s0 h44
  obtain ⟨kg, hkg⟩ : ∃ kg, n = kg + 2 := ⟨n - 2, by omega⟩
  obtain ⟨p3, s3, t3⟩ := r3.1
  have e : L_X5_readTest_19 n n 1 0 τ0 = some τ := by
    rw [show L_X5_readTest_19 n n 1 0 τ0 = L_X5_readTest_19 n (kg + 1 + 1) 1 0 τ0 by rw [← hkg], X_t19, if_neg ne10, if_neg (by decide), r1, Option.bind_some, t3.2.2.2.2.1, if_neg hf, L_X5_readTest_19, if_pos rfl]
  rw [e]
  exact ⟨τ, rfl, agr_trans (agr_mono a0 (by simp)) r2, r3⟩
end TS
