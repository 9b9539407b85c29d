/-! A fact made of a sign, both sides. -/
def alB (B : Nat → Int32) (sz e : Nat) : Bool := !decide (sg B sz e = 61) && decide (e + 1 < sz) && decide (B (e + 1) = 61)
def alN2 (b : Bool) : Nat := if b = true then 2 else 1
def siT (c : Int32) (al : Bool) : Nat := if c = 60 then (if al = true then 7 else 6) else if c = 61 then 8 else if al = true then 9 else 10
def isS (c : Int32) : Prop := c = 60 ∨ c = 61 ∨ c = 62
def isSb (c : Int32) : Bool := decide (c = 60) || decide (c = 61) || decide (c = 62)
theorem isSb_iff (c : Int32) : isSb c = true ↔ (c = 60 ∨ c = 61 ∨ c = 62) := by
  unfold isSb
  simp only [Bool.or_eq_true, decide_eq_true_iff, or_assoc]
/-- behind the first sum -/
def cmp2 (B : Nat → Int32) (sz e m : Nat) : PR := if isSb (sg B sz e) = true then (if m = 60 then (4 + 8 * e, 0, 0, []) else (if (sumP B sz 61 0 0 (e + alN2 (alB B sz e)) (m + 1)).1 = 0 then ((0 : Nat), (sumP B sz 61 0 0 (e + alN2 (alB B sz e)) (m + 1)).2.1, (sumP B sz 61 0 0 (e + alN2 (alB B sz e)) (m + 1)).2.2.1, (sumP B sz 61 0 0 (e + alN2 (alB B sz e)) (m + 1)).2.2.2 ++ [siT (sg B sz e) (alB B sz e)]) else ((sumP B sz 61 0 0 (e + alN2 (alB B sz e)) (m + 1)).1, 0, 0, []))) else (1 + 8 * e, 0, 0, [])
def cmpP (B : Nat → Int32) (sz p m : Nat) : PR := if (sumP B sz 61 0 0 p m).1 = 0 then pre (sumP B sz 61 0 0 p m).2.2.2 (cmp2 B sz (sumP B sz 61 0 0 p m).2.1 (sumP B sz 61 0 0 p m).2.2.1) else ((sumP B sz 61 0 0 p m).1, 0, 0, [])
theorem sg_in {B : Nat → Int32} {sz e : Nat} (h : isSb (sg B sz e) = true) : e < sz := by
  by_cases q : e < sz
  · exact q
  · have : sg B sz e = -1 := by unfold sg; rw [if_neg q]
    rw [this] at h
    exact absurd h (by decide)
theorem alB_lt {B : Nat → Int32} {sz e : Nat} (h : alB B sz e = true) : ¬ sg B sz e = 61 ∧ e + 1 < sz ∧ B (e + 1) = 61 := by
  unfold alB at h
  simp only [Bool.and_eq_true, Bool.not_eq_true', decide_eq_false_iff_not, decide_eq_true_iff] at h
  exact ⟨h.1.1, h.1.2, h.2⟩
theorem al_le {B : Nat → Int32} {sz e : Nat} (h : e < sz) : 1 ≤ alN2 (alB B sz e) ∧ e + alN2 (alB B sz e) ≤ sz := by
  unfold alN2
  cases q : alB B sz e with
  | true => have := (alB_lt q).2.1; simp; omega
  | false => simp; omega
theorem siT_ok (c : Int32) (al : Bool) : 6 ≤ siT c al ∧ siT c al ≤ 10 := by
  unfold siT
  split
  · split <;> omega
  · split
    · omega
    · split <;> omega
theorem tyc_cmp {t : Nat} (h1 : 6 ≤ t) (h2 : t ≤ 10) : tyc [t] [false, false] = some [true] := by
  have : t = 6 ∨ t = 7 ∨ t = 8 ∨ t = 9 ∨ t = 10 := by omega
  rcases this with z | z | z | z | z <;> subst z <;> rfl
theorem cmp2_ok {B : Nat → Int32} {sz e m : Nat} (he : e ≤ sz) (hm : m ≤ 60) (h : (cmp2 B sz e m).1 = 0) : e + 1 < (cmp2 B sz e m).2.1 ∧ (cmp2 B sz e m).2.1 ≤ sz ∧ sk B sz (cmp2 B sz e m).2.1 = (cmp2 B sz e m).2.1 ∧ (cmp2 B sz e m).2.2.1 ≤ 60 ∧ (∀ t ∈ (cmp2 B sz e m).2.2.2, okT t) ∧ tyc (cmp2 B sz e m).2.2.2 [false] = some [true] ∧ nvl (cmp2 B sz e m).2.2.2 + m ≤ (cmp2 B sz e m).2.2.1 ∧ (cmp2 B sz e m).2.2.2.length + e ≤ (cmp2 B sz e m).2.1 := by
  unfold cmp2 at h ⊢
  by_cases z : isSb (sg B sz e) = true
  · rw [if_pos z] at h ⊢
    have hlt := sg_in z
    have hal := al_le (B := B) hlt
    by_cases z6 : m = 60
    · rw [if_pos z6] at h; simp at h
    · rw [if_neg z6] at h ⊢
      by_cases zz : (sumP B sz 61 0 0 (e + alN2 (alB B sz e)) (m + 1)).1 = 0
      · rw [if_pos zz]
        obtain ⟨i1, i2, i3, i4, i5, i6, i7, i8⟩ := sumP_ok 61 0 0 (e + alN2 (alB B sz e)) (m + 1) (Or.inl rfl) (Or.inl rfl) hal.2 (by omega) zz
        have hs := siT_ok (sg B sz e) (alB B sz e)
        rw [show cO 0 = 0 from rfl] at i8
        have i6' : tyc (sumP B sz 61 0 0 (e + alN2 (alB B sz e)) (m + 1)).2.2.2 [] = some [false] := i6
        have f6 := tyc_frame _ _ _ [false] i6'
        refine ⟨by show e + 1 < (sumP B sz 61 0 0 (e + alN2 (alB B sz e)) (m + 1)).2.1; omega, i2, i3, i4, ?_, ?_, ?_, ?_⟩
        · intro t ht
          rcases List.mem_append.mp ht with q | q
          · exact i5 t q
          · rw [List.mem_singleton.mp q]; unfold okT; omega
        · show tyc (_ ++ _) _ = _
          rw [tyc_app]
          rw [show ([] : List Bool) ++ [false] = [false] from rfl] at f6
          rw [f6, Option.bind_some]
          exact tyc_cmp hs.1 hs.2
        · show nvl (_ ++ _) + m ≤ _
          rw [nvl_app]
          simp only [nvl]
          rw [if_neg (by omega)]
          omega
        · skip
          simp only [List.length_append, List.length_cons, List.length_nil]
          omega
      · rw [if_neg zz] at h; exact absurd h zz
  · rw [if_neg z] at h; simp at h
theorem cmpP_ok {B : Nat → Int32} {sz p m : Nat} (hp : p ≤ sz) (hm : m ≤ 60) (h : (cmpP B sz p m).1 = 0) : p + 2 < (cmpP B sz p m).2.1 ∧ (cmpP B sz p m).2.1 ≤ sz ∧ sk B sz (cmpP B sz p m).2.1 = (cmpP B sz p m).2.1 ∧ (cmpP B sz p m).2.2.1 ≤ 60 ∧ (∀ t ∈ (cmpP B sz p m).2.2.2, okT t) ∧ tyc (cmpP B sz p m).2.2.2 [] = some [true] ∧ nvl (cmpP B sz p m).2.2.2 + m ≤ (cmpP B sz p m).2.2.1 ∧ (cmpP B sz p m).2.2.2.length + p ≤ (cmpP B sz p m).2.1 := by
  unfold cmpP at h ⊢
  by_cases zz : (sumP B sz 61 0 0 p m).1 = 0
  · rw [if_pos zz] at h ⊢
    obtain ⟨i1, i2, i3, i4, i5, i6, i7, i8⟩ := sumP_ok 61 0 0 p m (Or.inl rfl) (Or.inl rfl) hp hm zz
    rw [show cO 0 = 0 from rfl] at i8
    obtain ⟨j1, j2, j3, j4, j5, j6, j7, j8⟩ := cmp2_ok i2 i4 h
    have i6' : tyc (sumP B sz 61 0 0 p m).2.2.2 [] = some [false] := i6
    simp only [pre]
    refine ⟨by show p + 2 < _; omega, j2, j3, j4, ?_, ?_, ?_, ?_⟩
    · intro t ht
      rcases List.mem_append.mp ht with q | q
      · exact i5 t q
      · exact j5 t q
    · show tyc (_ ++ _) _ = _
      rw [tyc_app, i6', Option.bind_some]
      exact j6
    · show nvl (_ ++ _) + m ≤ _
      rw [nvl_app]
      omega
    · skip
      rw [List.length_append]
      omega
  · rw [if_neg zz] at h; exact absurd h zz
section CM
variable {n : Nat} {B : Nat → Int32} {sz : Nat}
theorem X_ofSign (x : Int32) (σ : PS) : F_X3_ofSign n x σ = some (if isSb x = true then enT (siT x false) else 0, σ) := by
  unfold F_X3_ofSign
  by_cases e1 : x = 60
  · subst e1; rfl
  by_cases e2 : x = 61
  · subst e2; rfl
  by_cases e3 : x = 62
  · subst e3; rfl
  rw [if_neg e1, if_neg e2, if_neg e3, if_neg (fun q => by rcases (isSb_iff x).mp q with z | z | z <;> contradiction)]
/-- the class reads the sign -/
theorem X_sign (hn : 1000 ≤ n) {e s m : Nat} {σ : PS} {c : List Int32} (ht : TX σ B sz e s 0) (hs : sk B sz e = e) (hk : KX σ c m) (hm : m ≤ 60) : (isSb (sg B sz e) = true ∧ ∃ τ, F_X5_readSign n σ = some (enT (siT (sg B sz e) (alB B sz e)), τ) ∧ ax σ τ ∧ TX τ B sz (e + alN2 (alB B sz e)) s (nI (if m = 60 then 4 + 8 * e else 0)) ∧ KX τ c (m + 1)) ∨ (¬ isSb (sg B sz e) = true ∧ ∃ τ, F_X5_readSign n σ = some (0, τ) ∧ ax σ τ ∧ SX τ B sz (nI (1 + 8 * e))) := by
  have h400 := ht.2.2.2.2.2.2.2
  obtain ⟨τ1, a1, a2, a3, a4⟩ := X_peek hn ht
  rw [hs] at a1 a2
  have k1 := KX_1 hk a4
  unfold F_X5_readSign
  rw [ht.2.2.2.2.1, if_pos rfl, a1, Option.bind_some, X_ofSign, Option.bind_some]
  have h12 : τ1.1 1 2 = nI e := a2.2.2.1
  by_cases z : isSb (sg B sz e) = true
  · refine Or.inl ⟨z, ?_⟩
    have hlt := sg_in z
    simp only [z, if_true, h12, nI_p1]
    have t2 := TX_p a2 (p' := e + 1) (by have := a2.2.2.2.2.2.1; omega) (by omega)
    have a5 : agr [1] τ1 (psI τ1 1 2 (nI (e + 1))) := agr_psI (by simp)
    have k2 := KX_1 k1 a5
    have g1 : (psI τ1 1 2 (nI (e + 1))).1 1 1 = nI sz := t2.2.1
    have g2 : (psI τ1 1 2 (nI (e + 1))).1 1 2 = nI (e + 1) := t2.2.2.1
    have g3 : (psI τ1 1 2 (nI (e + 1))).1 2 = B := t2.1
    rw [g1, g2, g3, nI_clamp (show e + 1 < 2 ^ 31 by omega)]
    have plain : alB B sz e = false → ∃ τ, ((F_X5_countOne n (nI e) (psI τ1 1 2 (nI (e + 1)))).bind (fun q => some (enT (siT (sg B sz e) false), q))) = some (enT (siT (sg B sz e) (alB B sz e)), τ) ∧ ax σ τ ∧ TX τ B sz (e + alN2 (alB B sz e)) s (nI (if m = 60 then 4 + 8 * e else 0)) ∧ KX τ c (m + 1) := by
      intro hal
      obtain ⟨τ, b1, b2, b3, b4, b5⟩ := X_count (n := n) (w := e) k2 t2 hm
      rw [b1, hal]
      exact ⟨τ, rfl, ax_trans (ax_1 a4) (ax_trans (ax_1 a5) b5), b2, b3⟩
    have hne : ¬ enT (siT (sg B sz e) false) = 0 := by
      rcases (isSb_iff _).mp z with q | q | q <;> rw [q] <;> decide
    rw [if_neg hne]
    by_cases z61 : sg B sz e = 61
    · have hal : alB B sz e = false := by unfold alB; simp [z61]
      rw [if_pos (show enT (siT (sg B sz e) false) = -27 by rw [z61]; rfl)]
      exact plain hal
    · have h27 : ¬ enT (siT (sg B sz e) false) = -27 := by
        rcases (isSb_iff _).mp z with q | q | q
        · rw [q]; decide
        · exact absurd q z61
        · rw [q]; decide
      rw [if_neg h27]
      by_cases ze : sz ≤ e + 1
      · have hal : alB B sz e = false := by unfold alB; rw [show decide (e + 1 < sz) = false from decide_eq_false (by omega)]; simp
        rw [if_pos (nI_le ze (by omega))]
        exact plain hal
      · rw [if_neg (nI_ge (by omega) (by omega)), if_pos ⟨nI_pos' (by omega), by omega⟩]
        by_cases zb : B (e + 1) = 61
        · have hal : alB B sz e = true := by unfold alB; rw [show decide (e + 1 < sz) = true from decide_eq_true (by omega)]; simp [z61, zb]
          rw [if_pos zb, if_neg (by decide), nI_p1]
          have t3 := TX_p t2 (p' := e + 1 + 1) (by have := t2.2.2.2.2.2.1; omega) (by omega)
          have a6 : agr [1] (psI τ1 1 2 (nI (e + 1))) (psI (psI τ1 1 2 (nI (e + 1))) 1 2 (nI (e + 1 + 1))) := agr_psI (by simp)
          obtain ⟨τ, b1, b2, b3, b4, b5⟩ := X_count (n := n) (w := e) (KX_1 k2 a6) t3 hm
          rw [b1, Option.bind_some, if_neg ne10, hal]
          have x : ax σ τ := ax_trans (ax_1 a4) (ax_trans (ax_1 a5) (ax_trans (ax_1 a6) b5))
          rcases (isSb_iff _).mp z with q | q | q
          · rw [if_pos (show enT (siT (sg B sz e) false) = -25 by rw [q]; rfl), q]
            exact ⟨τ, rfl, x, b2, b3⟩
          · exact absurd q z61
          · rw [if_neg (show ¬ enT (siT (sg B sz e) false) = -25 by rw [q]; decide), q]
            exact ⟨τ, rfl, x, b2, b3⟩
        · have hal : alB B sz e = false := by unfold alB; rw [show decide (B (e + 1) = 61) = false from decide_eq_false zb]; simp
          rw [if_neg zb]
          exact plain hal
  · refine Or.inr ⟨z, ?_⟩
    simp only [z, if_false, if_true, h12]
    obtain ⟨τ, b1, b2, b3, b4⟩ := X_fail0 (n := n) (w := e) (k := 0) a2
    show ∃ τ, (F_X9_fail n (nI e) (nI 0) τ1).bind _ = some _ ∧ _
    rw [b1]
    exact ⟨τ, rfl, ax_trans (ax_1 a4) (ax_1 b4), KX_SX (KX_1 k1 b4) b2⟩
/-- the class's sum, sign and sum -/
def xcmp (n : Nat) (σ : PS) : Option PS := (F_X5_readSum n σ).bind (fun q10 => (F_X5_readSign n q10).bind (fun q12 => (F_X5_readSum n q12.2).bind (fun q14 => (F_X5_emit n q12.1 q14).bind (fun q16 => some q16))))
theorem X_cmpF (hn : 1000 ≤ n) {f : Int32} {σ : PS} (h : SX σ B sz f) (hf : ¬ f = 0) : xcmp n σ = some σ := by
  obtain ⟨p, s, ht⟩ := h.1
  have hs : F_X5_readSign n σ = some (0, σ) := by
    unfold F_X5_readSign
    rw [ht.2.2.2.2.1, if_neg hf]
  unfold xcmp
  rw [X_sumF hn h hf, Option.bind_some, hs, Option.bind_some]
  show (F_X5_readSum n σ).bind _ = _
  rw [X_sumF hn h hf, Option.bind_some]
  show (F_X5_emit n 0 σ).bind _ = _
  rw [X_emit0]
  rfl
theorem nI_fault {x : Nat} (h0 : x ≠ 0) (h : x < 2 ^ 31) : ¬ nI x = 0 := nI_ne0 (by omega) h
theorem vF_lt {q m : Nat} (h : q ≤ 400) : vF B sz q m < 2 ^ 31 := by
  have hb : nF B sz q 0 99999 < 2 ^ 31 := by
    unfold nF; split
    · omega
    · split <;> omega
  unfold vF
  split
  · split
    · omega
    · split <;> omega
  · split
    · split <;> omega
    · omega
theorem sumP_lt (h400 : sz ≤ 400) : ∀ (k a mu p m : Nat), p ≤ sz → (sumP B sz k a mu p m).1 < 2 ^ 31
  | 0, a, mu, p, m, hp => by show 1 < 2 ^ 31; decide
  | k + 1, a, mu, p, m, hp => by
    have hq := sk_le (B := B) hp
    unfold sumP
    split
    · have hsl := sE_le (B := B) hp
      split
      · split
        · show 0 < 2 ^ 31; decide
        · rename_i h1 h2 h3
          exact sumP_lt h400 k _ _ _ _ (by have := adO_lt h3; omega)
      · rename_i h1 h2
        exact sumP_lt h400 k _ _ _ _ (by have := muO_lt h2; omega)
    · exact vF_lt (by omega)
theorem cmpP_lt (h400 : sz ≤ 400) {p m : Nat} (hp : p ≤ sz) (hm : m ≤ 60) : (cmpP B sz p m).1 < 2 ^ 31 := by
  unfold cmpP
  by_cases zz : (sumP B sz 61 0 0 p m).1 = 0
  · rw [if_pos zz]
    obtain ⟨i1, i2, i3, i4, i5, i6, i7, i8⟩ := sumP_ok 61 0 0 p m (Or.inl rfl) (Or.inl rfl) hp hm zz
    show (cmp2 B sz _ _).1 < _
    unfold cmp2
    split
    · rename_i hh
      have := al_le (B := B) (sg_in hh)
      split
      · show _ + _ < _; omega
      · split
        · show 0 < 2 ^ 31; decide
        · exact sumP_lt h400 _ _ _ _ _ this.2
    · show _ + _ < _; omega
  · rw [if_neg zz]; exact sumP_lt h400 _ _ _ _ _ hp
theorem X_cmp (hn : 1000 ≤ n) {p m s : Nat} {σ : PS} {c : List Int32} (ht : TX σ B sz p s 0) (hk : KX σ c m) (hm : m ≤ 60) (hl : c.length + 1 ≤ p) : ∃ τ, xcmp n σ = some τ ∧ ax σ τ ∧ SX τ B sz (nI (cmpP B sz p m).1) ∧ ((cmpP B sz p m).1 = 0 → ∃ s', TX τ B sz (cmpP B sz p m).2.1 s' 0 ∧ KX τ (c ++ (cmpP B sz p m).2.2.2.map enT) (cmpP B sz p m).2.2.1) := by
  have h400 := ht.2.2.2.2.2.2.2
  have hp := ht.2.2.2.2.2.2.1
  have hlt := cmpP_lt (B := B) h400 hp hm
  obtain ⟨τ1, a1, a2, a3, a4⟩ := X_sum hn ht hk hm hl
  unfold xcmp
  rw [a1, Option.bind_some]
  have hsl := sumP_lt (B := B) h400 61 0 0 p m hp
  unfold cmpP at hlt ⊢
  by_cases zz : (sumP B sz 61 0 0 p m).1 = 0
  · rw [if_pos zz] at hlt ⊢
    obtain ⟨i1, i2, i3, i4, i5, i6, i7, i8⟩ := sumP_ok 61 0 0 p m (Or.inl rfl) (Or.inl rfl) hp hm zz
    rw [show cO 0 = 0 from rfl] at i8
    obtain ⟨s1, b1, b2⟩ := a4 zz
    generalize hS : sumP B sz 61 0 0 p m = S at *
    rcases X_sign hn b1 i3 b2 i4 with ⟨zs, τ2, c1, c2, c3, c4⟩ | ⟨zs, τ2, c1, c2, c3⟩
    · rw [c1, Option.bind_some]
      have hlt2 := sg_in zs
      have hal := al_le (B := B) hlt2
      unfold cmp2 at hlt ⊢
      rw [if_pos zs] at hlt ⊢
      by_cases z6 : S.2.2.1 = 60
      · rw [if_pos z6] at c3 hlt ⊢
        have s2 := KX_SX c4 c3
        have fne : ¬ nI (4 + 8 * S.2.1) = 0 := nI_ne0 (by omega) (by omega)
        show ∃ τ, (F_X5_readSum n τ2).bind _ = some τ ∧ _
        rw [X_sumF hn s2 fne, Option.bind_some]
        obtain ⟨τ3, d1, d2, d3⟩ := X_emitF (n := n) (v := enT (siT (sg B sz S.2.1) (alB B sz S.2.1))) s2
        show ∃ τ, (F_X5_emit n (enT (siT (sg B sz S.2.1) (alB B sz S.2.1))) τ2).bind _ = some τ ∧ _
        rw [d1]
        exact ⟨τ3, rfl, ax_trans a2 (ax_trans c2 d3), d2, fun z => by simp [pre] at z⟩
      · rw [if_neg z6] at c3 hlt ⊢
        obtain ⟨τ3, d1, d2, d3, d4⟩ := X_sum hn c3 c4 (by omega) (by simp only [List.length_append, List.length_map]; omega)
        show ∃ τ, (F_X5_readSum n τ2).bind _ = some τ ∧ _
        rw [d1, Option.bind_some]
        show ∃ τ, (F_X5_emit n (enT (siT (sg B sz S.2.1) (alB B sz S.2.1))) τ3).bind _ = some τ ∧ _
        by_cases zq : (sumP B sz 61 0 0 (S.2.1 + alN2 (alB B sz S.2.1)) (S.2.2.1 + 1)).1 = 0
        · rw [if_pos zq] at hlt ⊢
          obtain ⟨j1, j2, j3, j4, j5, j6, j7, j8⟩ := sumP_ok 61 0 0 _ _ (Or.inl rfl) (Or.inl rfl) hal.2 (by omega) zq
          rw [show cO 0 = 0 from rfl] at j8
          obtain ⟨s2, e1, e2⟩ := d4 zq
          have hs := siT_ok (sg B sz S.2.1) (alB B sz S.2.1)
          have hne : ¬ enT (siT (sg B sz S.2.1) (alB B sz S.2.1)) = 0 := by
            have : ∀ t, t < 11 → 6 ≤ t → ¬ enT t = 0 := by decide +kernel
            exact this _ (by omega) hs.1
          obtain ⟨τ4, f1, f2, f3, f4⟩ := X_emit (n := n) e2 (by simp only [List.length_append, List.length_map]; omega) hne
          rw [f1]
          have t4 := TX_agr e1 f3 (by decide) (by decide)
          refine ⟨τ4, rfl, ax_trans a2 (ax_trans c2 (ax_trans d2 f4)), KX_SX f2 t4, fun _ => ⟨s2, t4, ?_⟩⟩
          simp only [pre]
          have lst : c ++ (S.2.2.2 ++ ((sumP B sz 61 0 0 (S.2.1 + alN2 (alB B sz S.2.1)) (S.2.2.1 + 1)).2.2.2 ++ [siT (sg B sz S.2.1) (alB B sz S.2.1)])).map enT = c ++ S.2.2.2.map enT ++ (sumP B sz 61 0 0 (S.2.1 + alN2 (alB B sz S.2.1)) (S.2.2.1 + 1)).2.2.2.map enT ++ [enT (siT (sg B sz S.2.1) (alB B sz S.2.1))] := by
            simp [List.append_assoc]
          show KX τ4 (c ++ (S.2.2.2 ++ ((sumP B sz 61 0 0 (S.2.1 + alN2 (alB B sz S.2.1)) (S.2.2.1 + 1)).2.2.2 ++ [siT (sg B sz S.2.1) (alB B sz S.2.1)])).map enT) _
          rw [lst]
          exact f2
        · rw [if_neg zq] at hlt ⊢
          obtain ⟨τ4, f1, f2, f3⟩ := X_emitF (n := n) (v := enT (siT (sg B sz S.2.1) (alB B sz S.2.1))) d3
          rw [f1]
          exact ⟨τ4, rfl, ax_trans a2 (ax_trans c2 (ax_trans d2 f3)), f2, fun z => absurd z zq⟩
    · rw [c1, Option.bind_some]
      unfold cmp2 at hlt ⊢
      rw [if_neg zs] at hlt ⊢
      have fne : ¬ nI (1 + 8 * S.2.1) = 0 := nI_ne0 (by omega) (by omega)
      show ∃ τ, (F_X5_readSum n τ2).bind _ = some τ ∧ _
      rw [X_sumF hn c3 fne, Option.bind_some]
      show ∃ τ, (F_X5_emit n 0 τ2).bind _ = some τ ∧ _
      rw [X_emit0]
      exact ⟨τ2, rfl, ax_trans a2 c2, c3, fun z => by simp [pre] at z⟩
  · rw [if_neg zz] at hlt ⊢
    have fne := nI_fault zz hsl
    obtain ⟨p1, s1, t1⟩ := a3.1
    have hs : F_X5_readSign n τ1 = some (0, τ1) := by
      unfold F_X5_readSign
      rw [t1.2.2.2.2.1, if_neg fne]
    rw [hs, Option.bind_some]
    show ∃ τ, (F_X5_readSum n τ1).bind _ = some τ ∧ _
    rw [X_sumF hn a3 fne, Option.bind_some]
    show ∃ τ, (F_X5_emit n 0 τ1).bind _ = some τ ∧ _
    rw [X_emit0]
    exact ⟨τ1, rfl, a2, a3, fun z => absurd z zz⟩
/-- the reference, behind its sign -/
theorem M_cmp105 (hn : 1000 ≤ n) (hB : ∀ i, byt (B i)) {r : Nat} (hr : r < 6) {p m w : Nat} {σ : PS} {c : List Nat} {x : Int32} {al : Bool} (hx : isSb x = true) (ht : TM σ B sz p 0) (hk : KM σ r c m) (hm : m ≤ 60) (hl : c.length + 2 ≤ p) : ∃ τ, J_X12_compare_105 n x (nI w) (if al = true then 1 else 0) σ = some (if m = 60 then 0 else if (sumP B sz 61 0 0 p (m + 1)).1 = 0 then 1 else 0, τ) ∧ am r σ τ ∧ τ.1 249 9 = nI (if m = 60 then 4 + 8 * w else (sumP B sz 61 0 0 p (m + 1)).1) ∧ (m ≠ 60 → (sumP B sz 61 0 0 p (m + 1)).1 = 0 → TM τ B sz (sumP B sz 61 0 0 p (m + 1)).2.1 0 ∧ KM τ r (c ++ (sumP B sz 61 0 0 p (m + 1)).2.2.2 ++ [siT x al]) (sumP B sz 61 0 0 p (m + 1)).2.2.1) := by
  have h400 := ht.2.2.2.2.2
  obtain ⟨τ1, a1, a2, a3, a4⟩ := M_makes (n := n) (w := w) hk ht hm
  unfold J_X12_compare_105
  rw [a1, Option.bind_some]
  by_cases z6 : m = 60
  · simp only [z6, if_true]
    rw [if_pos z6] at a2
    exact ⟨τ1, rfl, a4, a2.2.2.2.1, fun q => absurd rfl q⟩
  simp only [z6, if_false]
  rw [if_neg (by decide)]
  rw [if_neg z6] at a2
  obtain ⟨τ2, b1, b2, b3, b4⟩ := M_sum hn hB hr a2 (a3 z6) (by omega) (by omega)
  have fin : ∀ t : Nat, t = siT x al → ∃ τ, ((F_X12_sum n τ1).bind (fun q31 => if q31.1 = 0 then some ((0 : Int32), q31.2) else (F_X12_puts n (nI t) (nI 0) q31.2).bind (fun q34 => some ((1 : Int32), q34)))) = some (if (sumP B sz 61 0 0 p (m + 1)).1 = 0 then 1 else 0, τ) ∧ am r σ τ ∧ τ.1 249 9 = nI (sumP B sz 61 0 0 p (m + 1)).1 ∧ (¬ m = 60 → (sumP B sz 61 0 0 p (m + 1)).1 = 0 → TM τ B sz (sumP B sz 61 0 0 p (m + 1)).2.1 0 ∧ KM τ r (c ++ (sumP B sz 61 0 0 p (m + 1)).2.2.2 ++ [siT x al]) (sumP B sz 61 0 0 p (m + 1)).2.2.1) := by
    intro t e
    rw [b1, Option.bind_some]
    by_cases zq : (sumP B sz 61 0 0 p (m + 1)).1 = 0
    · simp only [zq, if_true]
      rw [if_neg (by decide)]
      obtain ⟨d1, d2⟩ := b4 zq
      obtain ⟨j1, j2, j3, j4, j5, j6, j7, j8⟩ := sumP_ok 61 0 0 p (m + 1) (Or.inl rfl) (Or.inl rfl) a2.2.2.2.2.1 (by omega) zq
      rw [show cO 0 = 0 from rfl] at j8
      obtain ⟨τ3, e1, e2, e3, e4⟩ := M_puts (n := n) hr (s := t) (v := 0) d2 (by rw [List.length_append]; omega)
      show ∃ τ, (F_X12_puts n (nI t) (nI 0) τ2).bind _ = some _ ∧ _
      rw [e1]
      have t3 := TM_ag d1 e3
      refine ⟨τ3, rfl, am_trans a4 (am_trans b2 e4), t3.2.2.2.1, fun _ _ => ⟨t3, ?_⟩⟩
      rw [← e]
      exact e2
    · simp only [zq, if_false, if_true]
      exact ⟨τ2, rfl, am_trans a4 b2, b3, fun _ z => z.elim⟩
  show ∃ τ, (if x = 60 then _ else if x = 61 then _ else _) = some _ ∧ _
  rcases (isSb_iff x).mp hx with q | q | q
  · subst q
    rw [if_pos rfl]
    cases al with
    | true => rw [if_neg (show ¬ (if (true : Bool) = true then (1 : Int32) else 0) = 0 by decide)]; exact fin 7 rfl
    | false => rw [if_pos (show (if (false : Bool) = true then (1 : Int32) else 0) = 0 by decide)]; exact fin 6 rfl
  · subst q
    rw [if_neg (by decide), if_pos rfl]
    exact fin 8 (by cases al <;> rfl)
  · subst q
    rw [if_neg (by decide), if_neg (by decide)]
    cases al with
    | true => rw [if_neg (show ¬ (if (true : Bool) = true then (1 : Int32) else 0) = 0 by decide)]; exact fin 9 rfl
    | false => rw [if_pos (show (if (false : Bool) = true then (1 : Int32) else 0) = 0 by decide)]; exact fin 10 rfl
theorem M_cmp44 {σ : PS} {e w : Nat} (ht : TM σ B sz e 0) (hx : isSb (sg B sz e) = true) : J_X12_compare_44 n (sg B sz e) (nI w) σ = J_X12_compare_105 n (sg B sz e) (nI w) (if alB B sz e = true then 1 else 0) (psI (psI σ 249 8 (nI (e + 1))) 249 8 (nI (e + alN2 (alB B sz e)))) := by
  have hlt := sg_in hx
  have h400 := ht.2.2.2.2.2
  unfold J_X12_compare_44
  have t2 := TM_p ht (p' := e + 1) (by omega)
  rw [ht.2.2.1, nI_p1, t2.2.1, t2.2.2.1, t2.1, nI_clamp (show e + 1 < 2 ^ 31 by omega), nI_p1]
  have self : psI (psI σ 249 8 (nI (e + 1))) 249 8 (nI (e + 1)) = psI σ 249 8 (nI (e + 1)) := by
    unfold psI
    congr 1
    funext a b
    by_cases z : a = 249 ∧ b = 8
    · simp [z]
    · simp [z]
  by_cases z61 : sg B sz e = 61
  · have hal : alB B sz e = false := by unfold alB; simp [z61]
    rw [hal, if_pos z61, if_pos rfl, show e + alN2 false = e + 1 from rfl, self]
    rfl
  rw [if_neg z61]
  by_cases ze : sz ≤ e + 1
  · have hal : alB B sz e = false := by unfold alB; rw [show decide (e + 1 < sz) = false from decide_eq_false (by omega)]; simp
    rw [hal, if_pos (nI_le ze (by omega)), if_pos rfl, show e + alN2 false = e + 1 from rfl, self]
    rfl
  · rw [if_neg (nI_ge (by omega) (by omega)), if_pos ⟨nI_pos' (by omega), by omega⟩]
    by_cases zb : B (e + 1) = 61
    · have hal : alB B sz e = true := by unfold alB; rw [show decide (e + 1 < sz) = true from decide_eq_true (by omega)]; simp [z61, zb]
      rw [hal, if_pos zb, if_neg (by decide)]
      rfl
    · have hal : alB B sz e = false := by unfold alB; rw [show decide (B (e + 1) = 61) = false from decide_eq_false zb]; simp
      rw [hal, if_neg zb, if_pos rfl, show e + alN2 false = e + 1 from rfl, self]
      rfl
theorem M_cmp (hn : 1000 ≤ n) (hB : ∀ i, byt (B i)) {r : Nat} (hr : r < 6) {p m : Nat} {σ : PS} {c : List Nat} (ht : TM σ B sz p 0) (hk : KM σ r c m) (hm : m ≤ 60) (hl : c.length + 1 ≤ p) : ∃ τ, F_X12_compare n σ = some (if (cmpP B sz p m).1 = 0 then 1 else 0, τ) ∧ am r σ τ ∧ τ.1 249 9 = nI (cmpP B sz p m).1 ∧ ((cmpP B sz p m).1 = 0 → TM τ B sz (cmpP B sz p m).2.1 0 ∧ KM τ r (c ++ (cmpP B sz p m).2.2.2) (cmpP B sz p m).2.2.1) := by
  have h400 := ht.2.2.2.2.2
  have hp := ht.2.2.2.2.1
  obtain ⟨τ1, a1, a2, a3, a4⟩ := M_sum hn hB hr ht hk hm hl
  unfold F_X12_compare
  rw [a1, Option.bind_some]
  unfold cmpP
  by_cases zz : (sumP B sz 61 0 0 p m).1 = 0
  · obtain ⟨i1, i2, i3, i4, i5, i6, i7, i8⟩ := sumP_ok 61 0 0 p m (Or.inl rfl) (Or.inl rfl) hp hm zz
    rw [show cO 0 = 0 from rfl] at i8
    obtain ⟨b1, b2⟩ := a4 zz
    simp only [zz, if_true]
    rw [if_neg (by decide)]
    generalize hS : sumP B sz 61 0 0 p m = S at *
    show ∃ τ, (F_X12_see n τ1).bind _ = some _ ∧ _
    rw [M_see' hn b1 i3, Option.bind_some]
    show ∃ τ, (if sg B sz S.2.1 = 60 then J_X12_compare_44 n (sg B sz S.2.1) (τ1.1 249 8) τ1 else if sg B sz S.2.1 = 61 then J_X12_compare_44 n (sg B sz S.2.1) (τ1.1 249 8) τ1 else if sg B sz S.2.1 = 62 then J_X12_compare_44 n (sg B sz S.2.1) (τ1.1 249 8) τ1 else (F_X12_fails n (nI 0) (τ1.1 249 8) τ1).bind _) = some _ ∧ _
    rw [b1.2.2.1]
    by_cases zs : isSb (sg B sz S.2.1) = true
    · have hlt2 := sg_in zs
      have hal := al_le (B := B) hlt2
      have a5 : agm [] [8] τ1 (psI (psI τ1 249 8 (nI (S.2.1 + 1))) 249 8 (nI (S.2.1 + alN2 (alB B sz S.2.1)))) := agm_trans (agm_fld (by simp)) (agm_fld (by simp))
      have t5 := TM_p (TM_p b1 (p' := S.2.1 + 1) (by omega)) (p' := S.2.1 + alN2 (alB B sz S.2.1)) hal.2
      obtain ⟨τ, c1, c2, c3, c4⟩ := M_cmp105 (x := sg B sz S.2.1) (al := alB B sz S.2.1) (w := S.2.1) hn hB hr zs t5 (KM_f b2 a5 (by decide) (by decide)) i4 (by rw [List.length_append]; omega)
      rw [← M_cmp44 b1 zs] at c1
      have hJ : (if sg B sz S.2.1 = 60 then J_X12_compare_44 n (sg B sz S.2.1) (nI S.2.1) τ1 else if sg B sz S.2.1 = 61 then J_X12_compare_44 n (sg B sz S.2.1) (nI S.2.1) τ1 else if sg B sz S.2.1 = 62 then J_X12_compare_44 n (sg B sz S.2.1) (nI S.2.1) τ1 else (F_X12_fails n (nI 0) (nI S.2.1) τ1).bind (fun q49 => (if q49.1 = 0 ∨ q49.1 = 1 then some (q49.1, q49.2) else none))) = J_X12_compare_44 n (sg B sz S.2.1) (nI S.2.1) τ1 := by
        by_cases q1 : sg B sz S.2.1 = 60
        · rw [if_pos q1]
        rw [if_neg q1]
        by_cases q2 : sg B sz S.2.1 = 61
        · rw [if_pos q2]
        rw [if_neg q2]
        by_cases q3 : sg B sz S.2.1 = 62
        · rw [if_pos q3]
        · rcases (isSb_iff _).mp zs with q | q | q <;> contradiction
      rw [hJ, c1]
      have x5 : am r σ τ := am_trans a2 (am_trans (am_f a5 (by simp)) c2)
      unfold cmp2
      simp only [pre]
      simp only [zs, if_true]
      by_cases z6 : S.2.2.1 = 60
      · simp only [z6, if_true] at c3 ⊢
        exact ⟨τ, by rw [if_neg (by omega)], x5, c3, fun z => by simp at z⟩
      · simp only [z6, if_false] at c3 ⊢
        by_cases zq : (sumP B sz 61 0 0 (S.2.1 + alN2 (alB B sz S.2.1)) (S.2.2.1 + 1)).1 = 0
        · obtain ⟨d1, d2⟩ := c4 z6 zq
          simp only [zq, if_true] at c3 ⊢
          refine ⟨τ, rfl, x5, c3, fun _ => ⟨d1, ?_⟩⟩
          rw [← List.append_assoc, ← List.append_assoc]
          exact d2
        · simp only [zq, if_false] at c3 ⊢
          exact ⟨τ, rfl, x5, c3, fun z => z.elim⟩
    · have q1 : ¬ sg B sz S.2.1 = 60 := fun q => zs ((isSb_iff _).mpr (Or.inl q))
      have q2 : ¬ sg B sz S.2.1 = 61 := fun q => zs ((isSb_iff _).mpr (Or.inr (Or.inl q)))
      have q3 : ¬ sg B sz S.2.1 = 62 := fun q => zs ((isSb_iff _).mpr (Or.inr (Or.inr q)))
      rw [if_neg q1, if_neg q2, if_neg q3]
      obtain ⟨τ, c1, c2, c3⟩ := M_fails0 (n := n) (w := S.2.1) (k := 0) b1
      rw [c1, Option.bind_some, if_pos (Or.inl rfl)]
      have hc : cmp2 B sz S.2.1 S.2.2.1 = (1 + 8 * S.2.1, 0, 0, []) := by unfold cmp2; rw [if_neg zs]
      rw [hc, show pre S.2.2.2 (1 + 8 * S.2.1, 0, 0, []) = (1 + 8 * S.2.1, 0, 0, S.2.2.2 ++ []) from rfl]
      exact ⟨τ, by rw [if_neg (show ¬ 1 + 8 * S.2.1 = 0 by omega)], am_trans a2 (am_f c3 (by simp)), c2.2.2.2.1, fun z => by simp at z⟩
  · simp only [zz, if_false, if_true]
    exact ⟨τ1, rfl, a2, a3, fun z => z.elim⟩
end CM
