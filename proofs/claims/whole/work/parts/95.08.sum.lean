/-! A sum is read, both sides. -/
def opt (t : Nat) : List Nat := if t = 0 then [] else [t]
def cO (t : Nat) : Nat := if t = 0 then 0 else 1
def muO (s : Int32) : Nat := if s = 42 then 4 else if s = 47 then 5 else if s = 37 then 14 else 0
def adO (s : Int32) : Nat := if s = 43 then 2 else if s = 45 then 3 else 0
def okA (t : Nat) : Prop := t = 0 ∨ t = 2 ∨ t = 3 ∨ t = 4 ∨ t = 5 ∨ t = 14
def enA (t : Nat) : Int32 := if t = 0 then 0 else enT t
abbrev PR : Type := Nat × Nat × Nat × List Nat
def pre (l : List Nat) (r : PR) : PR := (r.1, r.2.1, r.2.2.1, l ++ r.2.2.2)
def sE (B : Nat → Int32) (sz p : Nat) : Nat := sk B sz (vE B sz (sk B sz p))
def sumP (B : Nat → Int32) (sz : Nat) : Nat → Nat → Nat → Nat → Nat → PR
  | 0, _, _, _, _ => (1, 0, 0, [])
  | k + 1, a, mu, p, m => if vF B sz (sk B sz p) m = 0 then (if muO (sg B sz (sE B sz p)) = 0 then (if adO (sg B sz (sE B sz p)) = 0 then (0, sE B sz p, m + 1, vT B sz (sk B sz p) :: (opt mu ++ opt a)) else pre (vT B sz (sk B sz p) :: (opt mu ++ opt a)) (sumP B sz k (adO (sg B sz (sE B sz p))) 0 (sE B sz p + 1) (m + 1))) else pre (vT B sz (sk B sz p) :: opt mu) (sumP B sz k a (muO (sg B sz (sE B sz p))) (sE B sz p + 1) (m + 1))) else (vF B sz (sk B sz p) m, 0, 0, [])
def byt (x : Int32) : Prop := ∃ k, k < 256 ∧ x = (Int8.ofNat k).toInt32
theorem byt_sg0 : ∀ k, k < 256 → ∀ c ∈ [42, 47, 37, 43, 45, 91, 93], (Int8.ofNat k).toInt32 &&& 255 = nI c → (Int8.ofNat k).toInt32 = nI c := by decide +kernel
theorem byt_sg {x : Int32} (h : byt x) {c : Nat} (hc : c ∈ [42, 47, 37, 43, 45, 91, 93]) (hx : x &&& 255 = nI c) : x = nI c := by
  obtain ⟨k, hk, e⟩ := h
  subst e
  exact byt_sg0 k hk c hc hx
theorem sg_lt {B : Nat → Int32} {sz p : Nat} {x : Int32} (hx : ¬ x = -1) (h : sg B sz p = x) : p < sz ∧ B p &&& 255 = x := by
  unfold sg at h
  by_cases e : p < sz
  · rw [if_pos e] at h; exact ⟨e, h⟩
  · rw [if_neg e] at h; exact absurd h.symm hx
theorem muO_ok (s : Int32) : okA (muO s) := by
  unfold okA muO
  split
  · omega
  · split
    · omega
    · split <;> omega
theorem adO_ok (s : Int32) : okA (adO s) := by
  unfold okA adO
  split
  · omega
  · split <;> omega
theorem muO_lt {B : Nat → Int32} {sz p : Nat} (h : muO (sg B sz p) ≠ 0) : p < sz := by
  by_cases e : p < sz
  · exact e
  · exact absurd (show muO (sg B sz p) = 0 by unfold sg; rw [if_neg e]; decide) h
theorem adO_lt {B : Nat → Int32} {sz p : Nat} (h : adO (sg B sz p) ≠ 0) : p < sz := by
  by_cases e : p < sz
  · exact e
  · exact absurd (show adO (sg B sz p) = 0 by unfold sg; rw [if_neg e]; decide) h
theorem opt_len (t : Nat) : (opt t).length = cO t := by
  unfold opt cO; split <;> rfl
theorem cO_le (t : Nat) : cO t ≤ 1 := by unfold cO; split <;> omega
theorem cO_pos {t : Nat} (h : t ≠ 0) : cO t = 1 := by unfold cO; rw [if_neg h]
theorem sE_ge {B : Nat → Int32} {sz p m : Nat} (h : vF B sz (sk B sz p) m = 0) : p < vE B sz (sk B sz p) ∧ vE B sz (sk B sz p) ≤ sE B sz p := by
  have h1 := vE_gt h
  have h2 := sk_ge B sz p
  have h3 := sk_ge B sz (vE B sz (sk B sz p))
  unfold sE
  omega
theorem sE_le {B : Nat → Int32} {sz p : Nat} (h : p ≤ sz) : vE B sz (sk B sz p) ≤ sz ∧ sE B sz p ≤ sz := by
  have := vE_le (B := B) (sk_le (B := B) h)
  exact ⟨this, sk_le this⟩
/-- what is read of a sum -/
theorem tyc_op {t k : Nat} (ht : okA t) (h0 : t ≠ 0) : tyc [t] (List.replicate (k + 2) false) = some (List.replicate (k + 1) false) := by
  unfold okA at ht
  have e : ty1 t (List.replicate (k + 2) false) = some (List.replicate (k + 1) false) := by
    unfold ty1
    rw [if_neg (by omega), if_neg (by omega), if_neg (by omega), if_pos (by simp)]
    have : decide (6 ≤ t % 16 ∧ t % 16 ≤ 10) = false := decide_eq_false (by omega)
    rw [this]
    rfl
  simp only [tyc, e, Option.bind_some]
theorem tyc_opt {t k : Nat} (ht : okA t) : tyc (opt t) (List.replicate (k + cO t + 1) false) = some (List.replicate (k + 1) false) := by
  unfold opt cO
  by_cases h : t = 0
  · rw [if_pos h, if_pos h]; rfl
  · rw [if_neg h, if_neg h]; exact tyc_op ht h
theorem tyc_val {v : Nat} (hv : v % 16 ≤ 1) (s : List Bool) : tyc [v] s = some (false :: s) := by
  simp only [tyc]
  unfold ty1
  rw [if_pos (by omega)]
  rfl
theorem okA_okT {t : Nat} (h : okA t) (h0 : t ≠ 0) : okT t ∧ ¬ t % 16 ≤ 1 := by
  unfold okA at h
  unfold okT
  omega
theorem opt_ok {t : Nat} (h : okA t) : (∀ x ∈ opt t, okT x) ∧ nvl (opt t) = 0 := by
  unfold opt
  by_cases e : t = 0
  · rw [if_pos e]; exact ⟨by simp, rfl⟩
  · rw [if_neg e]
    have := okA_okT h e
    refine ⟨by simpa using this.1, ?_⟩
    simp only [nvl]
    rw [if_neg this.2]
theorem sumP_ok {B : Nat → Int32} {sz : Nat} : ∀ (k a mu p m : Nat), okA a → okA mu → p ≤ sz → m ≤ 60 → (sumP B sz k a mu p m).1 = 0 → p < (sumP B sz k a mu p m).2.1 ∧ (sumP B sz k a mu p m).2.1 ≤ sz ∧ sk B sz (sumP B sz k a mu p m).2.1 = (sumP B sz k a mu p m).2.1 ∧ (sumP B sz k a mu p m).2.2.1 ≤ 60 ∧ (∀ t ∈ (sumP B sz k a mu p m).2.2.2, okT t) ∧ tyc (sumP B sz k a mu p m).2.2.2 (List.replicate (cO a + cO mu) false) = some [false] ∧ nvl (sumP B sz k a mu p m).2.2.2 + m = (sumP B sz k a mu p m).2.2.1 ∧ (sumP B sz k a mu p m).2.2.2.length + p ≤ (sumP B sz k a mu p m).2.1 + cO a + cO mu
  | 0, a, mu, p, m, ha, hmu, hp, hm, h => by simp [sumP] at h
  | k + 1, a, mu, p, m, ha, hmu, hp, hm, h => by
    unfold sumP at h ⊢
    by_cases e : vF B sz (sk B sz p) m = 0
    · rw [if_pos e] at h ⊢
      have hv := vT_ok e
      have h60 : m ≠ 60 := by
        intro z
        unfold vF at e
        rw [z] at e
        split at e
        · split at e
          · omega
          · simp at e
        · split at e
          · simp at e
          · omega
      have hse := sE_ge e
      have hsl := sE_le (B := B) hp
      have hid : sk B sz (sE B sz p) = sE B sz p := sk_idem hsl.1
      have t1 : tyc [vT B sz (sk B sz p)] (List.replicate (cO a + cO mu) false) = some (List.replicate (cO a + cO mu + 1) false) := tyc_val hv.2 _
      have t2 := tyc_opt (t := mu) (k := cO a) hmu
      have t3 := tyc_opt (t := a) (k := 0) ha
      rw [Nat.zero_add] at t3
      have o1 := opt_ok ha
      have o2 := opt_ok hmu
      have l1 := opt_len a
      have l2 := opt_len mu
      by_cases em : muO (sg B sz (sE B sz p)) = 0
      · rw [if_pos em] at h ⊢
        have t4 : tyc (vT B sz (sk B sz p) :: (opt mu ++ opt a)) (List.replicate (cO a + cO mu) false) = some [false] := by
          rw [show vT B sz (sk B sz p) :: (opt mu ++ opt a) = [vT B sz (sk B sz p)] ++ (opt mu ++ opt a) from rfl, tyc_app, t1, Option.bind_some, tyc_app, t2, Option.bind_some, t3]
          rfl
        have n4 : nvl (vT B sz (sk B sz p) :: (opt mu ++ opt a)) = 1 := by
          simp only [nvl, nvl_app, o1.2, o2.2]
          rw [if_pos hv.2]
        have k4 : ∀ t ∈ vT B sz (sk B sz p) :: (opt mu ++ opt a), okT t := by
          intro t ht
          rcases List.mem_cons.mp ht with z | z
          · rw [z]; exact hv.1
          · rcases List.mem_append.mp z with z | z
            · exact o2.1 t z
            · exact o1.1 t z
        by_cases ea : adO (sg B sz (sE B sz p)) = 0
        · rw [if_pos ea]
          refine ⟨by show p < sE B sz p; omega, hsl.2, hid, by show m + 1 ≤ 60; omega, k4, t4, by rw [n4]; show 1 + m = m + 1; omega, ?_⟩
          show (vT B sz (sk B sz p) :: (opt mu ++ opt a)).length + p ≤ sE B sz p + cO a + cO mu
          simp only [List.length_cons, List.length_append]
          omega
        · rw [if_neg ea] at h ⊢
          have hlt := adO_lt ea
          have ih := sumP_ok k (adO (sg B sz (sE B sz p))) 0 (sE B sz p + 1) (m + 1) (adO_ok _) (Or.inl rfl) (by omega) (by omega) h
          obtain ⟨i1, i2, i3, i4, i5, i6, i7, i8⟩ := ih
          have cc : cO (adO (sg B sz (sE B sz p))) = 1 := cO_pos ea
          have c0 : cO 0 = 0 := rfl
          rw [cc, c0] at i6 i8
          simp only [pre]
          refine ⟨by show p < _; omega, i2, i3, i4, ?_, ?_, ?_, ?_⟩
          · intro t ht
            rcases List.mem_append.mp ht with z | z
            · exact k4 t z
            · exact i5 t z
          · show tyc (_ ++ _) _ = _
            rw [tyc_app, t4, Option.bind_some]
            exact i6
          · show nvl (_ ++ _) + m = _
            rw [nvl_app, n4]
            omega
          · skip
            simp only [List.length_append, List.length_cons]
            omega
      · rw [if_neg em] at h ⊢
        have hlt := muO_lt em
        have ih := sumP_ok k a (muO (sg B sz (sE B sz p))) (sE B sz p + 1) (m + 1) ha (muO_ok _) (by omega) (by omega) h
        obtain ⟨i1, i2, i3, i4, i5, i6, i7, i8⟩ := ih
        have cc : cO (muO (sg B sz (sE B sz p))) = 1 := cO_pos em
        rw [cc] at i6 i8
        simp only [pre]
        refine ⟨by show p < _; omega, i2, i3, i4, ?_, ?_, ?_, ?_⟩
        · intro t ht
          rcases List.mem_append.mp ht with z | z
          · rcases List.mem_cons.mp z with z | z
            · rw [z]; exact hv.1
            · exact o2.1 t z
          · exact i5 t z
        · show tyc (_ ++ _) _ = _
          rw [tyc_app, show vT B sz (sk B sz p) :: opt mu = [vT B sz (sk B sz p)] ++ opt mu from rfl, tyc_app, t1, Option.bind_some, t2, Option.bind_some]
          exact i6
        · show nvl (_ ++ _) + m = _
          rw [nvl_app]
          simp only [nvl, o2.2]
          rw [if_pos hv.2]
          omega
        · skip
          simp only [List.length_append, List.length_cons]
          omega
    · rw [if_neg e] at h
      exact absurd h e
section SS
variable {n : Nat} {B : Nat → Int32} {sz : Nat}
theorem X_ofMul (x : Int32) (σ : PS) : F_X3_ofMultiplying n x σ = some (enA (muO x), σ) := by
  unfold F_X3_ofMultiplying muO
  by_cases e1 : x = 42
  · subst e1; rfl
  by_cases e2 : x = 47
  · subst e2; rfl
  by_cases e3 : x = 37
  · subst e3; rfl
  rw [if_neg e1, if_neg e2, if_neg e3, if_neg e3, if_neg e1, if_neg e2]
  rfl
theorem X_ofAdd (x : Int32) (σ : PS) : F_X3_ofAdding n x σ = some (enA (adO x), σ) := by
  unfold F_X3_ofAdding adO
  by_cases e1 : x = 43
  · subst e1; rfl
  by_cases e2 : x = 45
  · subst e2; rfl
  rw [if_neg e1, if_neg e2, if_neg e1, if_neg e2]
  rfl
theorem enA_ne {t : Nat} (h : okA t) (h0 : t ≠ 0) : ¬ enA t = 0 := by
  unfold okA at h
  rcases h with e | e | e | e | e | e
  · exact absurd e h0
  all_goals subst e; decide
theorem enA_0 {t : Nat} (h : okA t) : enA t = 0 ↔ t = 0 := ⟨fun z => by
  by_cases q : t = 0
  · exact q
  · exact absurd z (enA_ne h q), fun z => by rw [z]; rfl⟩
theorem X_emitO {σ : PS} {c : List Int32} {m t : Nat} (h : KX σ c m) (ht : okA t) (hl : c.length + cO t ≤ 400) : ∃ τ, F_X5_emit n (enA t) σ = some τ ∧ KX τ (c ++ (opt t).map enT) m ∧ agr [4, 5] σ τ ∧ ax σ τ := by
  by_cases e : t = 0
  · subst e
    refine ⟨σ, X_emit0, ?_, agr_refl, ax_refl⟩
    rw [show (opt 0).map enT = [] from rfl, List.append_nil]
    exact h
  · have := X_emit (n := n) h (by rw [cO_pos e] at hl; omega) (enA_ne ht e)
    have e2 : (opt t).map enT = [enA t] := by unfold opt enA; rw [if_neg e, if_neg e]; rfl
    rw [e2]
    exact this
/-- the class reads a sum -/
theorem X_sum6 (hn : 1000 ≤ n) : ∀ (k kf a mu p m x3 : Nat) (σ : PS) (c : List Int32) (s : Nat), TX σ B sz p s 0 → KX σ c m → m ≤ 60 → x3 ≤ m → k ≤ kf → 60 < k + m → okA a → okA mu → c.length + cO a + cO mu + 1 ≤ p → ∃ e τ, L_X5_readSum_6 n kf (enA a) (enA mu) (nI x3) σ = some (e, τ) ∧ ax σ τ ∧ SX τ B sz (nI (sumP B sz k a mu p m).1) ∧ ((sumP B sz k a mu p m).1 = 0 → ∃ s', TX τ B sz (sumP B sz k a mu p m).2.1 s' 0 ∧ KX τ (c ++ (sumP B sz k a mu p m).2.2.2.map enT) (sumP B sz k a mu p m).2.2.1)
  | 0, kf, a, mu, p, m, x3, σ, c, s, ht, hk, hm, hx, hf, h60, ha, hmu, hl => by omega
  | k + 1, 0, a, mu, p, m, x3, σ, c, s, ht, hk, hm, hx, hf, h60, ha, hmu, hl => by omega
  | k + 1, kf + 1, a, mu, p, m, x3, σ, c, s, ht, hk, hm, hx, hf, h60, ha, hmu, hl => by
    have h400 := ht.2.2.2.2.2.2.2
    have hp := ht.2.2.2.2.2.2.1
    obtain ⟨τ1, a1, a2, a3, a4⟩ := X_value hn ht hk hm (by omega)
    rw [L_X5_readSum_6, if_neg (show ¬ (60 : Int32) < nI x3 from nI_nlt (show x3 ≤ 60 by omega) (by decide)), a1, Option.bind_some]
    unfold sumP
    by_cases e : vF B sz (sk B sz p) m = 0
    · simp only [e, if_true]
      rw [if_neg (by decide)]
      have h59 : m ≠ 60 := by
        intro z
        rw [z] at e
        unfold vF at e
        split at e
        · split at e
          · omega
          · simp at e
        · split at e
          · simp at e
          · omega
      obtain ⟨s1, b1, b2⟩ := a3 e
      have hse := sE_ge e
      have hsl := sE_le (B := B) hp
      obtain ⟨τ2, c1, c2, c3, c4⟩ := X_emitO (n := n) b2 hmu (by simp only [List.length_append, List.length_cons, List.length_nil]; omega)
      show ∃ e τ, (F_X5_emit n (enA mu) τ1).bind _ = some (e, τ) ∧ _
      rw [c1, Option.bind_some]
      have t2 := TX_agr b1 c3 (by decide) (by decide)
      obtain ⟨τ3, d1, d2, d3, d4⟩ := X_peek hn t2
      rw [d1, Option.bind_some]
      have k3 := KX_1 c2 d4
      have x3' : ax σ τ3 := ax_trans a4 (ax_trans c4 (ax_1 d4))
      show ∃ e τ, (F_X3_ofMultiplying n (sg B sz (sE B sz p)) τ3).bind _ = some (e, τ) ∧ _
      have d2' : TX τ3 B sz (sE B sz p) s1 0 := d2
      rw [X_ofMul, Option.bind_some]
      have lc : ((c ++ [enT (vT B sz (sk B sz p))]) ++ (opt mu).map enT).length = c.length + 1 + cO mu := by
        simp only [List.length_append, List.length_cons, List.length_nil, List.length_map, opt_len]
      by_cases em : muO (sg B sz (sE B sz p)) = 0
      · simp only [em, if_true]
        rw [if_pos (show enA 0 = 0 from rfl)]
        obtain ⟨τ4, e1, e2, e3, e4⟩ := X_emitO (n := n) k3 ha (by rw [lc]; omega)
        show ∃ e τ, (F_X5_emit n (enA a) τ3).bind _ = some (e, τ) ∧ _
        rw [e1, Option.bind_some]
        have t4 := TX_agr d2' e3 (by decide) (by decide)
        have x4 := ax_trans x3' e4
        show ∃ e τ, (F_X3_ofAdding n (sg B sz (sE B sz p)) τ4).bind _ = some (e, τ) ∧ _
        rw [X_ofAdd, Option.bind_some]
        have lst : c ++ [enT (vT B sz (sk B sz p))] ++ (opt mu).map enT ++ (opt a).map enT = c ++ (vT B sz (sk B sz p) :: (opt mu ++ opt a)).map enT := by
          simp [List.append_assoc]
        rw [lst] at e2
        by_cases ea : adO (sg B sz (sE B sz p)) = 0
        · simp only [ea, if_true]
          rw [if_pos (show enA 0 = 0 from rfl)]
          exact ⟨_, _, rfl, x4, KX_SX e2 t4, fun _ => ⟨s1, t4, e2⟩⟩
        · simp only [ea, if_false]
          have hlt := adO_lt ea
          rw [if_neg (enA_ne (adO_ok _) ea), t4.2.2.1, nI_p1, nI_1]
          have t5 := TX_p t4 (p' := sE B sz p + 1) (by have := t4.2.2.2.2.2.1; omega) (by omega)
          have a5 : agr [1] τ4 (psI τ4 1 2 (nI (sE B sz p + 1))) := agr_psI (by simp)
          obtain ⟨e, τ, f1, f2, f3, f4⟩ := X_sum6 hn k kf (adO (sg B sz (sE B sz p))) 0 (sE B sz p + 1) (m + 1) (x3 + 1) _ _ s1 t5 (KX_1 e2 a5) (by omega) (by omega) (by omega) (by omega) (adO_ok _) (Or.inl rfl) (by rw [cO_pos ea, show cO 0 = 0 from rfl]; simp only [List.length_append, List.length_map, List.length_cons, opt_len]; omega)
          refine ⟨e, τ, f1, ax_trans x4 (ax_trans (ax_1 a5) f2), f3, fun z => ?_⟩
          obtain ⟨s', g1, g2⟩ := f4 z
          refine ⟨s', g1, ?_⟩
          simp only [pre]
          rw [List.map_append, ← List.append_assoc]
          exact g2
      · simp only [em, if_false]
        have hlt := muO_lt em
        rw [if_neg (enA_ne (muO_ok _) em), d2'.2.2.1, nI_p1, nI_1]
        have t5 := TX_p d2' (p' := sE B sz p + 1) (by have := d2'.2.2.2.2.2.1; omega) (by omega)
        have a5 : agr [1] τ3 (psI τ3 1 2 (nI (sE B sz p + 1))) := agr_psI (by simp)
        have lst : c ++ [enT (vT B sz (sk B sz p))] ++ (opt mu).map enT = c ++ (vT B sz (sk B sz p) :: opt mu).map enT := by
          simp [List.append_assoc]
        obtain ⟨e, τ, f1, f2, f3, f4⟩ := X_sum6 hn k kf a (muO (sg B sz (sE B sz p))) (sE B sz p + 1) (m + 1) (x3 + 1) _ _ s1 t5 (KX_1 k3 a5) (by omega) (by omega) (by omega) (by omega) ha (muO_ok _) (by rw [cO_pos em, lc]; omega)
        refine ⟨e, τ, f1, ax_trans x3' (ax_trans (ax_1 a5) f2), f3, fun z => ?_⟩
        obtain ⟨s', g1, g2⟩ := f4 z
        refine ⟨s', g1, ?_⟩
        rw [lst] at g2
        simp only [pre]
        rw [List.map_append, ← List.append_assoc]
        exact g2
    · simp only [e, if_false, if_true]
      exact ⟨_, _, rfl, a4, a2, fun z => z.elim⟩
theorem X_sum (hn : 1000 ≤ n) {p m s : Nat} {σ : PS} {c : List Int32} (ht : TX σ B sz p s 0) (hk : KX σ c m) (hm : m ≤ 60) (hl : c.length + 1 ≤ p) : ∃ τ, F_X5_readSum n σ = some τ ∧ ax σ τ ∧ SX τ B sz (nI (sumP B sz 61 0 0 p m).1) ∧ ((sumP B sz 61 0 0 p m).1 = 0 → ∃ s', TX τ B sz (sumP B sz 61 0 0 p m).2.1 s' 0 ∧ KX τ (c ++ (sumP B sz 61 0 0 p m).2.2.2.map enT) (sumP B sz 61 0 0 p m).2.2.1) := by
  obtain ⟨e, τ, a, b, d, g⟩ := X_sum6 hn 61 n 0 0 p m 0 σ c s ht hk hm (by omega) (by omega) (by omega) (Or.inl rfl) (Or.inl rfl) (by rw [show cO 0 = 0 from rfl]; omega)
  unfold F_X5_readSum
  show ∃ τ, (L_X5_readSum_6 n n (enA 0) (enA 0) (nI 0) σ).bind _ = some τ ∧ _
  rw [a, Option.bind_some]
  refine ⟨τ, ?_, b, d, g⟩
  split <;> rfl
/-- behind a fault no sum is read -/
theorem X_sumF (hn : 1000 ≤ n) {f : Int32} {σ : PS} (h : SX σ B sz f) (hf : ¬ f = 0) : F_X5_readSum n σ = some σ := by
  obtain ⟨p, s, ht⟩ := h.1
  unfold F_X5_readSum
  obtain ⟨k, hk⟩ : ∃ k, n = k + 1 := ⟨n - 1, by omega⟩
  have hv : F_X5_readValue n σ = some (0, σ) := by
    unfold F_X5_readValue
    rw [ht.2.2.2.2.1, if_neg hf]
  have e : L_X5_readSum_6 n n 0 0 0 σ = some (1, σ) := by
    rw [show L_X5_readSum_6 n n 0 0 0 σ = L_X5_readSum_6 n (k + 1) 0 0 0 σ by rw [← hk], L_X5_readSum_6, if_neg (by decide), hv, Option.bind_some, if_pos rfl]
  rw [e]
  rfl
def putO (n a : Nat) (σ : PS) : Option PS := if a = 0 then some σ else F_X12_puts n (nI a) (nI 0) σ
def cT (n kt ks a : Nat) (σ : PS) : Option (Nat × PS) := (L_X12_term_9 n kt σ).bind (fun o => if o.1 = 0 then some (0, o.2) else (putO n a o.2).bind (fun q => L_X12_sum_9 n ks q))
def cV (n kt ks a mu : Nat) (σ : PS) : Option (Nat × PS) := (F_X12_value n σ).bind (fun q => if q.1 = 0 then some (0, q.2) else (putO n mu q.2).bind (fun q2 => cT n kt ks a q2))
theorem M_putO {σ : PS} {r : Nat} (hr : r < 6) {c : List Nat} {m t : Nat} (h : KM σ r c m) (ht : okA t) (hl : c.length + cO t ≤ 400) : ∃ τ, putO n t σ = some τ ∧ KM τ r (c ++ opt t) m ∧ agm [251, 252] [] σ τ ∧ am r σ τ := by
  unfold putO
  by_cases e : t = 0
  · rw [if_pos e, e]
    exact ⟨σ, rfl, by rw [show opt 0 = [] from rfl, List.append_nil]; exact h, agm_refl, am_refl⟩
  · rw [if_neg e]
    have := M_puts (n := n) hr (s := t) (v := 0) h (by rw [cO_pos e] at hl; omega)
    rw [show opt t = [t + 16 * 0] by unfold opt; rw [if_neg e]; rfl]
    exact this
theorem M_term_stop (hn : 1000 ≤ n) {k e : Nat} {σ : PS} (ht : TM σ B sz e 0) (hs : sk B sz e = e) (h : muO (sg B sz e) = 0) : L_X12_term_9 n (k + 1) σ = some (1, σ) := by
  have n1 : ¬ sg B sz e = 42 := fun q => by rw [q] at h; exact absurd h (by decide)
  have n2 : ¬ sg B sz e = 47 := fun q => by rw [q] at h; exact absurd h (by decide)
  have n3 : ¬ sg B sz e = 37 := fun q => by rw [q] at h; exact absurd h (by decide)
  rw [L_X12_term_9]
  simp only [M_see' hn ht hs, Option.bind_some]
  rw [if_neg n1, if_neg n2, if_neg n3]
theorem M_term_go (hn : 1000 ≤ n) (hB : ∀ i, byt (B i)) {k ks a e : Nat} {σ : PS} (ht : TM σ B sz e 0) (hs : sk B sz e = e) (h : muO (sg B sz e) ≠ 0) : cT n (k + 1) ks a σ = cV n k ks a (muO (sg B sz e)) (psI σ 249 8 (nI (e + 1))) := by
  have h400 := ht.2.2.2.2.2
  have hlt := muO_lt h
  have hcase : (B e = 42 ∧ sg B sz e = 42) ∨ (B e = 47 ∧ sg B sz e = 47) ∨ (B e = 37 ∧ sg B sz e = 37) := by
    have hsg : sg B sz e = B e &&& 255 := by unfold sg; rw [if_pos hlt]
    by_cases e1 : sg B sz e = 42
    · exact Or.inl ⟨byt_sg (hB e) (c := 42) (by decide) (by rw [← hsg]; exact e1), e1⟩
    by_cases e2 : sg B sz e = 47
    · exact Or.inr (Or.inl ⟨byt_sg (hB e) (c := 47) (by decide) (by rw [← hsg]; exact e2), e2⟩)
    by_cases e3 : sg B sz e = 37
    · exact Or.inr (Or.inr ⟨byt_sg (hB e) (c := 37) (by decide) (by rw [← hsg]; exact e3), e3⟩)
    exact absurd (by unfold muO; rw [if_neg e1, if_neg e2, if_neg e3]) h
  have step : L_X12_term_9 n (k + 1) σ = (F_X12_value n (psI σ 249 8 (nI (e + 1)))).bind (fun q => if q.1 = 0 then some (0, q.2) else (F_X12_puts n (nI (muO (sg B sz e))) (nI 0) q.2).bind (fun q2 => L_X12_term_9 n k q2)) := by
    rw [L_X12_term_9]
    simp only [M_see' hn ht hs, Option.bind_some, ht.2.2.1, nI_clamp (show e < 2 ^ 31 by omega), ht.1, nI_p1]
    have g : (0 ≤ nI e ∧ e < 400) := ⟨nI_pos' (by omega), by omega⟩
    rcases hcase with ⟨q1, q2⟩ | ⟨q1, q2⟩ | ⟨q1, q2⟩
    · rw [q1, q2, if_pos rfl, if_pos g, if_pos rfl]; rfl
    · rw [q1, q2, if_neg (by decide), if_pos rfl, if_pos g, if_neg (by decide), if_pos rfl]; rfl
    · rw [q1, q2, if_neg (by decide), if_neg (by decide), if_pos rfl, if_pos g, if_neg (by decide), if_neg (by decide)]; rfl
  unfold cT cV
  rw [step, Option.bind_assoc]
  congr 1
  funext q
  by_cases z : q.1 = 0
  · rw [if_pos z, if_pos z]; rfl
  · rw [if_neg z, if_neg z, Option.bind_assoc]
    unfold putO cT
    rw [if_neg h]
    rfl
theorem M_sum_stop (hn : 1000 ≤ n) {k e : Nat} {σ : PS} (ht : TM σ B sz e 0) (hs : sk B sz e = e) (h : adO (sg B sz e) = 0) : L_X12_sum_9 n (k + 1) σ = some (1, σ) := by
  have n1 : ¬ sg B sz e = 43 := fun q => by rw [q] at h; exact absurd h (by decide)
  have n2 : ¬ sg B sz e = 45 := fun q => by rw [q] at h; exact absurd h (by decide)
  rw [L_X12_sum_9]
  simp only [M_see' hn ht hs, Option.bind_some]
  rw [if_neg n1, if_neg n2]
theorem M_sum_go (hn : 1000 ≤ n) (hB : ∀ i, byt (B i)) {k e : Nat} {σ : PS} (ht : TM σ B sz e 0) (hs : sk B sz e = e) (h : adO (sg B sz e) ≠ 0) : L_X12_sum_9 n (k + 1) σ = cV n n k (adO (sg B sz e)) 0 (psI σ 249 8 (nI (e + 1))) := by
  have h400 := ht.2.2.2.2.2
  have hlt := adO_lt h
  have hcase : (B e = 43 ∧ sg B sz e = 43) ∨ (B e = 45 ∧ sg B sz e = 45) := by
    have hsg : sg B sz e = B e &&& 255 := by unfold sg; rw [if_pos hlt]
    by_cases e1 : sg B sz e = 43
    · exact Or.inl ⟨byt_sg (hB e) (c := 43) (by decide) (by rw [← hsg]; exact e1), e1⟩
    by_cases e2 : sg B sz e = 45
    · exact Or.inr ⟨byt_sg (hB e) (c := 45) (by decide) (by rw [← hsg]; exact e2), e2⟩
    exact absurd (by unfold adO; rw [if_neg e1, if_neg e2]) h
  have step : L_X12_sum_9 n (k + 1) σ = (F_X12_term n (psI σ 249 8 (nI (e + 1)))).bind (fun q => if q.1 = 0 then some (0, q.2) else (F_X12_puts n (nI (adO (sg B sz e))) (nI 0) q.2).bind (fun q2 => L_X12_sum_9 n k q2)) := by
    rw [L_X12_sum_9]
    simp only [M_see' hn ht hs, Option.bind_some, ht.2.2.1, nI_clamp (show e < 2 ^ 31 by omega), ht.1, nI_p1]
    have g : (0 ≤ nI e ∧ e < 400) := ⟨nI_pos' (by omega), by omega⟩
    rcases hcase with ⟨q1, q2⟩ | ⟨q1, q2⟩
    · rw [q1, q2, if_pos rfl, if_pos g, if_pos rfl]; rfl
    · rw [q1, q2, if_neg (by decide), if_pos rfl, if_pos g, if_neg (by decide)]; rfl
  rw [step]
  unfold F_X12_term cV
  rw [Option.bind_assoc]
  congr 1
  funext q
  by_cases z : q.1 = 0
  · rw [if_pos z, if_pos z]; rfl
  · rw [if_neg z, if_neg z, Option.bind_assoc]
    unfold putO
    rw [if_pos rfl, Option.bind_some]
    unfold cT putO
    congr 1
    funext o
    by_cases w : o.1 = 0
    · rw [if_pos w, if_pos w]; rfl
    · rw [if_neg w, if_neg w, if_neg h]; rfl
/-- the reference reads a sum -/
theorem M_sumV (hn : 1000 ≤ n) (hB : ∀ i, byt (B i)) {r : Nat} (hr : r < 6) : ∀ (k kt ks a mu p m : Nat) (σ : PS) (c : List Nat), TM σ B sz p 0 → KM σ r c m → m ≤ 60 → k ≤ kt → k ≤ ks → 60 < k + m → k ≤ 61 → okA a → okA mu → c.length + cO a + cO mu + 1 ≤ p → ∃ τ, cV n kt ks a mu σ = some (if (sumP B sz k a mu p m).1 = 0 then 1 else 0, τ) ∧ am r σ τ ∧ τ.1 249 9 = nI (sumP B sz k a mu p m).1 ∧ ((sumP B sz k a mu p m).1 = 0 → TM τ B sz (sumP B sz k a mu p m).2.1 0 ∧ KM τ r (c ++ (sumP B sz k a mu p m).2.2.2) (sumP B sz k a mu p m).2.2.1)
  | 0, kt, ks, a, mu, p, m, σ, c, ht, hk, hm, hf, hf2, h60, h61, ha, hmu, hl => by omega
  | k + 1, 0, ks, a, mu, p, m, σ, c, ht, hk, hm, hf, hf2, h60, h61, ha, hmu, hl => by omega
  | k + 1, kt + 1, 0, a, mu, p, m, σ, c, ht, hk, hm, hf, hf2, h60, h61, ha, hmu, hl => by omega
  | k + 1, kt + 1, ks + 1, a, mu, p, m, σ, c, ht, hk, hm, hf, hf2, h60, h61, ha, hmu, hl => by
    have h400 := ht.2.2.2.2.2
    have hp := ht.2.2.2.2.1
    obtain ⟨τ1, a1, a2, a3, a4⟩ := M_value hn hr ht hk hm (by omega)
    unfold cV
    rw [a1, Option.bind_some]
    unfold sumP
    by_cases e : vF B sz (sk B sz p) m = 0
    · simp only [e, if_true]
      rw [if_neg (by decide)]
      have h59 : m ≠ 60 := by
        intro z
        rw [z] at e
        unfold vF at e
        split at e
        · split at e
          · omega
          · simp at e
        · split at e
          · simp at e
          · omega
      obtain ⟨b1, b2⟩ := a3 e
      have hse := sE_ge e
      have hsl := sE_le (B := B) hp
      obtain ⟨τ2, c1, c2, c3, c4⟩ := M_putO (n := n) hr b2 hmu (by simp only [List.length_append, List.length_cons, List.length_nil]; omega)
      rw [c1, Option.bind_some]
      have t2 := TM_ag b1 c3
      obtain ⟨τ3, d1, d2, d3⟩ := M_see hn t2
      have d2' : TM τ3 B sz (sE B sz p) 0 := d2
      have hid : sk B sz (sE B sz p) = sE B sz p := sk_idem hsl.1
      have k3 := KM_f c2 d3 (by decide) (by decide)
      have x3 : am r σ τ3 := am_trans a4 (am_trans c4 (am_f d3 (by simp)))
      -- the loops see the same from behind the blanks
      have hsee : cT n (kt + 1) (ks + 1) a τ2 = cT n (kt + 1) (ks + 1) a τ3 := by
        unfold cT
        have : L_X12_term_9 n (kt + 1) τ2 = L_X12_term_9 n (kt + 1) τ3 := by
          rw [L_X12_term_9, L_X12_term_9, d1, M_see' hn d2' hid]
          rfl
        rw [this]
      rw [hsee]
      have lc : (c ++ [vT B sz (sk B sz p)] ++ opt mu).length = c.length + 1 + cO mu := by
        simp only [List.length_append, List.length_cons, List.length_nil, opt_len]
      by_cases em : muO (sg B sz (sE B sz p)) = 0
      · simp only [em, if_true]
        unfold cT
        rw [M_term_stop hn d2' hid em, Option.bind_some, if_neg (show ¬ (1 : Nat) = 0 by decide)]
        obtain ⟨τ4, e1, e2, e3, e4⟩ := M_putO (n := n) hr k3 ha (by rw [lc]; omega)
        rw [e1, Option.bind_some]
        have t4 := TM_ag d2' e3
        have x4 := am_trans x3 e4
        have lst : c ++ [vT B sz (sk B sz p)] ++ opt mu ++ opt a = c ++ (vT B sz (sk B sz p) :: (opt mu ++ opt a)) := by
          simp [List.append_assoc]
        rw [lst] at e2
        by_cases ea : adO (sg B sz (sE B sz p)) = 0
        · simp only [ea, if_true]
          rw [M_sum_stop hn t4 hid ea]
          exact ⟨_, rfl, x4, t4.2.2.2.1, fun _ => ⟨t4, e2⟩⟩
        · simp only [ea, if_false]
          have hlt := adO_lt ea
          rw [M_sum_go hn hB t4 hid ea]
          have a5 : agm [] [8] τ4 (psI τ4 249 8 (nI (sE B sz p + 1))) := agm_fld (by simp)
          obtain ⟨τ, f1, f2, f3, f4⟩ := M_sumV hn hB hr k n ks (adO (sg B sz (sE B sz p))) 0 (sE B sz p + 1) (m + 1) _ _ (TM_p t4 (p' := sE B sz p + 1) (by omega)) (KM_f e2 a5 (by decide) (by decide)) (by omega) (by omega) (by omega) (by omega) (by omega) (adO_ok _) (Or.inl rfl) (by rw [cO_pos ea, show cO 0 = 0 from rfl]; simp only [List.length_append, List.length_cons, opt_len]; omega)
          refine ⟨τ, f1, am_trans x4 (am_trans (am_f a5 (by simp)) f2), f3, fun z => ?_⟩
          obtain ⟨g1, g2⟩ := f4 z
          refine ⟨g1, ?_⟩
          simp only [pre]
          rw [← List.append_assoc]
          exact g2
      · simp only [em, if_false]
        have hlt := muO_lt em
        rw [M_term_go hn hB d2' hid em]
        have a5 : agm [] [8] τ3 (psI τ3 249 8 (nI (sE B sz p + 1))) := agm_fld (by simp)
        have lst : c ++ [vT B sz (sk B sz p)] ++ opt mu = c ++ (vT B sz (sk B sz p) :: opt mu) := by
          simp [List.append_assoc]
        obtain ⟨τ, f1, f2, f3, f4⟩ := M_sumV hn hB hr k kt (ks + 1) a (muO (sg B sz (sE B sz p))) (sE B sz p + 1) (m + 1) _ _ (TM_p d2' (p' := sE B sz p + 1) (by omega)) (KM_f k3 a5 (by decide) (by decide)) (by omega) (by omega) (by omega) (by omega) (by omega) ha (muO_ok _) (by rw [cO_pos em, lc]; omega)
        refine ⟨τ, f1, am_trans x3 (am_trans (am_f a5 (by simp)) f2), f3, fun z => ?_⟩
        obtain ⟨g1, g2⟩ := f4 z
        refine ⟨g1, ?_⟩
        rw [lst] at g2
        simp only [pre]
        rw [← List.append_assoc]
        exact g2
    · simp only [e, if_false, if_true]
      exact ⟨_, rfl, a4, a2, fun z => z.elim⟩
theorem M_sum (hn : 1000 ≤ n) (hB : ∀ i, byt (B i)) {r : Nat} (hr : r < 6) {p m : Nat} {σ : PS} {c : List Nat} (ht : TM σ B sz p 0) (hk : KM σ r c m) (hm : m ≤ 60) (hl : c.length + 1 ≤ p) : ∃ τ, F_X12_sum n σ = some (if (sumP B sz 61 0 0 p m).1 = 0 then 1 else 0, τ) ∧ am r σ τ ∧ τ.1 249 9 = nI (sumP B sz 61 0 0 p m).1 ∧ ((sumP B sz 61 0 0 p m).1 = 0 → TM τ B sz (sumP B sz 61 0 0 p m).2.1 0 ∧ KM τ r (c ++ (sumP B sz 61 0 0 p m).2.2.2) (sumP B sz 61 0 0 p m).2.2.1) := by
  obtain ⟨τ, a, b, d, g⟩ := M_sumV hn hB hr 61 n n 0 0 p m σ c ht hk hm (by omega) (by omega) (by omega) (by omega) (Or.inl rfl) (Or.inl rfl) (by rw [show cO 0 = 0 from rfl]; omega)
  have e : F_X12_sum n σ = (cV n n n 0 0 σ).bind (fun o => if o.1 = 0 then some ((0 : Int32), o.2) else some ((1 : Int32), o.2)) := by
    unfold F_X12_sum F_X12_term cV
    rw [Option.bind_assoc, Option.bind_assoc]
    congr 1
    funext q
    by_cases z : q.1 = 0
    · rw [if_pos z, if_pos z]; rfl
    · rw [if_neg z, if_neg z, Option.bind_assoc]
      unfold putO
      rw [if_pos rfl, Option.bind_some]
      unfold cT putO
      rw [Option.bind_assoc]
      congr 1
      funext o
      by_cases w : o.1 = 0
      · rw [if_pos w, if_pos w]; rfl
      · rw [if_neg w, if_neg w]; rfl
  rw [e, a, Option.bind_some]
  refine ⟨τ, ?_, b, d, g⟩
  by_cases z : (sumP B sz 61 0 0 p m).1 = 0
  · simp only [z, if_true]
    rw [if_neg (by decide)]
  · simp only [z, if_false, if_true]
end SS
