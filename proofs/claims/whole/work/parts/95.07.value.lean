/-! A value is read, both sides. -/
def vF (B : Nat → Int32) (sz q m : Nat) : Nat := if dg B sz q = 0 then (if wk (wl B sz q) = 11 then 1 + 8 * q else if m = 60 then 4 + 8 * q else 0) else if nF B sz q 0 99999 = 0 then (if m = 60 then 4 + 8 * q else 0) else nF B sz q 0 99999
def vT (B : Nat → Int32) (sz q : Nat) : Nat := if dg B sz q = 0 then 1 + 16 * wk (wl B sz q) else 16 * dvA B q (min (dg B sz q) 5)
def vE (B : Nat → Int32) (sz q : Nat) : Nat := if dg B sz q = 0 then q + (wl B sz q).length else q + dg B sz q
/-- the class's code so far -/
def KX (σ : PS) (c : List Int32) (m : Nat) : Prop := c.length ≤ 400 ∧ σ.1 4 1 = nI c.length ∧ (∀ i, i < c.length → σ.1 5 i = c.getD i 0) ∧ σ.1 4 7 = nI m
/-- the reference's tokens so far -/
def KM (σ : PS) (r : Nat) (c : List Nat) (m : Nat) : Prop := c.length ≤ 400 ∧ σ.1 249 11 = nI r ∧ σ.1 252 r = nI c.length ∧ (∀ i, i < c.length → σ.1 251 (400 * r + i) = nI (c.getD i 0)) ∧ σ.1 249 12 = nI m
def ax (σ τ : PS) : Prop := agr [1, 4, 5] σ τ ∧ τ.1 4 4 = σ.1 4 4 ∧ τ.1 4 5 = σ.1 4 5 ∧ τ.1 4 6 = σ.1 4 6
theorem ax_refl {σ : PS} : ax σ σ := ⟨agr_refl, rfl, rfl, rfl⟩
theorem ax_trans {a b c : PS} (h1 : ax a b) (h2 : ax b c) : ax a c := ⟨agr_trans h1.1 h2.1, h2.2.1.trans h1.2.1, h2.2.2.1.trans h1.2.2.1, h2.2.2.2.trans h1.2.2.2⟩
theorem ax_1 {σ τ : PS} (h : agr [1] σ τ) : ax σ τ := by
  have e := (h 4 (by decide)).1
  exact ⟨agr_mono h (by simp), by rw [e], by rw [e], by rw [e]⟩
theorem KX_1 {σ τ : PS} {c : List Int32} {m : Nat} (h : KX σ c m) (ha : agr [1] σ τ) : KX τ c m := by
  unfold KX
  rw [(ha 4 (by decide)).1, (ha 5 (by decide)).1]
  exact h
def am (r : Nat) (σ τ : PS) : Prop := agm [251, 252] [8, 9, 10, 12] σ τ ∧ ∀ x, x < 400 * r → τ.1 251 x = σ.1 251 x
theorem am_refl {r : Nat} {σ : PS} : am r σ σ := ⟨agm_refl, fun _ _ => rfl⟩
theorem am_trans {r : Nat} {a b c : PS} (h1 : am r a b) (h2 : am r b c) : am r a c := ⟨agm_trans h1.1 h2.1, fun x hx => (h2.2 x hx).trans (h1.2 x hx)⟩
theorem am_f {r : Nat} {σ τ : PS} {Fs : List Nat} (h : agm [] Fs σ τ) (hs : ∀ j ∈ Fs, j ∈ [8, 9, 10, 12]) : am r σ τ := ⟨agm_mono h (by simp) hs, fun x _ => by rw [(h.1 251 (by simp) (by decide)).1]⟩
theorem KM_f {r : Nat} {σ τ : PS} {Fs : List Nat} {c : List Nat} {m : Nat} (h : KM σ r c m) (ha : agm [] Fs σ τ) (h1 : 11 ∉ Fs) (h2 : 12 ∉ Fs) : KM τ r c m := by
  unfold KM
  rw [(ha.1 251 (by simp) (by decide)).1, (ha.1 252 (by simp) (by decide)).1, (ha.2 11 h1).1, (ha.2 12 h2).1]
  exact h
theorem getD_app {α : Type} (c : List α) (v d : α) (i : Nat) (h : i < (c ++ [v]).length) : (c ++ [v]).getD i d = if i = c.length then v else c.getD i d := by
  rw [List.getD_eq_getElem?_getD, List.getD_eq_getElem?_getD]
  by_cases e : i = c.length
  · rw [if_pos e, e, List.getElem?_append_right (Nat.le_refl _)]; simp
  · rw [if_neg e, List.getElem?_append_left (by simp at h; omega)]
section VV
variable {n : Nat} {B : Nat → Int32} {sz : Nat}
theorem X_emit0 {σ : PS} : F_X5_emit n 0 σ = some σ := by
  unfold F_X5_emit; rw [if_pos rfl]
theorem X_emit {σ : PS} {c : List Int32} {m : Nat} (h : KX σ c m) (hl : c.length < 400) {v : Int32} (hv : ¬ v = 0) : ∃ τ, F_X5_emit n v σ = some τ ∧ KX τ (c ++ [v]) m ∧ agr [4, 5] σ τ ∧ ax σ τ := by
  obtain ⟨a, b, d, e⟩ := h
  unfold F_X5_emit
  have h4 : (psI σ 5 c.length v).1 4 = σ.1 4 := psI_other (by decide)
  rw [if_neg hv, b, if_neg (show ¬ (400 : Int32) ≤ nI c.length from nI_ge (show c.length < 400 from hl) (by decide)), nI_clamp (by omega), if_pos ⟨nI_pos' (by omega), hl⟩, h4, b, nI_p1]
  refine ⟨_, rfl, ⟨by simp; omega, ?_, fun i hi => ?_, ?_⟩, ?_, ?_, ?_, ?_, ?_⟩
  · rw [psI_eq, if_pos rfl]; simp
  · rw [psI_other (by decide), psI_eq, getD_app c v 0 i hi]
    by_cases z : i = c.length
    · rw [if_pos z, if_pos z]
    · rw [if_neg z, if_neg z]; exact d i (by simp at hi; omega)
  · rw [psI_eq, if_neg (by decide), h4]; exact e
  · exact agr_trans (agr_psI (by simp)) (agr_psI (by simp))
  · exact agr_trans (agr_psI (by simp)) (agr_psI (by simp))
  · rw [psI_eq, if_neg (by decide), h4]
  · rw [psI_eq, if_neg (by decide), h4]
  · rw [psI_eq, if_neg (by decide), h4]
/-- behind a fault: all stays in its bounds -/
def SX (σ : PS) (B : Nat → Int32) (sz : Nat) (f : Int32) : Prop := (∃ p s, TX σ B sz p s f) ∧ ∃ k, k ≤ 400 ∧ σ.1 4 1 = nI k
theorem SX_1 {σ τ : PS} {f g : Int32} (h : SX σ B sz f) (ha : agr [1] σ τ) {p s : Nat} (ht : TX τ B sz p s g) : SX τ B sz g := by
  obtain ⟨k, k1, k2⟩ := h.2
  exact ⟨⟨p, s, ht⟩, k, k1, by rw [(ha 4 (by decide)).1]; exact k2⟩
theorem X_emitF {σ : PS} {f v : Int32} (h : SX σ B sz f) : ∃ τ, F_X5_emit n v σ = some τ ∧ SX τ B sz f ∧ ax σ τ := by
  obtain ⟨⟨p, s, ht⟩, k, k1, k2⟩ := h
  unfold F_X5_emit
  by_cases e : v = 0
  · rw [if_pos e]; exact ⟨σ, rfl, ⟨⟨p, s, ht⟩, k, k1, k2⟩, ax_refl⟩
  rw [if_neg e, k2]
  by_cases e2 : 400 ≤ k
  · rw [if_pos (show (400 : Int32) ≤ nI k from nI_le (show 400 ≤ k from e2) (by omega))]; exact ⟨σ, rfl, ⟨⟨p, s, ht⟩, k, k1, k2⟩, ax_refl⟩
  have h4 : (psI σ 5 k v).1 4 = σ.1 4 := psI_other (by decide)
  rw [if_neg (show ¬ (400 : Int32) ≤ nI k from nI_ge (show k < 400 by omega) (by decide)), nI_clamp (by omega), if_pos ⟨nI_pos' (by omega), by omega⟩, h4, k2, nI_p1]
  have a1 : agr [4, 5] σ (psI (psI σ 5 k v) 4 1 (nI (k + 1))) := agr_trans (agr_psI (by simp)) (agr_psI (by simp))
  refine ⟨_, rfl, ⟨⟨p, s, TX_agr ht a1 (by decide) (by decide)⟩, k + 1, by omega, by rw [psI_eq, if_pos rfl]⟩, agr_mono a1 (by simp), ?_, ?_, ?_⟩
  · rw [psI_eq, if_neg (by decide), h4]
  · rw [psI_eq, if_neg (by decide), h4]
  · rw [psI_eq, if_neg (by decide), h4]
theorem ax_cnt {σ : PS} {v : Int32} : ax σ (psI σ 4 7 v) := ⟨agr_psI (by simp), by rw [psI_eq, if_neg (by decide)], by rw [psI_eq, if_neg (by decide)], by rw [psI_eq, if_neg (by decide)]⟩
theorem X_count {σ : PS} {c : List Int32} {m p s w : Nat} (h : KX σ c m) (ht : TX σ B sz p s 0) (hm : m ≤ 60) : ∃ τ, F_X5_countOne n (nI w) σ = some τ ∧ TX τ B sz p s (nI (if m = 60 then 4 + 8 * w else 0)) ∧ KX τ c (m + 1) ∧ τ.1 1 4 = σ.1 1 4 ∧ ax σ τ := by
  obtain ⟨a, b, d, e⟩ := h
  have ht' : TX (psI σ 4 7 (nI (m + 1))) B sz p s 0 := TX_agr ht (agr_psI (T := [4]) (by simp)) (by decide) (by decide)
  have hk : KX (psI σ 4 7 (nI (m + 1))) c (m + 1) := by
    refine ⟨a, ?_, fun i hi => ?_, ?_⟩
    · rw [psI_eq, if_neg (by decide)]; exact b
    · rw [psI_other (by decide)]; exact d i hi
    · rw [psI_eq, if_pos rfl]
  have h14 : (psI σ 4 7 (nI (m + 1))).1 1 4 = σ.1 1 4 := by rw [psI_other (by decide)]
  unfold F_X5_countOne
  rw [e, nI_p1, show (psI σ 4 7 (nI (m + 1))).1 4 7 = nI (m + 1) from hk.2.2.2]
  by_cases z : m = 60
  · rw [if_neg (show ¬ nI (m + 1) ≤ (60 : Int32) from nI_ge (show 60 < m + 1 by omega) (by omega)), if_pos z]
    obtain ⟨υ, u1, u2, u3, u4⟩ := X_fail0 (n := n) (w := w) (k := 3) ht'
    show ∃ υ, (F_X9_fail n (nI w) (nI 3) _).bind _ = some υ ∧ _
    rw [u1, show 4 + 8 * w = 1 + 8 * w + 3 by omega]
    exact ⟨υ, rfl, u2, KX_1 hk u4, u3.trans h14, ax_trans ax_cnt (ax_1 u4)⟩
  · rw [if_pos (show nI (m + 1) ≤ (60 : Int32) from nI_le (show m + 1 ≤ 60 by omega) (by decide)), if_neg z]
    exact ⟨_, rfl, ht', hk, h14, ax_cnt⟩
theorem X_countF {σ : PS} {f w : Int32} (h : SX σ B sz f) (hf : ¬ f = 0) : ∃ τ, F_X5_countOne n w σ = some τ ∧ SX τ B sz f ∧ τ.1 1 4 = σ.1 1 4 ∧ ax σ τ := by
  obtain ⟨⟨p, s, ht⟩, k, k1, k2⟩ := h
  unfold F_X5_countOne
  generalize σ.1 4 7 + 1 = v
  have ht' : TX (psI σ 4 7 v) B sz p s f := TX_agr ht (agr_psI (T := [4]) (by simp)) (by decide) (by decide)
  have hs : SX (psI σ 4 7 v) B sz f := ⟨⟨p, s, ht'⟩, k, k1, by rw [psI_eq, if_neg (by decide)]; exact k2⟩
  have h14 : (psI σ 4 7 v).1 1 4 = σ.1 1 4 := by rw [psI_other (by decide)]
  split
  · exact ⟨_, rfl, hs, h14, ax_cnt⟩
  · rw [X_fail1 ht' hf]
    exact ⟨_, rfl, hs, h14, ax_cnt⟩
theorem KX_SX {σ : PS} {c : List Int32} {m p s : Nat} {f : Int32} (h : KX σ c m) (ht : TX σ B sz p s f) : SX σ B sz f := ⟨⟨p, s, ht⟩, c.length, h.1, h.2.1⟩
theorem wcd_ne0 : ∀ k, k < 11 → ¬ wcd k = 0 := by decide +kernel
theorem dg_wl {q : Nat} (h : dg B sz q ≠ 0) : wl B sz q = [] := by
  by_cases z : q < sz
  · rw [dg_lt z] at h
    rw [wl_lt z]
    by_cases z1 : B q < 48
    · rw [if_pos z1] at h; omega
    rw [if_neg z1] at h
    by_cases z2 : 57 < B q
    · rw [if_pos z2] at h; omega
    obtain ⟨e1, e2, e3⟩ := digit_nI z1 z2
    rw [if_pos (by rw [e1]; exact nI_lt (show (B q).toNatClampNeg < 97 by omega) (by decide))]
  · exact wl_end (by omega)
theorem wk_nil : wk [] = 11 := by decide
theorem vE_gt {q m : Nat} (h : vF B sz q m = 0) : q < vE B sz q := by
  unfold vF at h
  unfold vE
  by_cases z : dg B sz q = 0
  · rw [if_pos z] at h ⊢
    by_cases z2 : wk (wl B sz q) = 11
    · rw [if_pos z2] at h; omega
    · have : wl B sz q ≠ [] := fun e => z2 (by rw [e]; exact wk_nil)
      have := List.length_pos_iff.mpr this
      omega
  · rw [if_neg z]; omega
theorem vE_le {q : Nat} (h : q ≤ sz) : vE B sz q ≤ sz := by
  unfold vE
  have := wl_len (B := B) h
  have := dg_le (B := B) h
  split <;> omega
theorem vT_ok {q m : Nat} (h : vF B sz q m = 0) : okT (vT B sz q) ∧ vT B sz q % 16 ≤ 1 := by
  unfold vF at h
  unfold vT okT
  by_cases z : dg B sz q = 0
  · rw [if_pos z] at h ⊢
    have := wk_le (wl B sz q)
    by_cases z2 : wk (wl B sz q) = 11
    · rw [if_pos z2] at h; omega
    · omega
  · rw [if_neg z]
    have := dvA5 (B := B) (sz := sz) (q := q)
    omega
/-- the class reads a value -/
theorem X_value (hn : 1000 ≤ n) {σ : PS} {c : List Int32} {m p s : Nat} (ht : TX σ B sz p s 0) (h : KX σ c m) (hm : m ≤ 60) (hl : c.length < 400) : ∃ τ, F_X5_readValue n σ = some (if vF B sz (sk B sz p) m = 0 then 1 else 0, τ) ∧ SX τ B sz (nI (vF B sz (sk B sz p) m)) ∧ (vF B sz (sk B sz p) m = 0 → ∃ s', TX τ B sz (vE B sz (sk B sz p)) s' 0 ∧ KX τ (c ++ [enT (vT B sz (sk B sz p))]) (m + 1)) ∧ ax σ τ := by
  have h400 := ht.2.2.2.2.2.2.2
  have hq := sk_le (B := B) ht.2.2.2.2.2.2.1
  obtain ⟨τ1, a1, a2, a3, a4⟩ := X_takeWord hn ht
  unfold F_X5_readValue
  rw [ht.2.2.2.2.1, if_pos rfl, a1, Option.bind_some, X_ofWord hn a2, Option.bind_some]
  have hsk := sk_idem (B := B) ht.2.2.2.2.2.2.1
  generalize sk B sz p = q at a2 hq hsk ⊢
  have k1 : KX τ1 c m := KX_1 h a4
  have hst : τ1.1 1 3 = nI q := a2.2.2.2.1
  show ∃ τ, (if wkC (wl B sz q) = 0 then (F_X9_putWordBack n τ1).bind _ else (F_X5_countOne n (τ1.1 1 3) τ1).bind _) = some _ ∧ _
  rw [hst]
  by_cases zw : wk (wl B sz q) = 11
  · rw [if_pos (show wkC (wl B sz q) = 0 by unfold wkC; rw [if_pos zw])]
    obtain ⟨τ2, b1, b2, b3, b4⟩ := X_putBack (n := n) a2
    rw [b1, Option.bind_some]
    obtain ⟨τ3, c1, c2, c3, c4⟩ := X_number hn b2 (lo := 0) (hi := 99999) (by decide) (by decide)
    rw [hsk] at c1 c2 c3
    have x3 : ax σ τ3 := ax_trans (ax_1 a4) (ax_trans (ax_1 b4) (ax_1 c4))
    have k3 : KX τ3 c m := KX_1 (KX_1 k1 b4) c4
    show ∃ τ, (F_X9_takeNumber n (nI 0) (nI 99999) τ2).bind _ = some _ ∧ _
    rw [c1, Option.bind_some]
    show ∃ τ, (F_X5_countOne n (nI q) τ3).bind (fun q20 => if τ3.1 1 4 = 0 then (F_X5_emit n (-12 : Int32) q20).bind _ else (F_X5_emit n (τ3.1 1 4) q20).bind _) = some _ ∧ _
    by_cases zf : nF B sz q 0 99999 = 0
    · have zd : dg B sz q ≠ 0 := by
        intro z
        unfold nF at zf
        rw [if_pos z] at zf
        omega
      have hvF : vF B sz q m = if m = 60 then 4 + 8 * q else 0 := by
        unfold vF
        rw [if_neg zd, if_pos zf]
      have hvE : vE B sz q = q + dg B sz q := by unfold vE; rw [if_neg zd]
      have hvT : enT (vT B sz q) = if dvA B q (min (dg B sz q) 5) = 0 then -12 else nI (dvA B q (min (dg B sz q) 5)) := by
        unfold vT enT
        rw [if_neg zd, if_pos (by omega), show 16 * dvA B q (min (dg B sz q) 5) / 16 = dvA B q (min (dg B sz q) 5) by omega]
      rw [zf] at c2
      obtain ⟨τ4, d1, d2, d3, d4, d5⟩ := X_count (n := n) (w := q) k3 c2 hm
      rw [d1, Option.bind_some, c3]
      have hv5 := dvA5 (B := B) (sz := sz) (q := q)
      rw [← hvF] at d2
      have fin : ∀ v, ¬ v = 0 → enT (vT B sz q) = v → ∃ τ, ((F_X5_emit n v τ4).bind (fun q26 => if q26.1 1 5 = 0 then some ((1 : Int32), q26) else some ((0 : Int32), q26))) = some (if vF B sz q m = 0 then 1 else 0, τ) ∧ SX τ B sz (nI (vF B sz q m)) ∧ (vF B sz q m = 0 → ∃ s', TX τ B sz (vE B sz q) s' 0 ∧ KX τ (c ++ [enT (vT B sz q)]) (m + 1)) ∧ ax σ τ := by
        intro v hv0 hv
        obtain ⟨τ5, e1, e2, e3, e4⟩ := X_emit (n := n) d3 hl hv0
        have t5 := TX_agr d2 e3 (by decide) (by decide)
        rw [e1, Option.bind_some, t5.2.2.2.2.1]
        refine ⟨τ5, ?_, KX_SX e2 t5, fun z => ⟨q, ?_, ?_⟩, ax_trans x3 (ax_trans d5 e4)⟩
        · by_cases z : vF B sz q m = 0
          · rw [if_pos (by rw [z]; rfl), if_pos z]
          · rw [if_neg (nI_ne0 (by omega) (by rw [hvF]; split <;> omega)), if_neg z]
        · rw [hvE]; rw [z] at t5; exact t5
        · rw [hv]; exact e2
      by_cases z0 : dvA B q (min (dg B sz q) 5) = 0
      · rw [z0, if_pos (show nI 0 = (0 : Int32) from rfl)]
        exact fin (-12) (by decide) (by rw [hvT, if_pos z0])
      · rw [if_neg (nI_ne0 (by omega) (by omega))]
        exact fin _ (nI_ne0 (by omega) (by omega)) (by rw [hvT, if_neg z0])
    · have hvF : vF B sz q m = nF B sz q 0 99999 := by
        unfold vF
        by_cases zd : dg B sz q = 0
        · rw [if_pos zd, if_pos zw]; unfold nF; rw [if_pos zd]
        · rw [if_neg zd, if_neg zf]
      have hb : nF B sz q 0 99999 < 2 ^ 31 := by
        unfold nF; split
        · omega
        · split <;> omega
      have s3 := KX_SX k3 c2
      rw [← hvF] at s3 zf hb
      have fne : ¬ nI (vF B sz q m) = 0 := nI_ne0 (by omega) hb
      obtain ⟨τ4, d1, d2, d3, d4⟩ := X_countF (n := n) (w := nI q) s3 fne
      rw [d1, Option.bind_some, if_neg zf]
      have fin : ∀ v, ∃ τ, ((F_X5_emit n v τ4).bind (fun q26 => if q26.1 1 5 = 0 then some ((1 : Int32), q26) else some ((0 : Int32), q26))) = some (0, τ) ∧ SX τ B sz (nI (vF B sz q m)) ∧ (vF B sz q m = 0 → ∃ s', TX τ B sz (vE B sz q) s' 0 ∧ KX τ (c ++ [enT (vT B sz q)]) (m + 1)) ∧ ax σ τ := by
        intro v
        obtain ⟨τ5, e1, e2, e3⟩ := X_emitF (n := n) (v := v) d2
        obtain ⟨p5, s5, t5⟩ := e2.1
        rw [e1, Option.bind_some, t5.2.2.2.2.1, if_neg fne]
        exact ⟨τ5, rfl, e2, fun z => absurd z zf, ax_trans x3 (ax_trans d4 e3)⟩
      split
      · exact fin _
      · exact fin _
  · have hk := wk_lt_iff zw
    have hC : wkC (wl B sz q) = wcd (wk (wl B sz q)) := by unfold wkC; rw [if_neg zw]
    have hC0 : ¬ wkC (wl B sz q) = 0 := by rw [hC]; exact wcd_ne0 _ hk
    have zd : dg B sz q = 0 := by
      by_cases z : dg B sz q = 0
      · exact z
      · exact absurd (by rw [dg_wl z]; exact wk_nil) zw
    have hvF : vF B sz q m = if m = 60 then 4 + 8 * q else 0 := by
      unfold vF
      rw [if_pos zd, if_neg zw]
    have hvE : vE B sz q = q + (wl B sz q).length := by unfold vE; rw [if_pos zd]
    have hvT : enT (vT B sz q) = wkC (wl B sz q) := by
      unfold vT enT
      rw [hC, if_pos zd, if_neg (by omega), if_pos (by omega), show (1 + 16 * wk (wl B sz q)) / 16 = wk (wl B sz q) by omega]
    rw [if_neg hC0]
    obtain ⟨τ4, d1, d2, d3, d4, d5⟩ := X_count (n := n) (w := q) k1 a2 hm
    rw [d1, Option.bind_some]
    rw [← hvF] at d2
    obtain ⟨τ5, e1, e2, e3, e4⟩ := X_emit (n := n) d3 hl hC0
    have t5 := TX_agr d2 e3 (by decide) (by decide)
    show ∃ τ, (if wkC (wl B sz q) = 0 then _ else (F_X5_emit n (wkC (wl B sz q)) τ4).bind _) = some _ ∧ _
    rw [if_neg hC0, e1, Option.bind_some, t5.2.2.2.2.1]
    refine ⟨τ5, ?_, KX_SX e2 t5, fun z => ⟨q, ?_, ?_⟩, ax_trans (ax_1 a4) (ax_trans d5 e4)⟩
    · by_cases z : vF B sz q m = 0
      · rw [if_pos (by rw [z]; rfl), if_pos z]
      · rw [if_neg (nI_ne0 (by omega) (by rw [hvF]; split <;> omega)), if_neg z]
    · rw [hvE]; rw [z] at t5; exact t5
    · rw [hvT]; exact e2
theorem M_makes {σ : PS} {r : Nat} {c : List Nat} {m p w : Nat} (h : KM σ r c m) (ht : TM σ B sz p 0) (hm : m ≤ 60) : ∃ τ, F_X12_makes n (nI w) σ = some (if m = 60 then 0 else 1, τ) ∧ TM τ B sz p (nI (if m = 60 then 4 + 8 * w else 0)) ∧ (m ≠ 60 → KM τ r c (m + 1)) ∧ am r σ τ := by
  obtain ⟨a, b, d, e, g⟩ := h
  unfold F_X12_makes
  rw [g]
  by_cases z : m = 60
  · rw [if_pos (show nI m = (60 : Int32) by rw [z]; rfl), if_pos z, if_pos z]
    obtain ⟨υ, u1, u2, u3⟩ := M_fails0 (n := n) (w := w) (k := 3) ht
    show ∃ υ, (F_X12_fails n (nI 3) (nI w) _).bind _ = some _ ∧ _
    rw [u1, Option.bind_some, if_pos (Or.inl rfl), show 4 + 8 * w = 1 + 8 * w + 3 by omega]
    exact ⟨υ, rfl, u2, fun q => absurd z q, am_f u3 (by simp)⟩
  · rw [if_neg (show ¬ nI m = (60 : Int32) from fun q => z (nI_inj (b := 60) (by omega) (by decide) q)), if_neg z, if_neg z, nI_p1]
    have a1 : agm [] [12] σ (psI σ 249 12 (nI (m + 1))) := agm_fld (by simp)
    refine ⟨_, rfl, TM_agm ht a1 (by simp) (by decide) (by decide) (by decide), fun _ => ⟨a, ?_, ?_, fun i hi => ?_, ?_⟩, am_f a1 (by simp)⟩
    · rw [(a1.2 11 (by decide)).1]; exact b
    · rw [(a1.1 252 (by simp) (by decide)).1]; exact d
    · rw [(a1.1 251 (by simp) (by decide)).1]; exact e i hi
    · rw [psI_eq, if_pos rfl]
theorem M_puts {σ : PS} {r : Nat} (hr : r < 6) {c : List Nat} {m s v : Nat} (h : KM σ r c m) (hl : c.length < 400) : ∃ τ, F_X12_puts n (nI s) (nI v) σ = some τ ∧ KM τ r (c ++ [s + 16 * v]) m ∧ agm [251, 252] [] σ τ ∧ am r σ τ := by
  obtain ⟨a, b, d, e, g⟩ := h
  unfold F_X12_puts
  have e1 : (psI σ 251 (400 * r + c.length) (nI (s + 16 * v))).1 249 = σ.1 249 := psI_other (by decide)
  have e2 : (psI σ 251 (400 * r + c.length) (nI (s + 16 * v))).1 252 = σ.1 252 := psI_other (by decide)
  simp only [b, nI_clamp (show r < 2 ^ 31 by omega), d, nI_lit, nI_mul, nI_add, nI_clamp (show 400 * r + c.length < 2 ^ 31 by omega), e1, e2]
  rw [if_pos ⟨nI_pos' (by omega), by omega⟩, if_pos ⟨nI_pos' (by omega), by omega⟩, if_pos ⟨nI_pos' (by omega), by omega⟩]
  have a1 : agm [251, 252] [] σ (psI (psI σ 251 (400 * r + c.length) (nI (s + 16 * v))) 252 r (nI (c.length + 1))) := agm_trans (agm_psI (by simp) (by decide)) (agm_psI (by simp) (by decide))
  refine ⟨_, rfl, ⟨by simp; omega, ?_, ?_, fun i hi => ?_, ?_⟩, a1, agm_mono a1 (by simp) (by simp), fun x hx => ?_⟩
  · rw [(a1.2 11 (by simp)).1]; exact b
  · rw [psI_eq, if_pos rfl]; simp
  · rw [psI_other (by decide), psI_eq, getD_app c _ 0 i hi]
    by_cases z : i = c.length
    · rw [if_pos (by omega), if_pos z]
    · rw [if_neg (by omega), if_neg z]; exact e i (by simp at hi; omega)
  · rw [(a1.2 12 (by simp)).1]; exact g
  · rw [psI_other (by decide), psI_eq, if_neg (by omega)]
theorem TM_ag {σ τ : PS} {p : Nat} {f : Int32} (h : TM σ B sz p f) (ha : agm [251, 252] [] σ τ) : TM τ B sz p f := TM_agm h ha (by decide) (by simp) (by simp) (by simp)
/-- the reference reads a value -/
theorem M_value (hn : 1000 ≤ n) {σ : PS} {r : Nat} (hr : r < 6) {c : List Nat} {m p : Nat} (ht : TM σ B sz p 0) (h : KM σ r c m) (hm : m ≤ 60) (hl : c.length < 400) : ∃ τ, F_X12_value n σ = some (if vF B sz (sk B sz p) m = 0 then 1 else 0, τ) ∧ τ.1 249 9 = nI (vF B sz (sk B sz p) m) ∧ (vF B sz (sk B sz p) m = 0 → TM τ B sz (vE B sz (sk B sz p)) 0 ∧ KM τ r (c ++ [vT B sz (sk B sz p)]) (m + 1)) ∧ am r σ τ := by
  have h400 := ht.2.2.2.2.2
  have hq := sk_le (B := B) ht.2.2.2.2.1
  obtain ⟨τ1, a1, a2, a3⟩ := M_see hn ht
  have hsk := sk_idem (B := B) ht.2.2.2.2.1
  unfold F_X12_value
  rw [a1, Option.bind_some]
  generalize sk B sz p = q at a2 hq hsk ⊢
  have h8 : τ1.1 249 8 = nI q := a2.2.2.1
  have k1 : KM τ1 r c m := KM_f h a3 (by decide) (by decide)
  show ∃ τ, (F_X12_isDigit n (τ1.1 249 8) τ1).bind (fun q3 => if q3.1 = 0 then (F_X12_wordHere n q3.2).bind (fun q6 => if 0 ≤ q6.1 then (F_X12_makes n (τ1.1 249 8) q6.2).bind _ else (F_X12_fails n (0 : Int32) (τ1.1 249 8) q6.2).bind _) else (F_X12_numberHere n (0 : Int32) (99999 : Int32) q3.2).bind (fun q19 => if q19.1 = 0 then _ else (F_X12_makes n (τ1.1 249 8) q19.2).bind _)) = some _ ∧ _
  rw [h8, M_isDigit a2 hq, Option.bind_some]
  by_cases zd : dg B sz q = 0
  · simp only [zd, if_true]
    rw [M_wordHere hn a2 hsk, Option.bind_some]
    by_cases zw : wk (wl B sz q) = 11
    · have hvF : vF B sz q m = 1 + 8 * q := by unfold vF; rw [if_pos zd, if_pos zw]
      rw [if_neg (show ¬ 0 ≤ wkN (wl B sz q) by unfold wkN; rw [if_pos zw]; decide)]
      obtain ⟨υ, u1, u2, u3⟩ := M_fails0 (n := n) (w := q) (k := 0) a2
      show ∃ υ, (F_X12_fails n (nI 0) (nI q) _).bind _ = some _ ∧ _
      rw [u1, Option.bind_some, if_pos (Or.inl rfl), hvF, if_neg (by omega)]
      exact ⟨υ, rfl, u2.2.2.2.1, fun z => by omega, am_trans (am_f a3 (by simp)) (am_f u3 (by simp))⟩
    · have hk := wk_lt_iff zw
      have hN : wkN (wl B sz q) = nI (wk (wl B sz q)) := by unfold wkN; rw [if_neg zw]
      have hvF : vF B sz q m = if m = 60 then 4 + 8 * q else 0 := by
        unfold vF
        rw [if_pos zd, if_neg zw]
      have hvE : vE B sz q = q + (wl B sz q).length := by unfold vE; rw [if_pos zd]
      have hvT : vT B sz q = 1 + 16 * wk (wl B sz q) := by unfold vT; rw [if_pos zd]
      rw [if_pos (show 0 ≤ wkN (wl B sz q) by rw [hN]; exact nI_pos' (by omega))]
      obtain ⟨υ, u1, u2, u3, u4⟩ := M_makes (n := n) (w := q) k1 a2 hm
      show ∃ υ, (F_X12_makes n (nI q) τ1).bind _ = some _ ∧ _
      rw [u1, Option.bind_some]
      by_cases z : m = 60
      · rw [if_pos z] at u2
        simp only [z, if_true]
        rw [z, if_pos rfl] at hvF
        rw [hvF, if_neg (by omega)]
        exact ⟨υ, rfl, u2.2.2.2.1, fun z => by omega, am_trans (am_f a3 (by simp)) u4⟩
      · rw [if_neg z] at u2 hvF
        simp only [z, if_false]
        rw [if_neg (by decide)]
        obtain ⟨w, w1, w2, w3⟩ := M_passWord hn u2
        show ∃ τ, (F_X12_passWord n υ).bind _ = some _ ∧ _
        rw [w1, Option.bind_some, hN]
        have kw := KM_f (u3 z) w3 (by decide) (by decide)
        obtain ⟨y, y1, y2, y3, y4⟩ := M_puts (n := n) hr (s := 1) (v := wk (wl B sz q)) kw hl
        show ∃ τ, (F_X12_puts n (nI 1) (nI (wk (wl B sz q))) w).bind _ = some _ ∧ _
        rw [y1, hvF, if_pos rfl]
        have ty := TM_ag w2 y3
        exact ⟨y, rfl, ty.2.2.2.1, fun _ => ⟨by rw [hvE]; exact ty, by rw [hvT]; exact y2⟩, am_trans (am_f a3 (by simp)) (am_trans u4 (am_trans (am_f w3 (by simp)) y4))⟩
  · simp only [zd, if_false]
    rw [if_neg (by decide)]
    obtain ⟨υ, u1, u2, u3, u4⟩ := M_number hn a2 (lo := 0) (hi := 99999) (by decide) (by decide)
    rw [hsk] at u1 u2 u3
    show ∃ τ, (F_X12_numberHere n (nI 0) (nI 99999) τ1).bind _ = some _ ∧ _
    rw [u1, Option.bind_some]
    by_cases zf : nF B sz q 0 99999 = 0
    · have hvF : vF B sz q m = if m = 60 then 4 + 8 * q else 0 := by
        unfold vF
        rw [if_neg zd, if_pos zf]
      have hvE : vE B sz q = q + dg B sz q := by unfold vE; rw [if_neg zd]
      have hvT : vT B sz q = 0 + 16 * dvA B q (min (dg B sz q) 5) := by unfold vT; rw [if_neg zd]; omega
      simp only [zf, if_true]
      rw [if_neg (by decide)]
      rw [zf] at u2
      have ku := KM_f k1 u4 (by decide) (by decide)
      obtain ⟨w, w1, w2, w3, w4⟩ := M_makes (n := n) (w := q) ku u2 hm
      show ∃ υ', (F_X12_makes n (nI q) υ).bind _ = some _ ∧ _
      rw [w1, Option.bind_some]
      by_cases z : m = 60
      · rw [if_pos z] at w2
        simp only [z, if_true]
        rw [z, if_pos rfl] at hvF
        rw [hvF, if_neg (by omega)]
        exact ⟨w, rfl, w2.2.2.2.1, fun z => by omega, am_trans (am_f a3 (by simp)) (am_trans (am_f u4 (by simp)) w4)⟩
      · rw [if_neg z] at w2 hvF
        simp only [z, if_false]
        rw [if_neg (by decide)]
        have h10 : w.1 249 10 = nI (dvA B q (min (dg B sz q) 5)) := by
          have hmk : w.1 249 10 = υ.1 249 10 := by
            unfold F_X12_makes at w1
            rw [ku.2.2.2.2, if_neg (show ¬ nI m = (60 : Int32) from fun q => z (nI_inj (b := 60) (by omega) (by decide) q))] at w1
            have := congrArg (fun o => (o.map Prod.snd)) w1
            simp only [Option.map_some, Option.some.injEq] at this
            rw [← this, psI_eq, if_neg (by decide)]
          rw [hmk]; exact u3 zf
        rw [h10]
        obtain ⟨y, y1, y2, y3, y4⟩ := M_puts (n := n) hr (s := 0) (v := dvA B q (min (dg B sz q) 5)) (w3 z) hl
        show ∃ τ, (F_X12_puts n (nI 0) (nI (dvA B q (min (dg B sz q) 5))) w).bind _ = some _ ∧ _
        rw [y1, hvF, if_pos rfl]
        have ty := TM_ag w2 y3
        exact ⟨y, rfl, ty.2.2.2.1, fun _ => ⟨by rw [hvE]; exact ty, by rw [hvT]; exact y2⟩, am_trans (am_f a3 (by simp)) (am_trans (am_f u4 (by simp)) (am_trans w4 y4))⟩
    · have hvF : vF B sz q m = nF B sz q 0 99999 := by unfold vF; rw [if_neg zd, if_neg zf]
      rw [hvF]
      simp only [zf, if_false, if_true]
      exact ⟨υ, rfl, u2.2.2.2.1, fun z => z.elim, am_trans (am_f a3 (by simp)) (am_f u4 (by simp))⟩
end VV
