/-! The class copies a world; it walks on. -/
/-- τ is σ with world i made as world a is -/
def CP (σ τ : PS) (i a : Nat) : Prop := (∀ k, k < 6 → τ.1 i k = σ.1 a k) ∧ τ.2 i 6 = σ.2 a 6 ∧ (∀ t, t < 6 → τ.1 (i + 1) t = σ.1 (a + 1) t ∧ τ.1 (i + 2) t = σ.1 (a + 2) t ∧ τ.1 (i + 3) t = σ.1 (a + 3) t ∧ τ.1 (i + 4) t = σ.1 (a + 4) t) ∧ (∀ c, c < 36 → τ.1 (i + 5) c = σ.1 (a + 5) c) ∧ agr (wI i) σ τ
theorem CP_RX {σ τ : PS} {i a : Nat} {S : Nat → Nat} (h : CP σ τ i a) (hR : RX σ a S) (h2 : S 2 ≤ 6) : RX τ i S := by
  obtain ⟨r0, r1, r2, r3, r4, r5, r6, rt, rb⟩ := hR
  obtain ⟨c0, c6, ct, cb, _⟩ := h
  refine ⟨(c0 0 (by decide)).trans r0, (c0 1 (by decide)).trans r1, (c0 2 (by decide)).trans r2, (c0 3 (by decide)).trans r3, (c0 4 (by decide)).trans r4, (c0 5 (by decide)).trans r5, c6.trans r6, fun t ht => ?_, fun c hc => (cb c hc).trans (rb c hc)⟩
  have a := ct t (by omega)
  have b := rt t ht
  exact ⟨a.1.trans b.1, a.2.1.trans b.2.1, a.2.2.1.trans b.2.2.1, a.2.2.2.trans b.2.2.2⟩
section XC
variable {n i a : Nat}
theorem X_copy58 {σ0 : PS} (hd : i + 5 < a ∨ a + 5 < i) : ∀ (k t : Nat) (σ : PS), t ≤ 6 → 7 ≤ k + t → agr (wI i) σ0 σ → (∀ u, u < t → σ.1 (i + 1) u = σ0.1 (a + 1) u ∧ σ.1 (i + 2) u = σ0.1 (a + 2) u ∧ σ.1 (i + 3) u = σ0.1 (a + 3) u ∧ σ.1 (i + 4) u = σ0.1 (a + 4) u) → ∃ τ, L_X10_copyFrom_58 n i a k (nI t) σ = some τ ∧ agr (wI i) σ0 τ ∧ (∀ u, u < 6 → τ.1 (i + 1) u = σ0.1 (a + 1) u ∧ τ.1 (i + 2) u = σ0.1 (a + 2) u ∧ τ.1 (i + 3) u = σ0.1 (a + 3) u ∧ τ.1 (i + 4) u = σ0.1 (a + 4) u) ∧ τ.1 i = σ.1 i ∧ τ.2 = σ.2
  | 0, t, σ, ht, hk, _, _ => by omega
  | k + 1, t, σ, ht, hk, hag, hc => by
    rw [L_X10_copyFrom_58, show (6 : Int32) = nI 6 from rfl]
    by_cases e : t = 6
    · subst e
      rw [if_pos (nI_le (Nat.le_refl _) (by decide))]
      exact ⟨σ, rfl, hag, hc, rfl, rfl⟩
    · rw [if_neg (nI_ge (by omega) (by omega))]
      simp (disch := omega) only [nI_lit, nI_ge0, nI_clamp, true_and]
      rw [if_pos (by omega), nI_add]
      have o1 : ∀ (x y z : Nat) (s : PS) (v : Int32), x < 6 → y < 6 → (psI s (i + x) z v).1 (a + y) = s.1 (a + y) := fun x y z s v hx hy => psI_other (by omega)
      have w : ∀ y, y < 6 → σ.1 (a + y) = σ0.1 (a + y) := fun y hy => (hag (a + y) (by simp; omega)).1
      simp only [o1 1 2 _ _ _ (by decide) (by decide), o1 1 3 _ _ _ (by decide) (by decide), o1 1 4 _ _ _ (by decide) (by decide), o1 2 3 _ _ _ (by decide) (by decide), o1 2 4 _ _ _ (by decide) (by decide), o1 3 4 _ _ _ (by decide) (by decide), w 1 (by decide), w 2 (by decide), w 3 (by decide), w 4 (by decide)]
      obtain ⟨τ, e1, a1, c1, d1, d2⟩ := X_copy58 hd k (t + 1) (psI (psI (psI (psI σ (i + 1) t (σ0.1 (a + 1) t)) (i + 2) t (σ0.1 (a + 2) t)) (i + 3) t (σ0.1 (a + 3) t)) (i + 4) t (σ0.1 (a + 4) t)) (by omega) (by omega) (agr_trans hag (agr_trans (agr_trans (agr_trans (agr_psI (by simp)) (agr_psI (by simp))) (agr_psI (by simp))) (agr_psI (by simp)))) (fun u hu => by
        simp only [psI_get]
        by_cases q : u = t
        · subst q
          simp
        · have := hc u (by omega)
          simp [q, this])
      refine ⟨τ, e1, a1, c1, ?_, d2⟩
      rw [d1, psI_other (by omega), psI_other (by omega), psI_other (by omega), psI_other (by omega)]
theorem X_copyFrom (hn : 100 ≤ n) (hd : i + 5 < a ∨ a + 5 < i) {σ : PS} : ∃ τ, F_X10_copyFrom n i a σ = some τ ∧ CP σ τ i a := by
  have hne : a ≠ i := by omega
  unfold F_X10_copyFrom
  simp only [psI_other hne, psI_J]
  generalize hσ1 : psJ (psI (psI (psI (psI (psI (psI σ i 0 (σ.1 a 0)) i 1 (σ.1 a 1)) i 2 (σ.1 a 2)) i 3 (σ.1 a 3)) i 4 (σ.1 a 4)) i 5 (σ.1 a 5)) i 6 (σ.2 a 6) = σ1
  have ag1 : agr (wI i) σ σ1 := by
    rw [← hσ1]
    exact agr_trans (agr_trans (agr_trans (agr_trans (agr_trans (agr_trans (agr_psI (by simp)) (agr_psI (by simp))) (agr_psI (by simp))) (agr_psI (by simp))) (agr_psI (by simp))) (agr_psI (by simp))) (agr_psJ (by simp))
  have f1 : ∀ k, k < 6 → σ1.1 i k = σ.1 a k := by
    intro k hk
    rw [← hσ1, psJ_I]
    simp only [psI_eq]
    have : k = 0 ∨ k = 1 ∨ k = 2 ∨ k = 3 ∨ k = 4 ∨ k = 5 := by omega
    rcases this with q | q | q | q | q | q <;> subst q <;> simp
  have f2 : σ1.2 i 6 = σ.2 a 6 := by rw [← hσ1, psJ_eq, if_pos rfl]
  obtain ⟨τ, e, at1, ct, c1, c2⟩ := X_copy58 (n := n) (σ0 := σ) hd n 0 σ1 (by decide) (by omega) ag1 (fun u hu => by omega)
  rw [show (0 : Int32) = nI 0 from rfl, e, Option.bind_some]
  have n5 : ∀ k, k < 5 → (psC τ (a + 5) (i + 5) (nI 0).toNatClampNeg (nI 0).toNatClampNeg (36 : Int32).toNatClampNeg).1 (i + k) = τ.1 (i + k) := fun k hk => if_neg (by omega)
  refine ⟨_, rfl, fun k hk => ?_, ?_, fun t ht => ?_, fun c hc => ?_, ?_⟩
  · have : (psC τ (a + 5) (i + 5) (nI 0).toNatClampNeg (nI 0).toNatClampNeg (36 : Int32).toNatClampNeg).1 i = τ.1 i := if_neg (by omega)
    rw [this, c1]
    exact f1 k hk
  · show τ.2 i 6 = _
    rw [c2]
    exact f2
  · rw [n5 1 (by decide), n5 2 (by decide), n5 3 (by decide), n5 4 (by decide)]
    exact ct t ht
  · have h0 : (nI 0).toNatClampNeg = 0 := by decide
    have h36 : (36 : Int32).toNatClampNeg = 36 := by decide
    rw [h0, h36]
    show (if i + 5 = i + 5 then va_cpy (τ.1 (a + 5)) (τ.1 (i + 5)) 0 0 36 else τ.1 (i + 5)) c = _
    rw [if_pos rfl]
    have hs : τ.1 (a + 5) = σ.1 (a + 5) := (at1 (a + 5) (by simp; omega)).1
    rw [hs]
    unfold va_cpy
    simp [hc]
  · intro j hj
    have hj5 : j ≠ i + 5 := fun q => hj (by rw [q]; simp)
    exact ⟨(show (if j = i + 5 then _ else τ.1 j) = σ.1 j from by rw [if_neg hj5]; exact (at1 j hj).1), (at1 j hj).2⟩
theorem wI_m {i j : Nat} (h : i + 5 < j ∨ j + 5 < i) : ∀ k : Nat, k ∈ wI i → k < j ∨ j + 5 < k := fun k hk => by
  simp only [wI, List.mem_cons, List.not_mem_nil, or_false] at hk
  omega
theorem wI_18 {i : Nat} (h : 18 ≤ i) : ∀ k : Nat, k ∈ wI i → 18 ≤ k := fun k hk => by
  simp only [wI, List.mem_cons, List.not_mem_nil, or_false] at hk
  omega
theorem X_walk2 {b : Nat} {S : Nat → Nat} (hn : 100 ≤ n) (hw : okW S b) {ru : RU} {x : Int32} {m : Nat} (hb : b + m < 2 ^ 20) : ∀ (k j : Nat) (σ : PS), RX σ 217 (pasN S ru j) → foX n σ ru x → j ≤ m → m < k + j → ∃ τ, L_X4_stride_3 n 217 k x (nI m) (nI j) σ = some τ ∧ RX τ 217 (pasN S ru m) ∧ agx (wI 217) σ τ
  | 0, j, σ, hR, hf, hj, hk => by omega
  | k + 1, j, σ, hR, hf, hj, hk => by
    by_cases e : j = m
    · subst e
      rw [L_X4_stride_3, if_pos (nI_le (Nat.le_refl _) (by omega))]
      exact ⟨σ, rfl, hR, agx_refl⟩
    · obtain ⟨τ, e1, r1, a1⟩ := X_str3 hn (show b + j < 2 ^ 20 by omega) (okW_pasN hw ru j) (by decide) hR hf (k := k) (m := m) (j := j) (by omega) (by omega)
      rw [e1]
      obtain ⟨υ, e2, r2, a2⟩ := X_walk2 hn hw hb k (j + 1) τ r1 (foX_agx hf a1 (wI_18 (by decide))) (by omega) (by omega)
      exact ⟨υ, e2, r2, agx_trans a1 a2⟩
theorem X_walkOn {b : Nat} {S : Nat → Nat} (hn : 100 ≤ n) (hw : okW S b) {ru : RU} {x : Int32} {m : Nat} (hb : b + m < 2 ^ 20) (hm : m < n) {σ : PS} (hR : RX σ 217 S) (hf : foX n σ ru x) : ∃ τ, F_X4_stride n 217 x (nI m) σ = some τ ∧ RX τ 217 (pasN S ru m) ∧ agx (wI 217) σ τ := by
  unfold F_X4_stride
  obtain ⟨τ, e, r, a⟩ := X_walk2 hn hw hb n 0 σ hR hf (by omega) (by omega)
  rw [show (0 : Int32) = nI 0 from rfl, e]
  exact ⟨τ, rfl, r, a⟩
theorem X_after {b a : Nat} {S : Nat → Nat} (hn : 100 ≤ n) (hw : okW S b) {ru : RU} {m : Nat} (hb : b + m < 2 ^ 20) (hm : m < n) (ha : 18 ≤ a) (ha2 : a + 12 < 217) {σ : PS} (hR : RX σ (a + 7) S) (hf : foX n σ ru (σ.1 a 5)) : ∃ τ, F_X2_after n a (nI m) σ = some (217, τ) ∧ RX τ 217 (pasN S ru m) ∧ agx (wI 217) σ τ := by
  unfold F_X2_after
  obtain ⟨τ, e, c⟩ := X_copyFrom (n := n) (i := 217) (a := a + 7) (σ := σ) hn (by omega)
  have ac : agx (wI 217) σ τ := agx_of c.2.2.2.2 (by decide)
  have h5 : τ.1 a 5 = σ.1 a 5 := by
    rw [(ac.1 a (fun q => by have := wI_m (i := 217) (j := a) (by omega) a q; omega) (by omega) (by omega)).1]
  rw [e, Option.bind_some, h5]
  obtain ⟨υ, e1, r1, a1⟩ := X_walkOn hn hw hb hm (CP_RX c hR hw.2.2.1) (foX_agx hf ac (wI_18 (by decide)))
  rw [e1]
  exact ⟨υ, rfl, r1, agx_trans ac a1⟩
end XC
