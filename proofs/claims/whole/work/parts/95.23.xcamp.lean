/-! The class's reading of a camp. -/
theorem bmK_ext {S T : Nat → Nat} {k : Nat} (hk : k ≤ 36) (e : ∀ j, j < 109 → T j = S j) : bmK T k = bmK S k := by
  apply Nat.eq_of_testBit_eq
  intro c
  rw [bmK_bit, bmK_bit]
  by_cases z : c < k
  · rw [e (37 + c) (by omega)]
  · rw [decide_eq_false (fun q => z q.1), decide_eq_false (fun q => z q.1)]
theorem RX_ext {σ : PS} {i : Nat} {S T : Nat → Nat} (h : RX σ i S) (h36 : S 1 * S 1 ≤ 36) (h2 : S 2 ≤ 6) (e : ∀ j, j < 109 → T j = S j) : RX σ i T := by
  obtain ⟨a0, a1, a2, a3, a4, a5, a6, a7, a8⟩ := h
  refine ⟨by rw [e 1 (by decide)]; exact a0, by rw [e 1 (by decide)]; exact a1, by rw [e 11 (by decide)]; exact a2, by rw [e 10 (by decide)]; exact a3, by rw [e 12 (by decide)]; exact a4, by rw [e 2 (by decide)]; exact a5, ?_, fun t ht => ?_, fun c hc => ?_⟩
  · rw [a6]
    congr 1
    show bmK S (S 1 * S 1) = bmK T (T 1 * T 1)
    rw [e 1 (by decide), bmK_ext h36 e]
  · rw [e 2 (by decide)] at ht
    rw [e _ (by omega), e _ (by omega), e _ (by omega), e _ (by omega)]; exact a7 t ht
  · rw [e _ (by omega)]; exact a8 c hc
section XG
variable {n : Nat} {B : Nat → Int32} {sz : Nat}
theorem X_num (hn : 1000 ≤ n) {p s : Nat} {σ : PS} (h : TX σ B sz p s 0) {lo hi : Nat} (hlo : lo < 2 ^ 31) (hhi : hi < 2 ^ 31) : ∃ τ, F_X9_takeNumber n (nI lo) (nI hi) σ = some (if nuF B sz p lo hi = 0 then 1 else 0, τ) ∧ TX τ B sz (nuE B sz p) (sk B sz p) (nI (nuF B sz p lo hi)) ∧ τ.1 1 4 = nI (nuV B sz p) ∧ agr [1] σ τ := X_number hn h hlo hhi
theorem bm_zero {S : Nat → Nat} {k : Nat} (h : ∀ c, c < k → S (37 + c) = 0) : bmK S k = 0 := by
  apply Nat.eq_of_testBit_eq
  intro c
  rw [bmK_bit, Nat.zero_testBit]
  exact decide_eq_false (fun q => q.2 (h c q.1))
/-- the square -/
theorem X_square (hn : 1000 ≤ n) {p s : Nat} {σ : PS} {V : Nat → Nat} (h : TX σ B sz p s 0) (hV : ∀ i, V i = 0) (hR : RX σ 217 (begS V)) : ∃ τ, F_X1_readSquare n 217 σ = some τ ∧ agr [1, 217] σ τ ∧ (∃ p' s', TX τ B sz p' s' (nI (n2F B sz p 2 6 0 (nuV B sz p * nuV B sz p - 1)))) ∧ (n2F B sz p 2 6 0 (nuV B sz p * nuV B sz p - 1) = 0 → ∃ s', TX τ B sz (nuE B sz (nuE B sz p)) s' 0 ∧ RX τ 217 (begS (un (un (un V 1 (nuV B sz p)) 109 (nuV B sz (nuE B sz p))) 0 1))) := by
  obtain ⟨τ1, a1, a2, a3, a4⟩ := X_num hn h (lo := 2) (hi := 6) (by decide) (by decide)
  unfold F_X1_readSquare
  show ∃ τ, (F_X9_takeNumber n (nI 2) (nI 6) σ).bind _ = some τ ∧ _
  rw [a1, Option.bind_some]
  unfold n2F
  by_cases z : nuF B sz p 2 6 = 0
  · have bd := nuF_0 z
    rw [if_pos z, if_neg ne10, if_pos z]
    rw [z] at a2
    generalize nuV B sz p = v at *
    have hvv : v * v ≤ 6 * 6 := Nat.mul_le_mul bd.2.1 bd.2.1
    have hv2 : 2 * 2 ≤ v * v := Nat.mul_le_mul bd.1 bd.1
    show ∃ τ, (F_X9_takeNumber n (nI 0) (((psI (psI τ1 217 0 (τ1.1 1 4)) 217 1 (((psI τ1 217 0 (τ1.1 1 4)).1 1 4) * ((psI τ1 217 0 (τ1.1 1 4)).1 1 4))).1 217 1) - (1 : Int32)) (psI (psI τ1 217 0 (τ1.1 1 4)) 217 1 (((psI τ1 217 0 (τ1.1 1 4)).1 1 4) * ((psI τ1 217 0 (τ1.1 1 4)).1 1 4)))).bind _ = some τ ∧ _
    have e14 : (psI τ1 217 0 (nI v)).1 1 4 = nI v := by rw [psI_other (by decide)]; exact a3
    rw [a3, e14, nI_mul, show (psI (psI τ1 217 0 (nI v)) 217 1 (nI (v * v))).1 217 1 = nI (v * v) by rw [psI_eq, if_pos rfl], show (1 : Int32) = nI 1 from rfl, nI_sub (by omega)]
    have a5 : agr [217] τ1 (psI (psI τ1 217 0 (nI v)) 217 1 (nI (v * v))) := agr_trans (agr_psI (by simp)) (agr_psI (by simp))
    have t5 := TX_agr a2 a5 (by decide) (by decide)
    obtain ⟨τ2, b1, b2, b3, b4⟩ := X_num hn t5 (lo := 0) (hi := v * v - 1) (by decide) (by omega)
    rw [b1, Option.bind_some]
    have x2 : agr [1, 217] σ τ2 := agr_trans (agr_mono a4 (by simp)) (agr_trans (agr_mono a5 (by simp)) (agr_mono b4 (by simp)))
    by_cases z2 : nuF B sz (nuE B sz p) 0 (v * v - 1) = 0
    · rw [if_pos z2, if_neg ne10]
      rw [z2] at b2
      show ∃ τ, some (psI τ2 217 2 (τ2.1 1 4)) = some τ ∧ _
      rw [b3]
      have a6 : agr [217] τ2 (psI τ2 217 2 (nI (nuV B sz (nuE B sz p)))) := agr_psI (by simp)
      have t6 := TX_agr b2 a6 (by decide) (by decide)
      refine ⟨_, rfl, agr_trans x2 (agr_mono a6 (by simp)), ⟨_, _, by rw [z2]; exact t6⟩, fun _ => ⟨_, t6, ?_⟩⟩
      obtain ⟨r0, r1, r2, r3, r4, r5, r6, r7, r8⟩ := hR
      have bs : ∀ i, i < 109 → i ≠ 0 → i ≠ 1 → i ≠ 11 → begS (un (un (un V 1 v) 109 (nuV B sz (nuE B sz p))) 0 1) i = begS V i := by
        intro i hi h0 h1 h11
        unfold begS
        have uu : ∀ k, k ≠ 0 → k ≠ 1 → k ≠ 109 → un (un (un V 1 v) 109 (nuV B sz (nuE B sz p))) 0 1 k = V k := fun k q0 q1 q2 => by rw [un_ne _ _ q0, un_ne _ _ q2, un_ne _ _ q1]
        rw [if_neg h11, if_neg h11, uu (110 + (i - 13) / 4) (by omega) (by omega) (by omega), uu (116 + (i - 13) / 4) (by omega) (by omega) (by omega), uu (122 + (i - 37)) (by omega) (by omega) (by omega)]
        by_cases q : i < 10
        · rw [if_pos q, if_pos q]; exact uu i h0 h1 (by omega)
        · rw [if_neg q, if_neg q]
          by_cases q2 : i = 10
          · rw [if_pos q2, if_pos q2]
          rw [if_neg q2, if_neg q2]
          by_cases q3 : i = 12
          · rw [if_pos q3, if_pos q3]
          rw [if_neg q3, if_neg q3]
          by_cases q4 : i < 37
          · rw [if_pos q4, if_pos q4]
          rw [if_neg q4, if_neg q4]
          by_cases q5 : i < 73
          · rw [if_pos q5, if_pos q5]
          rw [if_neg q5, if_neg q5, if_pos hi, if_pos hi]
      have s1 : begS (un (un (un V 1 v) 109 (nuV B sz (nuE B sz p))) 0 1) 1 = v := by rw [begS_lo _ (by decide), un_ne _ _ (by decide), un_ne _ _ (by decide), un_eq]
      have s11 : begS (un (un (un V 1 v) 109 (nuV B sz (nuE B sz p))) 0 1) 11 = nuV B sz (nuE B sz p) := by rw [begS_11, un_ne _ _ (by decide), un_eq]
      have g : ∀ k, k ≠ 0 → k ≠ 1 → k ≠ 2 → (psI τ2 217 2 (nI (nuV B sz (nuE B sz p)))).1 217 k = σ.1 217 k := fun k k0 k1 k2 => by
        rw [psI_eq, if_neg k2, (b4 217 (by decide)).1, psI_eq, if_neg k1, psI_eq, if_neg k0, (a4 217 (by decide)).1]
      have gj : (psI τ2 217 2 (nI (nuV B sz (nuE B sz p)))).2 217 6 = σ.2 217 6 := by
        show τ2.2 217 6 = _
        rw [(b4 217 (by decide)).2]
        show τ1.2 217 6 = _
        rw [(a4 217 (by decide)).2]
      have gr : ∀ j, j ≠ 1 → j ≠ 217 → (psI τ2 217 2 (nI (nuV B sz (nuE B sz p)))).1 j = σ.1 j := fun j j1 j2 => by
        rw [psI_other j2, (b4 j (by simpa using j1)).1, psI_other j2, psI_other j2, (a4 j (by simpa using j1)).1]
      have hbV : ∀ c, c < 36 → begS V (37 + c) = 0 := fun c hc => by rw [begS_b _ hc, hV]
      refine ⟨?_, ?_, ?_, ?_, ?_, ?_, ?_, fun t ht => ?_, fun c hc => ?_⟩
      · rw [s1, psI_eq, if_neg (by decide), (b4 217 (by decide)).1, psI_eq, if_neg (by decide), psI_eq, if_pos rfl]
      · rw [s1, psI_eq, if_neg (by decide), (b4 217 (by decide)).1, psI_eq, if_pos rfl]
      · rw [s11, psI_eq, if_pos rfl]
      · rw [g 3 (by decide) (by decide) (by decide), bs 10 (by decide) (by decide) (by decide) (by decide)]; exact r3
      · rw [g 4 (by decide) (by decide) (by decide), bs 12 (by decide) (by decide) (by decide) (by decide)]; exact r4
      · rw [g 5 (by decide) (by decide) (by decide), bs 2 (by decide) (by decide) (by decide) (by decide)]; exact r5
      · rw [gj, r6]
        congr 1
        show bmK _ _ = bmK _ _
        rw [bm_zero (fun c hc => hbV c (by rw [begS_lo _ (by decide), hV] at hc; omega)), bm_zero (fun c hc => by rw [s1] at hc; rw [bs _ (by omega) (by omega) (by omega) (by omega)]; exact hbV c (by omega))]
      · rw [bs 2 (by decide) (by decide) (by decide) (by decide), begS_lo _ (by decide), hV] at ht; omega
      · rw [gr 222 (by decide) (by decide), bs _ (by omega) (by omega) (by omega) (by omega)]; exact r8 c hc
    · rw [if_neg z2, if_pos rfl]
      exact ⟨τ2, rfl, x2, ⟨_, _, b2⟩, fun w => absurd w z2⟩
  · rw [if_neg z, if_pos rfl, if_neg z]
    exact ⟨τ1, rfl, agr_mono a4 (by simp), ⟨_, _, a2⟩, fun w => absurd w z⟩
/-- a tent more -/
theorem X_addTent {σ : PS} {V : Nat → Nat} {c v : Nat} (hR : RX σ 217 (begS V)) (h1' : V 1 ≤ 6) (h2 : V 2 ≤ 5) : ∃ τ, F_X10_addTent n 217 (nI c) (nI v) σ = some τ ∧ RX τ 217 (begS (un (un (un V (110 + V 2) c) (116 + V 2) v) 2 (V 2 + 1))) ∧ agr [217, 218, 219, 220, 221] σ τ := by
  obtain ⟨r0, r1, r2, r3, r4, r5, r6, r7, r8⟩ := hR
  have r5' : σ.1 217 5 = nI (V 2) := by rw [r5, begS_lo _ (by decide)]
  have h36 : V 1 * V 1 ≤ 6 * 6 := Nat.mul_le_mul h1' h1'
  generalize hk : V 2 = k at *
  unfold F_X10_addTent
  have e1 : (psI σ 218 k (nI c)).1 217 5 = nI k := by rw [psI_other (by decide)]; exact r5'
  have e2 : (psI (psI σ 218 k (nI c)) 219 k (nI v)).1 217 5 = nI k := by rw [psI_other (by decide)]; exact e1
  have e3 : (psI (psI (psI σ 218 k (nI c)) 219 k (nI v)) 220 k (0 : Int32)).1 217 5 = nI k := by rw [psI_other (by decide)]; exact e2
  have e4 : (psI (psI (psI (psI σ 218 k (nI c)) 219 k (nI v)) 220 k (0 : Int32)) 221 k (nI (2 ^ k))).1 217 5 = nI k := by rw [psI_other (by decide)]; exact e3
  simp only [Nat.reduceAdd, r5', nI_clamp (show k < 2 ^ 31 by omega), e1, e2, e3, nI_shl1 k (by omega), e4, nI_p1]
  have g : (0 ≤ nI k ∧ k < 6) := ⟨nI_pos' (by omega), by omega⟩
  rw [if_neg (show ¬ (6 : Int32) ≤ nI k from nI_ge (show k < 6 by omega) (by decide)), if_pos g, if_pos g, if_pos g, if_pos g]
  have ag : agr [217, 218, 219, 220, 221] σ (psI (psI (psI (psI (psI σ 218 k (nI c)) 219 k (nI v)) 220 k (0 : Int32)) 221 k (nI (2 ^ k))) 217 5 (nI (k + 1))) := agr_trans (agr_psI (by simp)) (agr_trans (agr_psI (by simp)) (agr_trans (agr_psI (by simp)) (agr_trans (agr_psI (by simp)) (agr_psI (by simp)))))
  refine ⟨_, rfl, ?_, ag⟩
  generalize hW : un (un (un V (110 + k) c) (116 + k) v) 2 (k + 1) = W
  have w2 : W 2 = k + 1 := by rw [← hW, un_eq]
  have wlo : ∀ i, i ≠ 2 → i < 110 ∨ 122 ≤ i → W i = V i := fun i hi h => by rw [← hW, un_ne _ _ hi, un_ne _ _ (by omega), un_ne _ _ (by omega)]
  have s1 : begS W 1 = begS V 1 := by rw [begS_lo _ (by decide), begS_lo _ (by decide)]; exact wlo 1 (by decide) (by omega)
  have fld : ∀ j, j ≠ 5 → (psI (psI (psI (psI (psI σ 218 k (nI c)) 219 k (nI v)) 220 k (0 : Int32)) 221 k (nI (2 ^ k))) 217 5 (nI (k + 1))).1 217 j = σ.1 217 j := fun j hj => by
    rw [psI_eq, if_neg hj, psI_other (by decide), psI_other (by decide), psI_other (by decide), psI_other (by decide)]
  have bsb : ∀ x, x < 36 → begS W (37 + x) = begS V (37 + x) := fun x hx => by rw [begS_b _ hx, begS_b _ hx]; exact wlo _ (by omega) (by omega)
  refine ⟨?_, ?_, ?_, ?_, ?_, ?_, ?_, fun t ht => ?_, fun x hx => ?_⟩
  · rw [fld 0 (by decide), s1]; exact r0
  · rw [fld 1 (by decide), s1]; exact r1
  · rw [fld 2 (by decide), begS_11, wlo 109 (by decide) (by omega)]; exact r2
  · rw [fld 3 (by decide), begS_10]; exact r3
  · rw [fld 4 (by decide), begS_12]; exact r4
  · rw [psI_eq, if_pos rfl, begS_lo _ (by decide), w2]
  · show σ.2 217 6 = _
    rw [r6]
    congr 1
    show bmK _ _ = bmK _ _
    rw [s1]
    have hb1 : begS V 1 * begS V 1 ≤ 36 := by rw [begS_lo _ (by decide)]; omega
    apply Nat.eq_of_testBit_eq
    intro x
    rw [bmK_bit, bmK_bit]
    by_cases q : x < begS V 1 * begS V 1
    · rw [bsb x (by omega)]
    · rw [decide_eq_false (fun z => q z.1), decide_eq_false (fun z => q z.1)]
  · rw [begS_lo _ (by decide), w2] at ht
    have t6 : t < 6 := by omega
    rw [begS_t0 _ t6, begS_t1 _ t6, begS_t2 _ t6, begS_t3 _ t6]
    have c218 : (psI (psI (psI (psI (psI σ 218 k (nI c)) 219 k (nI v)) 220 k (0 : Int32)) 221 k (nI (2 ^ k))) 217 5 (nI (k + 1))).1 (217 + 1) t = if t = k then nI c else σ.1 218 t := by
      show (psI (psI (psI (psI (psI σ 218 k (nI c)) 219 k (nI v)) 220 k (0 : Int32)) 221 k (nI (2 ^ k))) 217 5 (nI (k + 1))).1 218 t = _
      rw [psI_other (by decide), psI_other (by decide), psI_other (by decide), psI_other (by decide), psI_eq]
    have c219 : (psI (psI (psI (psI (psI σ 218 k (nI c)) 219 k (nI v)) 220 k (0 : Int32)) 221 k (nI (2 ^ k))) 217 5 (nI (k + 1))).1 (217 + 2) t = if t = k then nI v else σ.1 219 t := by
      show (psI (psI (psI (psI (psI σ 218 k (nI c)) 219 k (nI v)) 220 k (0 : Int32)) 221 k (nI (2 ^ k))) 217 5 (nI (k + 1))).1 219 t = _
      rw [psI_other (by decide), psI_other (by decide), psI_other (by decide), psI_eq, psI_other (by decide)]
    have c220 : (psI (psI (psI (psI (psI σ 218 k (nI c)) 219 k (nI v)) 220 k (0 : Int32)) 221 k (nI (2 ^ k))) 217 5 (nI (k + 1))).1 (217 + 3) t = if t = k then 0 else σ.1 220 t := by
      show (psI (psI (psI (psI (psI σ 218 k (nI c)) 219 k (nI v)) 220 k (0 : Int32)) 221 k (nI (2 ^ k))) 217 5 (nI (k + 1))).1 220 t = _
      rw [psI_other (by decide), psI_other (by decide), psI_eq, psI_other (by decide), psI_other (by decide)]
    have c221 : (psI (psI (psI (psI (psI σ 218 k (nI c)) 219 k (nI v)) 220 k (0 : Int32)) 221 k (nI (2 ^ k))) 217 5 (nI (k + 1))).1 (217 + 4) t = if t = k then nI (2 ^ k) else σ.1 221 t := by
      show (psI (psI (psI (psI (psI σ 218 k (nI c)) 219 k (nI v)) 220 k (0 : Int32)) 221 k (nI (2 ^ k))) 217 5 (nI (k + 1))).1 221 t = _
      rw [psI_other (by decide), psI_eq, psI_other (by decide), psI_other (by decide), psI_other (by decide)]
    rw [c218, c219, c220, c221]
    by_cases et : t = k
    · subst et
      rw [if_pos rfl, if_pos rfl, if_pos rfl, if_pos rfl, ← hW, un_ne _ _ (by omega), un_ne _ _ (by omega), un_eq, un_ne _ _ (by omega), un_eq]
      exact ⟨rfl, rfl, rfl, rfl⟩
    · have old := r7 t (by rw [begS_lo _ (by decide), hk]; omega)
      rw [begS_t0 _ t6, begS_t1 _ t6, begS_t2 _ t6, begS_t3 _ t6] at old
      rw [if_neg et, if_neg et, if_neg et, if_neg et, ← hW, un_ne _ _ (by omega), un_ne _ _ (by omega), un_ne _ _ (by omega), un_ne _ _ (by omega), un_ne _ _ (by omega), un_ne _ _ (by omega)]
      exact old
  · show (psI (psI (psI (psI (psI σ 218 k (nI c)) 219 k (nI v)) 220 k (0 : Int32)) 221 k (nI (2 ^ k))) 217 5 (nI (k + 1))).1 222 x = _
    rw [psI_other (by decide), psI_other (by decide), psI_other (by decide), psI_other (by decide), psI_other (by decide), begS_n _ hx]
    have := r8 x hx
    rw [begS_n _ hx] at this
    exact this
theorem X_tent (hn : 1000 ≤ n) {p s : Nat} {σ : PS} {V : Nat → Nat} (h : TX σ B sz p s 0) (hR : RX σ 217 (begS V)) (h1 : 2 ≤ V 1) (h1' : V 1 ≤ 6) (h2 : V 2 ≤ 5) : ∃ τ, F_X1_readTent n 217 σ = some τ ∧ agr [1, 217, 218, 219, 220, 221] σ τ ∧ (∃ p' s', TX τ B sz p' s' (nI (n2F B sz p 0 (V 1 * V 1 - 1) 0 20))) ∧ (n2F B sz p 0 (V 1 * V 1 - 1) 0 20 = 0 → ∃ s', TX τ B sz (nuE B sz (nuE B sz p)) s' 0 ∧ RX τ 217 (begS (un (un (un V (110 + V 2) (nuV B sz p)) (116 + V 2) (nuV B sz (nuE B sz p))) 2 (V 2 + 1)))) := by
  have h36 : V 1 * V 1 ≤ 6 * 6 := Nat.mul_le_mul h1' h1'
  have hv2 : 2 * 2 ≤ V 1 * V 1 := Nat.mul_le_mul h1 h1
  have e1 : σ.1 217 1 = nI (V 1 * V 1) := by rw [hR.2.1, begS_lo _ (by decide)]
  unfold F_X1_readTent
  rw [e1]
  show ∃ τ, (F_X9_takeNumber n (nI 0) (nI (V 1 * V 1) - nI 1) σ).bind _ = some τ ∧ _
  rw [nI_sub (by omega)]
  obtain ⟨τ1, a1, a2, a3, a4⟩ := X_num hn h (lo := 0) (hi := V 1 * V 1 - 1) (by decide) (by omega)
  rw [a1, Option.bind_some]
  unfold n2F
  by_cases z : nuF B sz p 0 (V 1 * V 1 - 1) = 0
  · rw [if_pos z, if_neg ne10, if_pos z]
    rw [z] at a2
    obtain ⟨τ2, b1, b2, b3, b4⟩ := X_num hn a2 (lo := 0) (hi := 20) (by decide) (by decide)
    show ∃ τ, (F_X9_takeNumber n (nI 0) (nI 20) τ1).bind (fun q4 => if q4.1 = 0 then some q4.2 else (F_X10_addTent n 217 (τ1.1 1 4) (q4.2.1 1 4) q4.2).bind (fun q7 => some q7)) = some τ ∧ _
    rw [b1, Option.bind_some]
    have x2 : agr [1, 217, 218, 219, 220, 221] σ τ2 := agr_trans (agr_mono a4 (by simp)) (agr_mono b4 (by simp))
    by_cases z2 : nuF B sz (nuE B sz p) 0 20 = 0
    · rw [if_pos z2, if_neg ne10, a3, b3]
      rw [z2] at b2
      have hR2 := RX_agr (RX_agr hR a4 (by decide)) b4 (by decide)
      obtain ⟨τ3, c1, c2, c3⟩ := X_addTent (n := n) (c := nuV B sz p) (v := nuV B sz (nuE B sz p)) hR2 h1' h2
      rw [c1]
      have t3 := TX_agr b2 c3 (by decide) (by decide)
      exact ⟨τ3, rfl, agr_trans x2 (agr_mono c3 (by simp)), ⟨_, _, by rw [z2]; exact t3⟩, fun _ => ⟨_, t3, c2⟩⟩
    · rw [if_neg z2, if_pos rfl]
      exact ⟨τ2, rfl, x2, ⟨_, _, b2⟩, fun w => absurd w z2⟩
  · rw [if_neg z, if_pos rfl, if_neg z]
    exact ⟨τ1, rfl, agr_mono a4 (by simp), ⟨_, _, a2⟩, fun w => absurd w z⟩
theorem X_bushC (hn : 1000 ≤ n) {p s : Nat} {σ : PS} {V : Nat → Nat} (h : TX σ B sz p s 0) (hR : RX σ 217 (begS V)) (h1 : 2 ≤ V 1) (h1' : V 1 ≤ 6) (h2 : V 2 ≤ 6) : ∃ τ, J_X1_readClause_127 n 217 0 0 σ = some τ ∧ agr [1, 217, 218, 219, 220, 221] σ τ ∧ (∃ p' s', TX τ B sz p' s' (nI (nuF B sz p 0 (V 1 * V 1 - 1)))) ∧ (nuF B sz p 0 (V 1 * V 1 - 1) = 0 → ∃ s', TX τ B sz (nuE B sz p) s' 0 ∧ RX τ 217 (begS (un V (122 + nuV B sz p) 1))) := by
  have h36 : V 1 * V 1 ≤ 6 * 6 := Nat.mul_le_mul h1' h1'
  have hv2 : 2 * 2 ≤ V 1 * V 1 := Nat.mul_le_mul h1 h1
  have e1 : σ.1 217 1 = nI (V 1 * V 1) := by rw [hR.2.1, begS_lo _ (by decide)]
  unfold J_X1_readClause_127
  rw [if_pos rfl, if_pos rfl, e1]
  show ∃ τ, (F_X9_takeNumber n (nI 0) (nI (V 1 * V 1) - nI 1) σ).bind _ = some τ ∧ _
  rw [nI_sub (by omega)]
  obtain ⟨τ1, a1, a2, a3, a4⟩ := X_num hn h (lo := 0) (hi := V 1 * V 1 - 1) (by decide) (by omega)
  rw [a1, Option.bind_some]
  by_cases z : nuF B sz p 0 (V 1 * V 1 - 1) = 0
  · have bd := nuF_0 z
    rw [if_pos z, if_neg ne10]
    rw [z] at a2
    have hR1 := RX_agr hR a4 (by decide)
    obtain ⟨r0, r1, r2, r3, r4, r5, r6, r7, r8⟩ := id hR1
    generalize nuV B sz p = v at *
    show ∃ τ, some (psJ τ1 217 6 ((τ1.2 217 6) ||| ((1 : Int64) <<< ((τ1.1 1 4).toInt64 &&& 63)))) = some τ ∧ _
    have b36 : bm (begS V) < 2 ^ 64 := by
      have q1 := bmK_lt (begS V) (begS V 1 * begS V 1)
      have e : begS V 1 * begS V 1 ≤ 36 := by rw [begS_lo _ (by decide)]; omega
      have q2 : 2 ^ (begS V 1 * begS V 1) ≤ 2 ^ 36 := Nat.pow_le_pow_right (by decide) e
      show bmK (begS V) (begS V 1 * begS V 1) < 2 ^ 64
      omega
    have v64 : 2 ^ v < 2 ^ 64 := Nat.pow_lt_pow_right (by decide) (by omega)
    rw [a3, r6, show (1 : Int64) = lN 1 from rfl, wb_shl 1 (show v < 64 by omega), Nat.one_mul, wb_or b36 v64]
    have a5 : agr [217] τ1 (psJ τ1 217 6 (lN (bm (begS V) ||| 2 ^ v))) := agr_psJ (by simp)
    have t5 := TX_agr a2 a5 (by decide) (by decide)
    refine ⟨_, rfl, agr_trans (agr_mono a4 (by simp)) (agr_mono a5 (by simp)), ⟨_, _, by rw [z]; exact t5⟩, fun _ => ⟨_, t5, ?_⟩⟩
    have wlo : ∀ i, i < 122 → un V (122 + v) 1 i = V i := fun i hi => un_ne _ _ (by omega)
    have bs : ∀ i, i < 37 ∨ 73 ≤ i → i < 109 → begS (un V (122 + v) 1) i = begS V i := by
      intro i hi h109
      unfold begS
      rw [wlo 109 (by decide)]
      by_cases q : i < 10
      · rw [if_pos q, if_pos q]; exact wlo i (by omega)
      rw [if_neg q, if_neg q]
      by_cases q5 : i < 37
      · rw [if_pos q5, if_pos q5, wlo (110 + (i - 13) / 4) (by omega), wlo (116 + (i - 13) / 4) (by omega)]
      · rw [if_neg q5, if_neg q5, if_neg (by omega : ¬ i < 73), if_neg (by omega : ¬ i < 73), if_pos h109, if_pos h109]
    have s1 : begS (un V (122 + v) 1) 1 = begS V 1 := bs 1 (by omega) (by omega)
    refine ⟨by rw [s1]; exact r0, by rw [s1]; exact r1, by rw [bs 11 (by omega) (by omega)]; exact r2, by rw [bs 10 (by omega) (by omega)]; exact r3, by rw [bs 12 (by omega) (by omega)]; exact r4, by rw [bs 2 (by omega) (by omega)]; exact r5, ?_, fun t ht => ?_, fun c hc => ?_⟩
    · rw [psJ_eq, if_pos rfl]
      congr 1
      show bmK _ _ ||| 2 ^ v = bmK _ _
      rw [s1]
      have eb : begS V 1 * begS V 1 = V 1 * V 1 := by rw [begS_lo _ (by decide)]
      rw [eb]
      apply Nat.eq_of_testBit_eq
      intro c
      rw [Nat.testBit_or, bmK_bit, bmK_bit, Nat.testBit_two_pow]
      by_cases q : c < V 1 * V 1
      · rw [begS_b _ (show c < 36 by omega), begS_b _ (show c < 36 by omega)]
        by_cases ec : v = c
        · subst ec
          rw [un_eq]
          simp [q]
        · rw [un_ne _ _ (by omega)]
          simp [ec]
      · rw [decide_eq_false (show ¬ (c < V 1 * V 1 ∧ begS V (37 + c) ≠ 0) from fun w => q w.1), decide_eq_false (show ¬ (c < V 1 * V 1 ∧ begS (un V (122 + v) 1) (37 + c) ≠ 0) from fun w => q w.1), decide_eq_false (show ¬ v = c by omega)]
        rfl
    · rw [bs 2 (by omega) (by omega), begS_lo _ (by decide)] at ht
      rw [bs _ (by omega) (by omega), bs _ (by omega) (by omega), bs _ (by omega) (by omega), bs _ (by omega) (by omega)]
      exact r7 t (by rw [begS_lo _ (by decide)]; exact ht)
    · rw [bs _ (by omega) (by omega)]; exact r8 c hc
  · rw [if_neg z, if_pos rfl]
    exact ⟨τ1, rfl, agr_mono a4 (by simp), ⟨_, _, a2⟩, fun w => absurd w z⟩
end XG
