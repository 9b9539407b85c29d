/-! The class's favourite by a rule, its step. -/
theorem lg_le0 (x y : Int64) : lg_cmp x y ≤ 0 ↔ ¬ y < x := by
  rw [← lg_cmp_gt x y]
  exact Int32.not_lt.symm
abbrev wI (i : Nat) : List Nat := [i, i + 1, i + 2, i + 3, i + 4, i + 5]
section XF
variable {n b i : Nat} {S : Nat → Nat}
theorem X_fav17 (hn : 100 ≤ n) (hb : b < 2 ^ 20) (hw : okW S b) (hi : 18 < i) {r : Nat} {f : (Nat → Int64) → Int64} (hr : r < 6) {k d x : Nat} {acc : Nat × Int64} {σ : PS} (hR : RX σ i S) (hru : ruX n σ r f) (hd : d < 4) (hx : pTb0.getD d 0 = nI x) (hx4 : x < 4) : ∃ τ, L_X4_favourite_17 n i (k + 1) (nI r) (lN (caK S (S 2))) (nI acc.1) acc.2 (nI d) σ = L_X4_favourite_17 n i k (nI r) (lN (caK S (S 2))) (nI (if ps S (S 11) x < S 1 * S 1 then stp S (some f) 0 acc (ps S (S 11) x) else acc).1) (if ps S (S 11) x < S 1 * S 1 then stp S (some f) 0 acc (ps S (S 11) x) else acc).2 (nI (d + 1)) τ ∧ agx [] σ τ := by
  have h36 := okW_36 hw
  have h11 := hw.2.2.2.1
  rw [L_X4_favourite_17]
  rw [show (4 : Int32) = nI 4 from rfl, if_neg (nI_ge (by omega) (by omega)), show (0 : Int32) = nI 0 from rfl, show (1 : Int32) = nI 1 from rfl]
  simp (disch := omega) only [nI_ge0, nI_clamp, true_and]
  rw [if_pos hd, hR.2.2.1, show pTb0.getD d (nI 0) = nI x from hx, X_passable hR hw.1 hw.2.1 h11 hx4]
  simp only [Option.bind_some, nI_add]
  have hps := ps_lt (d := x) h11 h36
  by_cases e : ps S (S 11) x = 99
  · rw [if_neg (show ¬ ps S (S 11) x < S 1 * S 1 from fun q => hps.mp q e), if_pos (show oI (ps S (S 11) x) = -(nI 1) by rw [e]; rfl)]
    exact ⟨σ, rfl, agx_refl⟩
  · have hl := hps.mpr e
    rw [if_pos hl]
    generalize ps S (S 11) x = c at e hl ⊢
    have ho : oI c = nI c := if_neg e
    rw [ho, if_neg (show ¬ nI c = -(nI 1) from m1_ne (by omega)), if_pos hr]
    have hst : stp S (some f) 0 acc c = if acc.2 < f (wrd S c) then (c, f (wrd S c)) else acc := rfl
    rw [hst]
    have fin : ∀ v, (σ.1 16 r = 0 ∨ v = nI (nr S c)) → ∃ τ, (F_X4_worthOf n i (nI r) (nI c) (psI σ 7 6 v)).bind (fun q14 => (if (lg_cmp q14.1 acc.2) ≤ 0 then L_X4_favourite_17 n i k (nI r) (lN (caK S (S 2))) (nI acc.1) acc.2 (nI (d + 1)) q14.2 else L_X4_favourite_17 n i k (nI r) (lN (caK S (S 2))) (nI c) q14.1 (nI (d + 1)) q14.2)) = L_X4_favourite_17 n i k (nI r) (lN (caK S (S 2))) (nI (if acc.2 < f (wrd S c) then (c, f (wrd S c)) else acc).1) (if acc.2 < f (wrd S c) then (c, f (wrd S c)) else acc).2 (nI (d + 1)) τ ∧ agx [] σ τ := by
      intro v hv
      have ha : agx [] σ (psI σ 7 6 v) := agx_fld (by decide)
      have hv' : (psI σ 7 6 v).1 7 6 = v := by rw [psI_eq, if_pos rfl]
      have hm : ∀ j : Nat, j ∈ ([] : List Nat) → j < i ∨ i + 5 < j := fun j hj => by cases hj
      obtain ⟨υ, e1, a1⟩ := hru (psI σ 7 6 v) i S b c hi (RX_agx hR ha hi hm) hb hw hl (by rw [psI_other (by decide)]) (by rw [psI_other (by omega)]) (by rw [hv']; exact hv)
      rw [e1, Option.bind_some]
      refine ⟨υ, ?_, agx_trans ha a1⟩
      by_cases z : acc.2 < f (wrd S c)
      · rw [if_pos z, if_neg (fun q => (lg_le0 _ _).mp q z)]
      · rw [if_neg z, if_pos ((lg_le0 _ _).mpr z)]
    by_cases hu : σ.1 16 r = nI 0
    · rw [if_pos hu, if_pos trivial]
      exact fin _ (Or.inl hu)
    · rw [if_neg hu, (X_near hn hR hb hw hl).1, Option.bind_some]
      rcases (X_near hn hR hb hw hl).2 with h | h
      · have ho' : oI (nr S c) = nI (nr S c) := if_neg (by omega)
        simp only [ho']
        rw [if_neg (show ¬ nI (nr S c) = -(nI 1) from m1_ne (by omega))]
        exact fin _ (Or.inr rfl)
      · have ho' : oI (nr S c) = -(nI 1) := if_pos h
        simp only [ho', if_true]
        exact fin _ (Or.inr (by rw [h]; rfl))
theorem nil_m {i : Nat} : ∀ j : Nat, j ∈ ([] : List Nat) → j < i ∨ i + 5 < j := fun j hj => by cases hj
theorem nil_18 : ∀ j : Nat, j ∈ ([] : List Nat) → 18 ≤ j := fun j hj => by cases hj
theorem X_favourite (hn : 100 ≤ n) (hb : b < 2 ^ 20) (hw : okW S b) (hi : 18 < i) {r : Nat} {f : (Nat → Int64) → Int64} (hr : r < 6) {σ : PS} (hR : RX σ i S) (hru : ruX n σ r f) : ∃ τ, F_X4_favourite n i (nI r) σ = some (nI (chS S (some f)), τ) ∧ agx [] σ τ := by
  have h36 := okW_36 hw
  have ht := hw.2.2.2.2.1
  unfold F_X4_favourite
  rw [X_cellsToAsk hn hR hw.2.2.1 (fun t h => by have := (ht t h).1; omega) (fun t h => by have := (ht t h).2.2.1; omega), Option.bind_some]
  simp only []
  rw [hR.2.2.1, show (0 : Int32) = nI 0 from rfl]
  obtain ⟨m, rfl⟩ : ∃ m, n = m + 5 := ⟨n - 5, by omega⟩
  obtain ⟨τ0, e0, a0⟩ := X_fav17 (k := m + 4) (d := 0) (x := 2) (acc := (S 11, 0)) hn hb hw hi hr hR hru (by decide) rfl (by decide)
  have R0 := RX_agx hR a0 hi nil_m
  have u0 := ruX_agx hru a0 hr nil_18
  obtain ⟨τ1, e1, a1⟩ := X_fav17 (k := m + 3) (d := 1) (x := 0) hn hb hw hi hr R0 u0 (by decide) rfl (by decide)
  have R1 := RX_agx R0 a1 hi nil_m
  have u1 := ruX_agx u0 a1 hr nil_18
  obtain ⟨τ2, e2, a2⟩ := X_fav17 (k := m + 2) (d := 2) (x := 1) hn hb hw hi hr R1 u1 (by decide) rfl (by decide)
  have R2 := RX_agx R1 a2 hi nil_m
  have u2 := ruX_agx u1 a2 hr nil_18
  obtain ⟨τ3, e3, a3⟩ := X_fav17 (k := m + 1) (d := 3) (x := 3) hn hb hw hi hr R2 u2 (by decide) rfl (by decide)
  have key := e0.trans (e1.trans (e2.trans e3))
  have hx : chS S (some f) = (xfK S (some f) 0 (S 1 * S 1)).1 := by
    have : chS S (some f) = (chK S (some f) 0 (S 1 * S 1)).1 := rfl
    rw [this, chK_xf hw.1 _ h36]
  have fin : L_X4_favourite_17 (m + 5) i (m + 1) (nI r) (lN (caK S (S 2))) (nI (xfK S (some f) 0 (S 1 * S 1)).1) (xfK S (some f) 0 (S 1 * S 1)).2 (nI 4) τ3 = some (nI (chS S (some f)), τ3) := by
    rw [L_X4_favourite_17, show (4 : Int32) = nI 4 from rfl, if_pos (nI_le (Nat.le_refl _) (by decide)), hx]
  rw [show (m + 5) = (m + 4) + 1 from rfl] at *
  rw [key.trans fin, Option.bind_some]
  exact ⟨τ3, rfl, agx_trans a0 (agx_trans a1 (agx_trans a2 a3))⟩
theorem RX_move {σ : PS} (hR : RX σ i S) (h36 : S 1 * S 1 ≤ 36) (h2 : S 2 ≤ 6) {c : Nat} (hc : c < 36) : RX (psI (psI σ i 2 (nI c)) (i + 5) c (nI (S (73 + c) + 1))) i (un (un S 11 c) (73 + c) (S (73 + c) + 1)) := by
  obtain ⟨r0, r1, r2, r3, r4, r5, r6, rt, rb⟩ := hR
  have hcell : ∀ j, j ≠ 11 → j < 73 → un (un S 11 c) (73 + c) (S (73 + c) + 1) j = S j := fun j h1 h2 => by rw [un_ne _ _ (by omega), un_ne _ _ h1]
  have e1 := hcell 1 (by decide) (by decide)
  have e2 := hcell 2 (by decide) (by decide)
  have e10 := hcell 10 (by decide) (by decide)
  have e12 := hcell 12 (by decide) (by decide)
  have e11 : un (un S 11 c) (73 + c) (S (73 + c) + 1) 11 = c := by rw [un_ne _ _ (by omega), un_eq]
  have eb : bm (un (un S 11 c) (73 + c) (S (73 + c) + 1)) = bm S := bm_congr h36 e1 (fun c hc => hcell _ (by omega) (by omega))
  have n5 : i ≠ i + 5 := by omega
  refine ⟨?_, ?_, ?_, ?_, ?_, ?_, ?_, fun u hu => ?_, fun d hd => ?_⟩
  · simp [psI_get, n5, e1, r0]
  · simp [psI_get, n5, e1, r1]
  · simp [psI_get, n5, e11]
  · simp [psI_get, n5, e10, r3]
  · simp [psI_get, n5, e12, r4]
  · simp [psI_get, n5, e2, r5]
  · rw [eb]; exact r6
  · rw [e2] at hu
    have hu6 : u < 6 := by omega
    rw [hcell _ (by omega) (by omega), hcell _ (by omega) (by omega), hcell _ (by omega) (by omega), hcell _ (by omega) (by omega)]
    obtain ⟨a, b, c', d⟩ := rt u hu
    simp only [psI_get]
    refine ⟨?_, ?_, ?_, ?_⟩
    · rw [if_neg (by omega), if_neg (by omega)]; exact a
    · rw [if_neg (by omega), if_neg (by omega)]; exact b
    · rw [if_neg (by omega), if_neg (by omega)]; exact c'
    · rw [if_neg (by omega), if_neg (by omega)]; exact d
  · by_cases e : d = c
    · subst e
      rw [un_eq, psI_eq, if_pos rfl]
    · rw [un_ne _ _ (by omega), un_ne _ _ (by omega), psI_eq, if_neg e, psI_other (by omega)]
      exact rb d hd
theorem RX_stepN {σ : PS} (hR : RX σ i S) (h36 : S 1 * S 1 ≤ 36) (h2 : S 2 ≤ 6) (v : Nat) : RX (psI σ i 3 (nI v)) i (un S 10 v) := by
  obtain ⟨r0, r1, r2, r3, r4, r5, r6, rt, rb⟩ := hR
  have hcell : ∀ j, j ≠ 10 → un S 10 v j = S j := fun j h1 => un_ne _ _ h1
  have e1 := hcell 1 (by decide)
  have e2 := hcell 2 (by decide)
  have e11 := hcell 11 (by decide)
  have e12 := hcell 12 (by decide)
  have eb : bm (un S 10 v) = bm S := bm_congr h36 e1 (fun c hc => hcell _ (by omega))
  refine ⟨?_, ?_, ?_, ?_, ?_, ?_, ?_, fun u hu => ?_, fun d hd => ?_⟩
  · simp [psI_get, e1, r0]
  · simp [psI_get, e1, r1]
  · simp [psI_get, e11, r2]
  · rw [psI_eq, if_pos rfl, un_eq]
  · simp [psI_get, e12, r4]
  · simp [psI_get, e2, r5]
  · rw [eb]; exact r6
  · rw [e2] at hu
    rw [hcell _ (by omega), hcell _ (by omega), hcell _ (by omega), hcell _ (by omega), psI_other (by omega), psI_other (by omega), psI_other (by omega), psI_other (by omega)]
    exact rt u hu
  · rw [hcell _ (by omega), psI_other (by omega)]
    exact rb d hd
/-- from the choice on, a step is the same with and without a rule -/
theorem X_strideOn (hn : 100 ≤ n) (hb : b < 2 ^ 20) (hw : okW S b) (hi : 18 < i) {c : Nat} (hc : c < S 1 * S 1) {σ : PS} (hR : RX σ i S) (g : PS → Option PS) : ∃ τ, (if 0 ≤ ((psI σ i 2 (nI c)).1 i 2) ∧ ((psI σ i 2 (nI c)).1 i 2).toNatClampNeg < 36 then (F_X10_askWhoIsHere n i (psI (psI σ i 2 (nI c)) (i + 5) (((psI σ i 2 (nI c)).1 i 2).toNatClampNeg) (((psI σ i 2 (nI c)).1 (i + 5) (((psI σ i 2 (nI c)).1 i 2).toNatClampNeg)) + (1 : Int32)))).bind (fun q12 => g (psI q12 i 3 ((q12.1 i 3) + (1 : Int32)))) else none) = g τ ∧ RX τ i (un (aK (un (un S 11 c) (73 + c) (S (73 + c) + 1)) c (S 2)) 10 (S 10 + 1)) ∧ agx (wI i) σ τ := by
  have h36 := okW_36 hw
  have hcell : ∀ j, j ≠ 11 → j < 73 → un (un S 11 c) (73 + c) (S (73 + c) + 1) j = S j := fun j h1 h2 => by rw [un_ne _ _ (by omega), un_ne _ _ h1]
  have g0 : (psI σ i 2 (nI c)).1 i 2 = nI c := by rw [psI_eq, if_pos rfl]
  have g1 : (psI σ i 2 (nI c)).1 (i + 5) c = nI (S (73 + c)) := by rw [psI_other (by omega)]; exact hR.2.2.2.2.2.2.2.2 c (by omega)
  rw [g0]
  simp (disch := omega) only [nI_lit, nI_ge0, nI_clamp, true_and]
  rw [if_pos (by omega), g1, nI_add]
  have hR1 := RX_move hR h36 hw.2.2.1 (show c < 36 by omega)
  have e2 := hcell 2 (by decide) (by decide)
  have e1 := hcell 1 (by decide) (by decide)
  have e11 : un (un S 11 c) (73 + c) (S (73 + c) + 1) 11 = c := by rw [un_ne _ _ (by omega), un_eq]
  have ht := hw.2.2.2.2.1
  obtain ⟨τ, ea, ra, aa⟩ := X_ask hn hR1 (by rw [e1]; exact h36) (by rw [e2]; exact hw.2.2.1) (by rw [e11]; omega) (fun t h => by rw [e2] at h; have h6 := hw.2.2.1; rw [hcell _ (by omega) (by omega)]; have := (ht t h).1; omega) (fun t h => by rw [e2] at h; have h6 := hw.2.2.1; rw [hcell _ (by omega) (by omega)]; exact (ht t h).2.1)
  rw [ea, Option.bind_some]
  rw [e11, e2] at ra
  have q10 : aK (un (un S 11 c) (73 + c) (S (73 + c) + 1)) c (S 2) 10 = S 10 := by rw [aK_cell _ _ (by decide) (by omega) _ hw.2.2.1, hcell 10 (by decide) (by decide)]
  have q1 : aK (un (un S 11 c) (73 + c) (S (73 + c) + 1)) c (S 2) 1 = S 1 := by rw [aK_cell _ _ (by decide) (by omega) _ hw.2.2.1, e1]
  have q2 : aK (un (un S 11 c) (73 + c) (S (73 + c) + 1)) c (S 2) 2 = S 2 := by rw [aK_cell _ _ (by decide) (by omega) _ hw.2.2.1, e2]
  refine ⟨_, rfl, ?_, ?_⟩
  · rw [ra.2.2.2.1, q10, nI_add]
    exact RX_stepN ra (by rw [q1]; exact h36) (by rw [q2]; exact hw.2.2.1) _
  · have m1 : agx (wI i) σ (psI (psI σ i 2 (nI c)) (i + 5) c (nI (S (73 + c) + 1))) := agx_trans (agx_psI (by simp) (by omega)) (agx_psI (by simp) (by omega))
    have m2 : agx (wI i) (psI (psI σ i 2 (nI c)) (i + 5) c (nI (S (73 + c) + 1))) τ := agx_mono (agx_of aa (by simp; omega)) (by simp)
    exact agx_trans m1 (agx_trans m2 (agx_psI (by simp) (by omega)))
/-- one turn of the loop of steps -/
theorem X_str3 (hn : 100 ≤ n) (hb : b < 2 ^ 20) (hw : okW S b) (hi : 18 < i) {σ : PS} (hR : RX σ i S) {ru : RU} {x : Int32} (hf : foX n σ ru x) {k m j : Nat} (hj : j < m) (hm : m < 2 ^ 31) : ∃ τ, L_X4_stride_3 n i (k + 1) x (nI m) (nI j) σ = L_X4_stride_3 n i k x (nI m) (nI (j + 1)) τ ∧ RX τ i (pasS S ru) ∧ agx (wI i) σ τ := by
  have h36 := okW_36 hw
  have hc := chS_lt hw ru
  have h1 := hw.1
  have h1' := hw.2.1
  have h11 := hw.2.2.2.1
  have ht := hw.2.2.2.2.1
  have e1 : nI j + 1 = nI (j + 1) := by rw [show (1 : Int32) = nI 1 from rfl, nI_add]
  have hip : F_X10_hasCell n i (nI (S 11)) σ = some (1, σ) := by
    unfold F_X10_hasCell
    rw [hR.2.1, if_neg (show ¬ nI (S 11) < 0 from nI_n0 (by omega))]
    exact if_neg (nI_ge (by omega) (by omega))
  rw [L_X4_stride_3, if_neg (nI_ge hj hm), hR.2.2.1, hip, Option.bind_some, if_neg (show ¬ (1 : Int32) = 0 by decide), e1]
  cases ru with
  | none =>
    have hx : x = m1 := hf
    have hh : F_X4_has n x σ = some (0, σ) := by
      unfold F_X4_has
      rw [hx, if_pos m1_lt]
    rw [hh, Option.bind_some, if_pos rfl, X_cellsToAsk hn hR hw.2.2.1 (fun t h => by have := (ht t h).1; omega) (fun t h => by have := (ht t h).2.2.1; omega), Option.bind_some, X_towards_none hn hR hb hw, Option.bind_some]
    exact X_strideOn hn hb hw hi hc hR (fun s => L_X4_stride_3 n i k x (nI m) (nI (j + 1)) s)
  | some f =>
    obtain ⟨r, z, hrz, hz, h7, hx, hru⟩ := hf
    have hh : F_X4_has n x σ = some (1, σ) := by
      unfold F_X4_has
      rw [hx, h7, if_neg (show ¬ nI r < 0 from nI_n0 (by omega)), if_neg (nI_ge (by omega) (by omega))]
    obtain ⟨τ, e, a⟩ := X_favourite hn hb hw hi (show r < 6 by omega) hR hru
    rw [← hx] at e
    rw [hh, Option.bind_some, if_neg (show ¬ (1 : Int32) = 0 by decide), e, Option.bind_some]
    obtain ⟨υ, e1, r1, a1⟩ := X_strideOn hn hb hw hi hc (RX_agx hR a hi nil_m) (fun s => L_X4_stride_3 n i k x (nI m) (nI (j + 1)) s)
    exact ⟨υ, e1, r1, agx_trans (agx_mono a (by simp)) a1⟩
/-- one step -/
theorem X_stride (hn : 100 ≤ n) (hb : b < 2 ^ 20) (hw : okW S b) (hi : 18 < i) {σ : PS} (hR : RX σ i S) {ru : RU} {x : Int32} (hf : foX n σ ru x) : ∃ τ, F_X4_stride n i x 1 σ = some τ ∧ RX τ i (pasS S ru) ∧ agx (wI i) σ τ := by
  obtain ⟨τ, e, r, a⟩ := X_str3 hn hb hw hi hR hf (k := n - 1) (m := 1) (j := 0) (by decide) (by decide)
  refine ⟨τ, ?_, r, a⟩
  have e2 : L_X4_stride_3 n i (n - 1) x (nI 1) (nI (0 + 1)) τ = some τ := by
    obtain ⟨p, hp⟩ : ∃ p, n - 1 = p + 1 := ⟨n - 2, by omega⟩
    rw [hp, L_X4_stride_3, if_pos (nI_le (Nat.le_refl _) (by decide))]
  have e3 : L_X4_stride_3 n i n x (nI 1) (nI 0) σ = some τ := by
    rw [show L_X4_stride_3 n i n x (nI 1) (nI 0) σ = L_X4_stride_3 n i (n - 1 + 1) x (nI 1) (nI 0) σ by rw [show n - 1 + 1 = n by omega], e, e2]
  unfold F_X4_stride
  show (L_X4_stride_3 n i n x (nI 1) (nI 0) σ).bind _ = _
  rw [e3]
  rfl
end XF
