/-! A camp's text: what it tells; the reference's side. -/
def nuV (B : Nat → Int32) (sz p : Nat) : Nat := dvA B (sk B sz p) (min (dg B sz (sk B sz p)) 5)
def nuE (B : Nat → Int32) (sz p : Nat) : Nat := sk B sz p + dg B sz (sk B sz p)
def nuF (B : Nat → Int32) (sz p lo hi : Nat) : Nat := nF B sz (sk B sz p) lo hi
abbrev GR : Type := Nat × Nat × (Nat → Nat)
/-- two numbers -/
def n2F (B : Nat → Int32) (sz p lo hi lo2 hi2 : Nat) : Nat := if nuF B sz p lo hi = 0 then nuF B sz (nuE B sz p) lo2 hi2 else nuF B sz p lo hi
def cgP (B : Nat → Int32) (sz p j : Nat) (V : Nat → Nat) : GR :=
  if wl B sz (sk B sz p) = wS 0 then (if j = 0 then (n2F B sz (sk B sz p + 4) 2 6 0 (nuV B sz (sk B sz p + 4) * nuV B sz (sk B sz p + 4) - 1), nuE B sz (nuE B sz (sk B sz p + 4)), un (un (un V 1 (nuV B sz (sk B sz p + 4))) 109 (nuV B sz (nuE B sz (sk B sz p + 4)))) 0 1) else (5 + 8 * sk B sz p, 0, V))
  else if wl B sz (sk B sz p) = wS 1 then (if j = 0 ∨ j = 40 ∨ V 2 = 6 then (5 + 8 * sk B sz p, 0, V) else (n2F B sz (sk B sz p + 4) 0 (V 1 * V 1 - 1) 0 20, nuE B sz (nuE B sz (sk B sz p + 4)), un (un (un V (110 + V 2) (nuV B sz (sk B sz p + 4))) (116 + V 2) (nuV B sz (nuE B sz (sk B sz p + 4)))) 2 (V 2 + 1)))
  else if wl B sz (sk B sz p) = wS 2 then (if j = 0 ∨ j = 40 then (5 + 8 * sk B sz p, 0, V) else (nuF B sz (sk B sz p + 4) 0 (V 1 * V 1 - 1), nuE B sz (sk B sz p + 4), un V (122 + nuV B sz (sk B sz p + 4)) 1))
  else (1 + 8 * sk B sz p, 0, V)
def fcP (B : Nat → Int32) (sz : Nat) : Nat → Nat → Nat → (Nat → Nat) → Nat × (Nat → Nat)
  | 0, _, _, V => (1, V)
  | k + 1, p, j, V => if (cgP B sz p j V).1 = 0 then (if sg B sz (sk B sz (cgP B sz p j V).2.1) = 59 then fcP B sz k (sk B sz (cgP B sz p j V).2.1 + 1) (j + 1) (cgP B sz p j V).2.2 else if sg B sz (sk B sz (cgP B sz p j V).2.1) = -1 then (0, (cgP B sz p j V).2.2) else (1 + 8 * sk B sz (cgP B sz p j V).2.1, V)) else ((cgP B sz p j V).1, V)
/-- what was read so far is in its bounds -/
def okV (j : Nat) (V : Nat → Nat) : Prop := (j = 0 → ∀ i, V i = 0) ∧ (j ≠ 0 → V 0 = 1 ∧ 2 ≤ V 1 ∧ V 1 ≤ 6 ∧ V 2 ≤ 6 ∧ V 109 < V 1 * V 1 ∧ (∀ t, t < V 2 → V (110 + t) < V 1 * V 1 ∧ V (116 + t) ≤ 20) ∧ ∀ c, c < 36 → V (122 + c) ≤ 1)
theorem nuF_0 {B : Nat → Int32} {sz p lo hi : Nat} (h : nuF B sz p lo hi = 0) : lo ≤ nuV B sz p ∧ nuV B sz p ≤ hi ∧ sk B sz p < nuE B sz p := by
  unfold nuF nF at h
  unfold nuV nuE
  by_cases z : dg B sz (sk B sz p) = 0
  · rw [if_pos z] at h; omega
  · rw [if_neg z] at h
    by_cases z2 : dg B sz (sk B sz p) ≤ 5 ∧ lo ≤ dvA B (sk B sz p) (min (dg B sz (sk B sz p)) 5) ∧ dvA B (sk B sz p) (min (dg B sz (sk B sz p)) 5) ≤ hi
    · exact ⟨z2.2.1, z2.2.2, by omega⟩
    · rw [if_neg z2] at h; omega
theorem nuE_le {B : Nat → Int32} {sz p : Nat} (h : p ≤ sz) : nuE B sz p ≤ sz ∧ p ≤ nuE B sz p := by
  unfold nuE
  have h1 := sk_le (B := B) h
  have h2 := sk_ge B sz p
  have := dg_le (B := B) h1
  omega
theorem nuF_lt {B : Nat → Int32} {sz p lo hi : Nat} (h400 : sz ≤ 400) (h : p ≤ sz) : nuF B sz p lo hi < 2 ^ 31 := by
  unfold nuF nF
  have h1 := sk_le (B := B) h
  split
  · omega
  · split <;> omega
theorem n2F_0 {B : Nat → Int32} {sz p lo hi lo2 hi2 : Nat} (h : n2F B sz p lo hi lo2 hi2 = 0) : nuF B sz p lo hi = 0 ∧ nuF B sz (nuE B sz p) lo2 hi2 = 0 := by
  unfold n2F at h
  by_cases z : nuF B sz p lo hi = 0
  · rw [if_pos z] at h; exact ⟨z, h⟩
  · rw [if_neg z] at h; exact absurd h z
theorem n2F_lt {B : Nat → Int32} {sz p lo hi lo2 hi2 : Nat} (h400 : sz ≤ 400) (h : p ≤ sz) : n2F B sz p lo hi lo2 hi2 < 2 ^ 31 := by
  unfold n2F
  split
  · exact nuF_lt h400 (nuE_le h).1
  · exact nuF_lt h400 h
theorem cg_ok {B : Nat → Int32} {sz p j : Nat} {V : Nat → Nat} (hp : p ≤ sz) (hj : j ≤ 40) (hV : okV j V) (h : (cgP B sz p j V).1 = 0) : (cgP B sz p j V).2.1 ≤ sz ∧ p < (cgP B sz p j V).2.1 ∧ okV (j + 1) (cgP B sz p j V).2.2 ∧ j < 40 := by
  have hq := sk_le (B := B) hp
  have hg := sk_ge B sz p
  unfold cgP at h ⊢
  by_cases z0 : wl B sz (sk B sz p) = wS 0
  · rw [if_pos z0] at h ⊢
    have hl := wl_67 (k := 4) rfl z0 hq
    by_cases zj : j = 0
    · rw [if_pos zj] at h ⊢
      obtain ⟨f1, f2⟩ := n2F_0 h
      have e1 := nuE_le (B := B) hl
      have e2 := nuE_le (B := B) e1.1
      have b1 := nuF_0 f1
      have b2 := nuF_0 f2
      have hz := hV.1 zj
      refine ⟨e2.1, by show p < nuE B sz (nuE B sz (sk B sz p + 4)); omega, ⟨fun q => by omega, fun _ => ?_⟩, by omega⟩
      generalize nuV B sz (sk B sz p + 4) = v at *
      generalize nuV B sz (nuE B sz (sk B sz p + 4)) = w at *
      have hvv : 2 * 2 ≤ v * v := Nat.mul_le_mul b1.1 b1.1
      show un (un (un V 1 v) 109 w) 0 1 0 = 1 ∧ 2 ≤ un (un (un V 1 v) 109 w) 0 1 1 ∧ un (un (un V 1 v) 109 w) 0 1 1 ≤ 6 ∧ un (un (un V 1 v) 109 w) 0 1 2 ≤ 6 ∧ un (un (un V 1 v) 109 w) 0 1 109 < un (un (un V 1 v) 109 w) 0 1 1 * un (un (un V 1 v) 109 w) 0 1 1 ∧ (∀ t, t < un (un (un V 1 v) 109 w) 0 1 2 → _) ∧ ∀ c, c < 36 → un (un (un V 1 v) 109 w) 0 1 (122 + c) ≤ 1
      have u1 : un (un (un V 1 v) 109 w) 0 1 1 = v := by rw [un_ne _ _ (by decide), un_ne _ _ (by decide), un_eq]
      have u2 : un (un (un V 1 v) 109 w) 0 1 2 = 0 := by rw [un_ne _ _ (by decide), un_ne _ _ (by decide), un_ne _ _ (by decide)]; exact hz 2
      have u3 : un (un (un V 1 v) 109 w) 0 1 109 = w := by rw [un_ne _ _ (by decide), un_eq]
      rw [u1, u2, u3]
      refine ⟨un_eq _ _ _, b1.1, b1.2.1, by omega, by omega, fun t ht => by omega, fun c hc => ?_⟩
      rw [un_ne _ _ (by omega), un_ne _ _ (by omega), un_ne _ _ (by omega), hz]; omega
    · rw [if_neg zj] at h; simp at h
  rw [if_neg z0] at h ⊢
  by_cases z1 : wl B sz (sk B sz p) = wS 1
  · rw [if_pos z1] at h ⊢
    have hl := wl_67 (k := 4) rfl z1 hq
    by_cases zj : j = 0 ∨ j = 40 ∨ V 2 = 6
    · rw [if_pos zj] at h; simp at h
    · rw [if_neg zj] at h ⊢
      obtain ⟨f1, f2⟩ := n2F_0 h
      have e1 := nuE_le (B := B) hl
      have e2 := nuE_le (B := B) e1.1
      have b1 := nuF_0 f1
      have b2 := nuF_0 f2
      obtain ⟨v0, v1, v1', v2, v3, v4, v5⟩ := hV.2 (by omega)
      have hvv : 2 * 2 ≤ V 1 * V 1 := Nat.mul_le_mul v1 v1
      refine ⟨e2.1, by show p < nuE B sz (nuE B sz (sk B sz p + 4)); omega, ⟨fun q => by omega, fun _ => ?_⟩, ?_⟩
      · generalize nuV B sz (sk B sz p + 4) = v at *
        generalize nuV B sz (nuE B sz (sk B sz p + 4)) = w at *
        have lo : ∀ i, i ≠ 2 → i < 110 → un (un (un V (110 + V 2) v) (116 + V 2) w) 2 (V 2 + 1) i = V i := fun i hi h2 => by rw [un_ne _ _ hi, un_ne _ _ (by omega), un_ne _ _ (by omega)]
        have u2 : un (un (un V (110 + V 2) v) (116 + V 2) w) 2 (V 2 + 1) 2 = V 2 + 1 := un_eq _ _ _
        dsimp only
        rw [lo 0 (by decide) (by decide), lo 1 (by decide) (by decide), lo 109 (by decide) (by decide), u2]
        refine ⟨v0, v1, v1', by omega, v3, fun t ht => ?_, fun c hc => ?_⟩
        · by_cases et : t = V 2
          · subst et
            rw [un_ne _ _ (by omega), un_ne _ _ (by omega), un_eq, un_ne _ _ (by omega), un_eq]
            omega
          · rw [un_ne _ _ (by omega), un_ne _ _ (by omega), un_ne _ _ (by omega), un_ne _ _ (by omega), un_ne _ _ (by omega), un_ne _ _ (by omega)]
            exact v4 t (by omega)
        · rw [un_ne _ _ (by omega), un_ne _ _ (by omega), un_ne _ _ (by omega)]; exact v5 c hc
      · omega
  rw [if_neg z1] at h ⊢
  by_cases z2 : wl B sz (sk B sz p) = wS 2
  · rw [if_pos z2] at h ⊢
    have hl := wl_67 (k := 4) rfl z2 hq
    by_cases zj : j = 0 ∨ j = 40
    · rw [if_pos zj] at h; simp at h
    · rw [if_neg zj] at h ⊢
      have e1 := nuE_le (B := B) hl
      have b1 := nuF_0 h
      obtain ⟨v0, v1, v1', v2, v3, v4, v5⟩ := hV.2 (by omega)
      have hvv : 2 * 2 ≤ V 1 * V 1 := Nat.mul_le_mul v1 v1
      have h36 : V 1 * V 1 ≤ 6 * 6 := Nat.mul_le_mul v1' v1'
      refine ⟨e1.1, by show p < nuE B sz (sk B sz p + 4); omega, ⟨fun q => by omega, fun _ => ?_⟩, ?_⟩
      · generalize nuV B sz (sk B sz p + 4) = v at *
        have lo : ∀ i, i < 122 → un V (122 + v) 1 i = V i := fun i hi => by rw [un_ne _ _ (by omega)]
        dsimp only
        rw [lo 0 (by decide), lo 1 (by decide), lo 2 (by decide), lo 109 (by decide)]
        refine ⟨v0, v1, v1', v2, v3, fun t ht => ?_, fun c hc => ?_⟩
        · rw [lo _ (by omega), lo _ (by omega)]; exact v4 t ht
        · by_cases ec : c = v
          · rw [ec, un_eq]; omega
          · rw [un_ne _ _ (by omega)]; exact v5 c hc
      · omega
  · rw [if_neg z2] at h; simp at h
theorem cg_lt {B : Nat → Int32} {sz p j : Nat} {V : Nat → Nat} (h400 : sz ≤ 400) (hp : p ≤ sz) : (cgP B sz p j V).1 < 2 ^ 31 := by
  have hq := sk_le (B := B) hp
  unfold cgP
  by_cases z0 : wl B sz (sk B sz p) = wS 0
  · rw [if_pos z0]
    have hl := wl_67 (k := 4) rfl z0 hq
    split
    · exact n2F_lt h400 hl
    · show 5 + 8 * _ < _; omega
  rw [if_neg z0]
  by_cases z1 : wl B sz (sk B sz p) = wS 1
  · rw [if_pos z1]
    have hl := wl_67 (k := 4) rfl z1 hq
    split
    · show 5 + 8 * _ < _; omega
    · exact n2F_lt h400 hl
  rw [if_neg z1]
  by_cases z2 : wl B sz (sk B sz p) = wS 2
  · rw [if_pos z2]
    have hl := wl_67 (k := 4) rfl z2 hq
    split
    · show 5 + 8 * _ < _; omega
    · exact nuF_lt h400 hl
  rw [if_neg z2]
  show 1 + 8 * _ < _; omega
def r5 (σ : PS) (V : Nat → Nat) : Prop := ∀ k, k < 158 → σ.1 255 k = nI (V k)
theorem r5_agm {σ τ : PS} {V : Nat → Nat} {T Fs : List Nat} (h : r5 σ V) (ha : agm T Fs σ τ) (h1 : 255 ∉ T) : r5 τ V := fun k hk => by rw [(ha.1 255 h1 (by decide)).1]; exact h k hk
theorem r5_set {σ : PS} {V : Nat → Nat} {i v : Nat} (h : r5 σ V) : r5 (psI σ 255 i (nI v)) (un V i v) := fun k hk => by
  rw [psI_eq]
  unfold un
  by_cases e : k = i
  · rw [if_pos e, if_pos e]
  · rw [if_neg e, if_neg e]; exact h k hk
section CG
variable {n : Nat} {B : Nat → Int32} {sz : Nat}
theorem M_num (hn : 1000 ≤ n) {p : Nat} {σ : PS} (h : TM σ B sz p 0) {lo hi : Nat} (hlo : lo < 2 ^ 31) (hhi : hi < 2 ^ 31) : ∃ τ, F_X12_numberHere n (nI lo) (nI hi) σ = some (if nuF B sz p lo hi = 0 then 1 else 0, τ) ∧ TM τ B sz (nuE B sz p) (nI (nuF B sz p lo hi)) ∧ (nuF B sz p lo hi = 0 → τ.1 249 10 = nI (nuV B sz p)) ∧ agm [] [8, 9, 10] σ τ := M_number hn h hlo hhi
theorem M_cellHere (hn : 1000 ≤ n) {p i : Nat} (hi : i < 158) {σ : PS} {V : Nat → Nat} (h : TM σ B sz p 0) (hV : r5 σ V) {lo hi2 : Nat} (hlo : lo < 2 ^ 31) (hhi : hi2 < 2 ^ 31) : ∃ τ, F_X12_cellHere n (nI i) (nI lo) (nI hi2) σ = some (if nuF B sz p lo hi2 = 0 then 1 else 0, τ) ∧ TM τ B sz (nuE B sz p) (nI (nuF B sz p lo hi2)) ∧ (nuF B sz p lo hi2 = 0 → r5 τ (un V i (nuV B sz p))) ∧ agm [255] [8, 9, 10] σ τ := by
  obtain ⟨τ, a1, a2, a3, a4⟩ := M_num hn h hlo hhi
  unfold F_X12_cellHere
  rw [a1, Option.bind_some]
  by_cases z : nuF B sz p lo hi2 = 0
  · rw [if_pos z, if_neg ne10, nI_clamp (by omega), if_pos ⟨nI_pos' (by omega), hi⟩]
    show ∃ υ, some ((1 : Int32), psI τ 255 i (τ.1 249 10)) = _ ∧ _
    rw [a3 z]
    exact ⟨_, rfl, TM_agm a2 (agm_psI (T := [255]) (Fs := []) (by simp) (by decide)) (by decide) (by simp) (by simp) (by simp), fun _ => r5_set (r5_agm hV a4 (by simp)), agm_trans (agm_mono a4 (by simp) (by simp)) (agm_psI (by simp) (by decide))⟩
  · rw [if_neg z, if_pos rfl]
    exact ⟨τ, rfl, a2, fun q => absurd q z, agm_mono a4 (by simp) (by simp)⟩
theorem agm_w {σ τ : PS} (h : agm [] [8] σ τ) : agm [255] [8, 9, 10, 14] σ τ := agm_mono h (by simp) (by simp)
theorem agm_c {σ τ : PS} (h : agm [255] [8, 9, 10] σ τ) : agm [255] [8, 9, 10, 14] σ τ := agm_mono h (by simp) (by simp)
theorem M_campHere (hn : 1000 ≤ n) {q : Nat} {σ : PS} {V : Nat → Nat} (h : TM σ B sz q 0) (hw : wl B sz q = wS 0) (hV : r5 σ V) (h0 : V 0 = 0) : ∃ τ, F_X12_isCampHere n (nI q) σ = some (if n2F B sz (q + 4) 2 6 0 (nuV B sz (q + 4) * nuV B sz (q + 4) - 1) = 0 then 1 else 0, τ) ∧ τ.1 249 9 = nI (n2F B sz (q + 4) 2 6 0 (nuV B sz (q + 4) * nuV B sz (q + 4) - 1)) ∧ agm [255] [8, 9, 10, 14] σ τ ∧ τ.1 249 14 = σ.1 249 14 ∧ (n2F B sz (q + 4) 2 6 0 (nuV B sz (q + 4) * nuV B sz (q + 4) - 1) = 0 → TM τ B sz (nuE B sz (nuE B sz (q + 4))) 0 ∧ r5 τ (un (un (un V 1 (nuV B sz (q + 4))) 109 (nuV B sz (nuE B sz (q + 4)))) 0 1)) := by
  unfold F_X12_isCampHere
  rw [hV 0 (by decide), h0, if_pos (by decide)]
  obtain ⟨τ1, a1, a2, a3⟩ := M_passWord hn h
  rw [hw] at a2
  have a2' : TM τ1 B sz (q + 4) 0 := a2
  rw [a1, Option.bind_some]
  obtain ⟨τ2, b1, b2, b3, b4⟩ := M_cellHere hn (i := 1) (by decide) a2' (r5_agm hV a3 (by simp)) (lo := 2) (hi2 := 6) (by decide) (by decide)
  show ∃ τ, (F_X12_cellHere n (nI 1) (nI 2) (nI 6) τ1).bind _ = some _ ∧ _
  rw [b1, Option.bind_some]
  have x2 : agm [255] [8, 9, 10, 14] σ τ2 := agm_trans (agm_w a3) (agm_c b4)
  have y2 : τ2.1 249 14 = σ.1 249 14 := by rw [(b4.2 14 (by decide)).1, (a3.2 14 (by decide)).1]
  unfold n2F
  by_cases z : nuF B sz (q + 4) 2 6 = 0
  · rw [if_pos z, if_pos z, if_neg ne10]
    have bd := nuF_0 z
    have V2 := b3 z
    rw [z] at b2
    generalize nuV B sz (q + 4) = v at *
    have hvv : v * v ≤ 6 * 6 := Nat.mul_le_mul bd.2.1 bd.2.1
    have hv2 : 2 * 2 ≤ v * v := Nat.mul_le_mul bd.1 bd.1
    have g : τ2.1 255 1 = nI v := by rw [V2 1 (by decide), un_eq]
    show ∃ τ, (F_X12_cellHere n (nI 109) (nI 0) (τ2.1 255 1 * τ2.1 255 1 - nI 1) τ2).bind _ = some _ ∧ _
    rw [g, nI_mul, nI_sub (by omega)]
    obtain ⟨τ3, c1, c2, c3, c4⟩ := M_cellHere hn (i := 109) (by decide) b2 V2 (lo := 0) (hi2 := v * v - 1) (by decide) (by omega)
    rw [c1, Option.bind_some]
    have x3 := agm_trans x2 (agm_c c4)
    have y3 : τ3.1 249 14 = σ.1 249 14 := by rw [(c4.2 14 (by decide)).1]; exact y2
    by_cases z2 : nuF B sz (nuE B sz (q + 4)) 0 (v * v - 1) = 0
    · rw [if_pos z2, if_neg ne10]
      rw [z2] at c2
      show ∃ τ, some ((1 : Int32), psI τ3 255 0 (nI 1)) = _ ∧ _
      refine ⟨_, rfl, ?_, agm_trans x3 (agm_psI (by simp) (by decide)), by rw [psI_other (by decide)]; exact y3, fun _ => ⟨TM_agm c2 (agm_psI (T := [255]) (Fs := []) (by simp) (by decide)) (by decide) (by simp) (by simp) (by simp), r5_set (c3 z2)⟩⟩
      rw [psI_other (by decide), z2]; exact c2.2.2.2.1
    · rw [if_neg z2, if_pos rfl]
      exact ⟨τ3, rfl, c2.2.2.2.1, x3, y3, fun w => absurd w z2⟩
  · rw [if_neg z, if_neg z, if_pos rfl]
    exact ⟨τ2, by rw [if_neg z], b2.2.2.2.1, x2, y2, fun w => absurd w z⟩
theorem M_tentHere (hn : 1000 ≤ n) {q : Nat} {σ : PS} {V : Nat → Nat} (h : TM σ B sz q 0) (hw : wl B sz q = wS 1) (hV : r5 σ V) (h2 : V 2 ≤ 5) (h1 : 2 ≤ V 1) (h1' : V 1 ≤ 6) : ∃ τ, F_X12_isTentHere n (nI q) σ = some (if n2F B sz (q + 4) 0 (V 1 * V 1 - 1) 0 20 = 0 then 1 else 0, τ) ∧ τ.1 249 9 = nI (n2F B sz (q + 4) 0 (V 1 * V 1 - 1) 0 20) ∧ agm [255] [8, 9, 10, 14] σ τ ∧ τ.1 249 14 = σ.1 249 14 ∧ (n2F B sz (q + 4) 0 (V 1 * V 1 - 1) 0 20 = 0 → TM τ B sz (nuE B sz (nuE B sz (q + 4))) 0 ∧ r5 τ (un (un (un V (110 + V 2) (nuV B sz (q + 4))) (116 + V 2) (nuV B sz (nuE B sz (q + 4)))) 2 (V 2 + 1))) := by
  have hvv : V 1 * V 1 ≤ 6 * 6 := Nat.mul_le_mul h1' h1'
  have hv2 : 2 * 2 ≤ V 1 * V 1 := Nat.mul_le_mul h1 h1
  unfold F_X12_isTentHere
  rw [hV 2 (by decide), if_neg (show ¬ nI (V 2) = (6 : Int32) from fun w => by have := nI_inj (b := 6) (by omega) (by decide) w; omega)]
  obtain ⟨τ1, a1, a2, a3⟩ := M_passWord hn h
  rw [hw] at a2
  have a2' : TM τ1 B sz (q + 4) 0 := a2
  have V1 := r5_agm hV a3 (by simp)
  rw [a1, Option.bind_some]
  unfold F_X12_lastCell
  rw [Option.bind_some, V1 1 (by decide), V1 2 (by decide)]
  have e110 : (110 : Int32) + nI (V 2) = nI (110 + V 2) := nI_add 110 _
  show ∃ τ, (F_X12_cellHere n ((110 : Int32) + nI (V 2)) (nI 0) (nI (V 1) * nI (V 1) - nI 1) τ1).bind _ = some _ ∧ _
  rw [e110, nI_mul, nI_sub (by omega)]
  obtain ⟨τ2, b1, b2, b3, b4⟩ := M_cellHere hn (i := 110 + V 2) (by omega) a2' V1 (lo := 0) (hi2 := V 1 * V 1 - 1) (by decide) (by omega)
  rw [b1, Option.bind_some]
  have x2 : agm [255] [8, 9, 10, 14] σ τ2 := agm_trans (agm_w a3) (agm_c b4)
  have y2 : τ2.1 249 14 = σ.1 249 14 := by rw [(b4.2 14 (by decide)).1, (a3.2 14 (by decide)).1]
  unfold n2F
  by_cases z : nuF B sz (q + 4) 0 (V 1 * V 1 - 1) = 0
  · rw [if_pos z, if_pos z, if_neg ne10]
    have V2 := b3 z
    rw [z] at b2
    have g : τ2.1 255 2 = nI (V 2) := by rw [V2 2 (by decide), un_ne _ _ (by omega)]
    have e116 : (116 : Int32) + nI (V 2) = nI (116 + V 2) := nI_add 116 _
    show ∃ τ, (F_X12_cellHere n ((116 : Int32) + τ2.1 255 2) (nI 0) (nI 20) τ2).bind _ = some _ ∧ _
    rw [g, e116]
    obtain ⟨τ3, c1, c2, c3, c4⟩ := M_cellHere hn (i := 116 + V 2) (by omega) b2 V2 (lo := 0) (hi2 := 20) (by decide) (by decide)
    rw [c1, Option.bind_some]
    have x3 := agm_trans x2 (agm_c c4)
    have y3 : τ3.1 249 14 = σ.1 249 14 := by rw [(c4.2 14 (by decide)).1]; exact y2
    by_cases z2 : nuF B sz (nuE B sz (q + 4)) 0 20 = 0
    · rw [if_pos z2, if_neg ne10]
      rw [z2] at c2
      have V3 := c3 z2
      have g3 : τ3.1 255 2 = nI (V 2) := by rw [V3 2 (by decide), un_ne _ _ (by omega), un_ne _ _ (by omega)]
      show ∃ τ, some ((1 : Int32), psI τ3 255 2 (τ3.1 255 2 + 1)) = _ ∧ _
      rw [g3, nI_p1]
      refine ⟨_, rfl, ?_, agm_trans x3 (agm_psI (by simp) (by decide)), by rw [psI_other (by decide)]; exact y3, fun _ => ⟨TM_agm c2 (agm_psI (T := [255]) (Fs := []) (by simp) (by decide)) (by decide) (by simp) (by simp) (by simp), r5_set V3⟩⟩
      rw [psI_other (by decide), z2]; exact c2.2.2.2.1
    · rw [if_neg z2, if_pos rfl]
      exact ⟨τ3, rfl, c2.2.2.2.1, x3, y3, fun w => absurd w z2⟩
  · rw [if_neg z, if_neg z, if_pos rfl]
    exact ⟨τ2, by rw [if_neg z], b2.2.2.2.1, x2, y2, fun w => absurd w z⟩
theorem M_bushHere (hn : 1000 ≤ n) {q : Nat} {σ : PS} {V : Nat → Nat} (h : TM σ B sz q 0) (hw : wl B sz q = wS 2) (hV : r5 σ V) (h1 : 2 ≤ V 1) (h1' : V 1 ≤ 6) : ∃ τ, F_X12_isBushHere n σ = some (if nuF B sz (q + 4) 0 (V 1 * V 1 - 1) = 0 then 1 else 0, τ) ∧ τ.1 249 9 = nI (nuF B sz (q + 4) 0 (V 1 * V 1 - 1)) ∧ agm [255] [8, 9, 10, 14] σ τ ∧ τ.1 249 14 = σ.1 249 14 ∧ (nuF B sz (q + 4) 0 (V 1 * V 1 - 1) = 0 → TM τ B sz (nuE B sz (q + 4)) 0 ∧ r5 τ (un V (122 + nuV B sz (q + 4)) 1)) := by
  have hvv : V 1 * V 1 ≤ 6 * 6 := Nat.mul_le_mul h1' h1'
  have hv2 : 2 * 2 ≤ V 1 * V 1 := Nat.mul_le_mul h1 h1
  unfold F_X12_isBushHere
  obtain ⟨τ1, a1, a2, a3⟩ := M_passWord hn h
  rw [hw] at a2
  have a2' : TM τ1 B sz (q + 4) 0 := a2
  have V1 := r5_agm hV a3 (by simp)
  rw [a1, Option.bind_some]
  unfold F_X12_lastCell
  rw [Option.bind_some, V1 1 (by decide)]
  show ∃ τ, (F_X12_numberHere n (nI 0) (nI (V 1) * nI (V 1) - nI 1) τ1).bind _ = some _ ∧ _
  rw [nI_mul, nI_sub (by omega)]
  obtain ⟨τ2, b1, b2, b3, b4⟩ := M_num hn a2' (lo := 0) (hi := V 1 * V 1 - 1) (by decide) (by omega)
  rw [b1, Option.bind_some]
  have x2 : agm [255] [8, 9, 10, 14] σ τ2 := agm_trans (agm_w a3) (agm_mono b4 (by simp) (by simp))
  have y2 : τ2.1 249 14 = σ.1 249 14 := by rw [(b4.2 14 (by decide)).1, (a3.2 14 (by decide)).1]
  by_cases z : nuF B sz (q + 4) 0 (V 1 * V 1 - 1) = 0
  · have bd := nuF_0 z
    rw [z] at b2
    have e122 : (122 : Int32) + nI (nuV B sz (q + 4)) = nI (122 + nuV B sz (q + 4)) := nI_add 122 _
    rw [if_pos z, if_neg ne10]
    show ∃ τ, (if 0 ≤ (122 : Int32) + τ2.1 249 10 ∧ ((122 : Int32) + τ2.1 249 10).toNatClampNeg < 158 then some ((1 : Int32), psI τ2 255 (((122 : Int32) + τ2.1 249 10).toNatClampNeg) (nI 1)) else none) = _ ∧ _
    rw [b3 z, e122, nI_clamp (by omega), if_pos ⟨nI_pos' (by omega), by omega⟩]
    refine ⟨_, rfl, ?_, agm_trans x2 (agm_psI (by simp) (by decide)), by rw [psI_other (by decide)]; exact y2, fun _ => ⟨TM_agm b2 (agm_psI (T := [255]) (Fs := []) (by simp) (by decide)) (by decide) (by simp) (by simp) (by simp), r5_set (r5_agm V1 b4 (by simp))⟩⟩
    rw [psI_other (by decide), z]; exact b2.2.2.2.1
  · rw [if_neg z, if_pos rfl]
    exact ⟨τ2, rfl, b2.2.2.2.1, x2, y2, fun w => absurd w z⟩
theorem wS_012 : ¬ wS 0 = wS 1 ∧ ¬ wS 0 = wS 2 ∧ ¬ wS 1 = wS 2 ∧ ¬ wS 1 = wS 0 ∧ ¬ wS 2 = wS 0 ∧ ¬ wS 2 = wS 1 := by decide
theorem bool_r {α : Type} {c : Prop} [Decidable c] {x : α} {y : Option α} : (if (if c then (1 : Int32) else 0) = 0 ∨ (if c then (1 : Int32) else 0) = 1 then some x else y) = some x := by
  by_cases h : c
  · rw [if_pos (Or.inr (if_pos h))]
  · rw [if_pos (Or.inl (if_neg h))]
/-- the reference reads a clause of a camp -/
theorem M_cg (hn : 1000 ≤ n) {p j : Nat} {σ : PS} {V : Nat → Nat} (ht : TM σ B sz p 0) (hV : r5 σ V) (h11 : σ.1 249 11 = nI 6) (h14 : σ.1 249 14 = nI j) (hj : j ≤ 40) (hok : okV j V) : ∃ τ, F_X12_clauseHere n σ = some (if (cgP B sz p j V).1 = 0 then 1 else 0, τ) ∧ τ.1 249 9 = nI (cgP B sz p j V).1 ∧ agm [255] [8, 9, 10, 14] σ τ ∧ ((cgP B sz p j V).1 = 0 → TM τ B sz (cgP B sz p j V).2.1 0 ∧ r5 τ (cgP B sz p j V).2.2 ∧ τ.1 249 14 = nI (j + 1)) := by
  have h400 := ht.2.2.2.2.2
  have hp := ht.2.2.2.2.1
  have hsk := sk_idem (B := B) hp
  obtain ⟨τ1, a1, a2, a3⟩ := M_see hn ht
  have V1 := r5_agm hV a3 (by simp)
  have g11 : τ1.1 249 11 = nI 6 := by rw [(a3.2 11 (by decide)).1]; exact h11
  have g14 : τ1.1 249 14 = nI j := by rw [(a3.2 14 (by decide)).1]; exact h14
  have x1 := agm_w a3
  unfold F_X12_clauseHere cgP
  rw [a1, Option.bind_some]
  generalize sk B sz p = q at *
  have hiw : F_X12_isCampWord n τ1 = some (if wl B sz q = wS 0 ∨ wl B sz q = wS 1 ∨ wl B sz q = wS 2 then 1 else 0, τ1) := by
    unfold F_X12_isCampWord
    rw [M_isWord' hn a2 hsk (l := wS 0) (wS_mem 0 (by decide)) (by decide) (by decide) (by decide +kernel), Option.bind_some]
    by_cases z0 : wl B sz q = wS 0
    · rw [if_pos z0, if_neg ne10, if_pos (Or.inl z0)]
    rw [if_neg z0, if_pos rfl]
    show (F_X12_isWord n _ τ1).bind _ = _
    rw [M_isWord' hn a2 hsk (l := wS 1) (wS_mem 1 (by decide)) (by decide) (by decide) (by decide +kernel), Option.bind_some]
    by_cases z1 : wl B sz q = wS 1
    · rw [if_pos z1, if_neg ne10, if_pos (Or.inr (Or.inl z1))]
    rw [if_neg z1, if_pos rfl]
    show (F_X12_isWord n _ τ1).bind _ = _
    rw [M_isWord' hn a2 hsk (l := wS 2) (wS_mem 2 (by decide)) (by decide) (by decide) (by decide +kernel), Option.bind_some]
    by_cases z2 : wl B sz q = wS 2
    · rw [if_pos z2, if_neg ne10, if_pos (Or.inr (Or.inr z2))]
    rw [if_neg z2, if_pos rfl, if_neg (fun w => by rcases w with w | w | w <;> contradiction)]
  show ∃ τ, (if τ1.1 249 11 = (6 : Int32) then (if (1 : Int32) = 0 then _ else (F_X12_isCampWord n τ1).bind (fun q47 => (if q47.1 = 0 then (F_X12_fails n (nI 0) (τ1.1 249 8) q47.2).bind (fun q50 => (if q50.1 = 0 ∨ q50.1 = 1 then some (q50.1, q50.2) else none)) else J_X12_clauseHere_56 n (τ1.1 249 8) (1 : Int32) q47.2))) else _) = some _ ∧ _
  rw [g11, if_pos (show nI 6 = (6 : Int32) from rfl), if_neg ne10, hiw, Option.bind_some, a2.2.2.1]
  have fail : ∀ k : Nat, ∃ τ, ((F_X12_fails n (nI k) (nI q) τ1).bind (fun q50 => (if q50.1 = 0 ∨ q50.1 = 1 then some (q50.1, q50.2) else none))) = some (0, τ) ∧ τ.1 249 9 = nI (1 + 8 * q + k) ∧ agm [255] [8, 9, 10, 14] σ τ := by
    intro k
    obtain ⟨τ2, b1, b2, b3⟩ := M_fails0 (n := n) (w := q) (k := k) a2
    rw [b1, Option.bind_some, if_pos (Or.inl rfl)]
    exact ⟨τ2, rfl, b2.2.2.2.1, agm_trans x1 (agm_mono b3 (by simp) (by simp))⟩
  by_cases zw : wl B sz q = wS 0 ∨ wl B sz q = wS 1 ∨ wl B sz q = wS 2
  · rw [if_pos zw, if_neg ne10]
    unfold J_X12_clauseHere_56
    show ∃ τ, (if (1 : Int32) = 0 then _ else (if τ1.1 249 14 = (40 : Int32) then (F_X12_fails n (nI 4) (nI q) τ1).bind (fun q28 => (if q28.1 = 0 ∨ q28.1 = 1 then some (q28.1, q28.2) else none)) else (if (1 : Int32) = 0 then _ else (F_X12_campLineHere n (nI q) (psI τ1 249 14 (τ1.1 249 14 + 1))).bind (fun q25 => (if q25.1 = 0 ∨ q25.1 = 1 then some (q25.1, q25.2) else none))))) = some _ ∧ _
    rw [if_neg ne10, g14]
    obtain ⟨τf, f1, f2, f3⟩ := fail 4
    rw [show 1 + 8 * q + 4 = 5 + 8 * q by omega] at f2
    by_cases z40 : j = 40
    · rw [if_pos (show nI j = (40 : Int32) by rw [z40]; rfl), f1]
      have key : ∀ X : GR, X = (5 + 8 * q, 0, V) → ∃ τ, some ((0 : Int32), τf) = some (if X.1 = 0 then 1 else 0, τ) ∧ τ.1 249 9 = nI X.1 ∧ agm [255] [8, 9, 10, 14] σ τ ∧ (X.1 = 0 → TM τ B sz X.2.1 0 ∧ r5 τ X.2.2 ∧ τ.1 249 14 = nI (j + 1)) := by
        intro X hX
        subst hX
        refine ⟨τf, ?_, f2, f3, fun w => absurd w (by show ¬ 5 + 8 * q = 0; omega)⟩
        rw [if_neg (show ¬ 5 + 8 * q = 0 by omega)]
      apply key
      rcases zw with w | w | w
      · rw [if_pos w, if_neg (by omega)]
      · rw [w, if_neg wS_012.2.2.2.1, if_pos rfl, if_pos (Or.inr (Or.inl z40))]
      · rw [w, if_neg wS_012.2.2.2.2.1, if_neg wS_012.2.2.2.2.2, if_pos rfl, if_pos (Or.inr z40)]
    · rw [if_neg (show ¬ nI j = (40 : Int32) from fun w => z40 (nI_inj (b := 40) (by omega) (by decide) w)), if_neg ne10, nI_p1]
      have a4 : agm [] [14] τ1 (psI τ1 249 14 (nI (j + 1))) := agm_fld (by simp)
      generalize hT : psI τ1 249 14 (nI (j + 1)) = τ2 at *
      have t2 := TM_agm a2 a4 (by simp) (by decide) (by decide) (by decide)
      have V2 := r5_agm V1 a4 (by simp)
      have h14b : τ2.1 249 14 = nI (j + 1) := by rw [← hT, psI_eq, if_pos rfl]
      have x2 : agm [255] [8, 9, 10, 14] σ τ2 := agm_trans x1 (agm_mono a4 (by simp) (by simp))
      have fail2 : ∃ τ, ((F_X12_fails n (nI 4) (nI q) τ2).bind (fun q14 => (if q14.1 = 0 ∨ q14.1 = 1 then some (q14.1, q14.2) else none))) = some (0, τ) ∧ τ.1 249 9 = nI (5 + 8 * q) ∧ agm [255] [8, 9, 10, 14] σ τ := by
        obtain ⟨τ3, b1, b2, b3⟩ := M_fails0 (n := n) (w := q) (k := 4) t2
        rw [b1, Option.bind_some, if_pos (Or.inl rfl)]
        exact ⟨τ3, rfl, by rw [b2.2.2.2.1, show 1 + 8 * q + 4 = 5 + 8 * q by omega], agm_trans x2 (agm_mono b3 (by simp) (by simp))⟩
      obtain ⟨τg, g1, g2, g3⟩ := fail2
      unfold F_X12_campLineHere
      rw [M_isWord' hn t2 hsk (l := wS 0) (wS_mem 0 (by decide)) (by decide) (by decide) (by decide +kernel), Option.bind_some]
      by_cases z0 : wl B sz q = wS 0
      · rw [if_pos z0, if_neg ne10, if_pos z0]
        by_cases zj : j = 0
        · obtain ⟨τ3, b1, b2, b3, b4, b5⟩ := M_campHere hn t2 z0 V2 (hok.1 zj 0)
          rw [if_pos zj]
          show ∃ τ, ((F_X12_isCampHere n (nI q) τ2).bind _).bind _ = some _ ∧ _
          rw [b1, Option.bind_some, bool_r, Option.bind_some, bool_r]
          exact ⟨τ3, rfl, b2, agm_trans x2 b3, fun w => ⟨(b5 w).1, (b5 w).2, by rw [b4]; exact h14b⟩⟩
        · rw [if_neg zj]
          show ∃ τ, ((F_X12_isCampHere n (nI q) τ2).bind _).bind _ = some _ ∧ _
          unfold F_X12_isCampHere
          rw [V2 0 (by decide), (hok.2 zj).1, if_neg (by decide)]
          show ∃ τ, ((((F_X12_fails n (nI 4) (nI q) τ2).bind _)).bind _).bind _ = some _ ∧ _
          rw [g1, Option.bind_some, if_pos (Or.inl rfl), Option.bind_some, if_pos (Or.inl rfl), if_neg (show ¬ 5 + 8 * q = 0 by omega)]
          exact ⟨τg, rfl, g2, g3, fun w => absurd w (by show ¬ 5 + 8 * q = 0; omega)⟩
      rw [if_neg z0, if_pos rfl, if_neg z0]
      show ∃ τ, (if τ2.1 255 0 = 0 then (F_X12_fails n (nI 4) (nI q) τ2).bind _ else (F_X12_isWord n (1952804468 : Int64) τ2).bind _).bind _ = some _ ∧ _
      rw [V2 0 (by decide)]
      by_cases zj : j = 0
      · rw [hok.1 zj 0, if_pos (show nI 0 = (0 : Int32) from rfl), g1, Option.bind_some, if_pos (Or.inl rfl)]
        have key : ∀ X : GR, X = (5 + 8 * q, 0, V) → ∃ τ, some ((0 : Int32), τg) = some (if X.1 = 0 then 1 else 0, τ) ∧ τ.1 249 9 = nI X.1 ∧ agm [255] [8, 9, 10, 14] σ τ ∧ (X.1 = 0 → TM τ B sz X.2.1 0 ∧ r5 τ X.2.2 ∧ τ.1 249 14 = nI (j + 1)) := by
          intro X hX
          subst hX
          refine ⟨τg, ?_, g2, g3, fun w => absurd w (by show ¬ 5 + 8 * q = 0; omega)⟩
          rw [if_neg (show ¬ 5 + 8 * q = 0 by omega)]
        apply key
        rcases zw with w | w | w
        · exact absurd w z0
        · rw [if_pos w, if_pos (Or.inl zj)]
        · rw [w, if_neg wS_012.2.2.2.2.2, if_pos rfl, if_pos (Or.inl zj)]
      · obtain ⟨v0, v1, v1', v2, v3, v4, v5⟩ := hok.2 zj
        rw [v0, if_neg (show ¬ nI 1 = (0 : Int32) by decide), M_isWord' hn t2 hsk (l := wS 1) (wS_mem 1 (by decide)) (by decide) (by decide) (by decide +kernel), Option.bind_some]
        by_cases z1 : wl B sz q = wS 1
        · rw [if_pos z1, if_neg ne10, if_pos z1]
          show ∃ τ, ((F_X12_isTentHere n (nI q) τ2).bind _).bind _ = some _ ∧ _
          by_cases z6 : V 2 = 6
          · unfold F_X12_isTentHere
            rw [V2 2 (by decide), z6, if_pos (show nI 6 = (6 : Int32) from rfl), if_pos (Or.inr (Or.inr rfl))]
            show ∃ τ, ((((F_X12_fails n (nI 4) (nI q) τ2).bind _)).bind _).bind _ = some _ ∧ _
            rw [g1, Option.bind_some, if_pos (Or.inl rfl), Option.bind_some, if_pos (Or.inl rfl), if_neg (show ¬ 5 + 8 * q = 0 by omega)]
            exact ⟨τg, rfl, g2, g3, fun w => absurd w (by show ¬ 5 + 8 * q = 0; omega)⟩
          · obtain ⟨τ3, b1, b2, b3, b4, b5⟩ := M_tentHere hn t2 z1 V2 (by omega) v1 v1'
            rw [if_neg (show ¬ (j = 0 ∨ j = 40 ∨ V 2 = 6) by omega), b1, Option.bind_some, bool_r, Option.bind_some, bool_r]
            exact ⟨τ3, rfl, b2, agm_trans x2 b3, fun w => ⟨(b5 w).1, (b5 w).2, by rw [b4]; exact h14b⟩⟩
        · have z2 : wl B sz q = wS 2 := by
            rcases zw with w | w | w
            · exact absurd w z0
            · exact absurd w z1
            · exact w
          rw [if_neg z1, if_pos rfl, if_neg z1, if_pos z2, if_neg (show ¬ (j = 0 ∨ j = 40) by omega)]
          obtain ⟨τ3, b1, b2, b3, b4, b5⟩ := M_bushHere hn t2 z2 V2 v1 v1'
          show ∃ τ, ((F_X12_isBushHere n τ2).bind _).bind _ = some _ ∧ _
          rw [b1, Option.bind_some, bool_r, Option.bind_some, bool_r]
          exact ⟨τ3, rfl, b2, agm_trans x2 b3, fun w => ⟨(b5 w).1, (b5 w).2, by rw [b4]; exact h14b⟩⟩
  · rw [if_neg zw, if_pos rfl, if_neg (fun w => zw (Or.inl w)), if_neg (fun w => zw (Or.inr (Or.inl w))), if_neg (fun w => zw (Or.inr (Or.inr w)))]
    obtain ⟨τf, f1, f2, f3⟩ := fail 0
    show ∃ τ, (F_X12_fails n (nI 0) (nI q) τ1).bind _ = some _ ∧ _
    rw [f1, if_neg (show ¬ 1 + 8 * q = 0 by omega)]
    exact ⟨τf, rfl, f2, f3, fun w => absurd w (by show ¬ 1 + 8 * q = 0; omega)⟩
end CG
