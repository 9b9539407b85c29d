/-! The class reckons a rule's code. -/
def enO (s : Nat) : Int32 := if s = 2 then -20 else if s = 3 then -21 else if s = 4 then -22 else if s = 5 then -23 else if s = 14 then -24 else if s = 6 then -25 else if s = 7 then -26 else if s = 8 then -27 else if s = 9 then -28 else if s = 10 then -29 else if s = 13 then -34 else if s = 12 then -35 else -36
def enT (t : Nat) : Int32 := if t % 16 = 0 then (if t / 16 = 0 then -12 else nI (t / 16)) else if t % 16 = 1 then wcd (t / 16) else enO t
theorem enO_facts : ∀ s, s < 15 → 2 ≤ s → enO s < -12 ∧ ¬ enO s = -40 ∧ ¬ enO s = -41 ∧ (enO s = -36 ↔ s = 11) := by decide +kernel
theorem wcd_facts : ∀ k, k < 11 → ¬ wcd k < -12 ∧ wcd k < 0 := by decide +kernel
theorem tyc_len : ∀ (c : List Nat) (s s' : List Bool), tyc c s = some s' → s'.length ≤ s.length + nvl c
  | [], s, s', h => by cases h; simp [nvl]
  | t :: c, s, s', h => by
    simp only [tyc] at h
    cases e : ty1 t s with
    | none => rw [e] at h; cases h
    | some s1 =>
      rw [e, Option.bind_some] at h
      have h1 := tyc_len c s1 s' h
      have h2 := ty1_len e
      simp only [nvl]
      omega
section XR
variable {n b i : Nat} {S : Nat → Nat}
def skX (σ : PS) (st : List Int64) : Prop := σ.1 7 5 = nI st.length ∧ skJ σ 17 st
def agw (σ τ : PS) : Prop := agx [] σ τ ∧ τ.1 7 6 = σ.1 7 6
theorem agw_refl {σ : PS} : agw σ σ := ⟨agx_refl, rfl⟩
theorem agw_trans {a b c : PS} (h1 : agw a b) (h2 : agw b c) : agw a c := ⟨agx_trans h1.1 h2.1, h2.2.trans h1.2⟩
theorem agw_top {σ : PS} {v : Int32} : agw σ (psI σ 7 5 v) := ⟨agx_fld (by decide), by rw [psI_eq, if_neg (by decide)]⟩
theorem agw_stk {σ : PS} {k : Nat} {v : Int64} : agw σ (psJ σ 17 k v) := ⟨⟨fun j _ _ h17 => psJ_ne h17, rfl⟩, rfl⟩
theorem agw_row {σ τ : PS} (h : agw σ τ) {j : Nat} (h7 : j ≠ 7) (h17 : j ≠ 17) : τ.1 j = σ.1 j := (h.1.1 j (by simp) h7 h17).1
theorem X_push {σ : PS} {st : List Int64} (h : skX σ st) (hl : st.length < 60) (v : Int64) : ∃ τ, F_X4_push n v σ = some τ ∧ skX τ (v :: st) ∧ agw σ τ := by
  unfold F_X4_push
  rw [psJ_I, h.1, show Int32.ofNat 60 = nI 60 from rfl, if_neg (nI_ge (by omega) (by omega))]
  simp (disch := omega) only [nI_lit, nI_ge0, nI_clamp, true_and]
  rw [if_pos hl]
  refine ⟨_, rfl, ⟨?_, ?_, ?_⟩, ?_⟩
  · rw [psI_eq, if_pos rfl]; exact nI_add _ _
  · show (psJ σ 17 st.length v).2 17 st.length = v
    rw [psJ_eq, if_pos rfl]
  · exact skJ_ext st (fun k hk => by show (psJ σ 17 st.length v).2 17 k = _; rw [psJ_eq, if_neg (by omega)]) h.2
  · exact agw_trans agw_stk agw_top
theorem X_pop {σ : PS} {v : Int64} {st : List Int64} (h : skX σ (v :: st)) (hl : st.length < 60) : ∃ τ, F_X4_pop n σ = some (v, τ) ∧ skX τ st ∧ agw σ τ := by
  unfold F_X4_pop
  have e : (psI σ 7 5 ((σ.1 7 5) - 1)) = psI σ 7 5 (nI st.length) := by
    rw [h.1, List.length_cons, nI_pred]
  rw [e, h.1, psI_eq, if_pos rfl, List.length_cons]
  simp (disch := omega) only [nI_lit, nI_ge0, nI_clamp, true_and, nI_ltI]
  rw [if_pos (by omega), if_pos hl]
  refine ⟨psI σ 7 5 (nI st.length), ?_, ⟨?_, skJ_ext (σ := σ) st (fun k _ => rfl) h.2.2⟩, agw_top⟩
  · rw [show (psI σ 7 5 (nI st.length)).2 17 st.length = v from h.2.1]
  · rw [psI_eq, if_pos rfl]

theorem X_join2 (x y : Int64) (σ : PS) : F_X4_joined n (enO 2) x y σ = some (bop 2 x y, σ) := by
  rw [show enO 2 = (-20 : Int32) from by decide]
  unfold F_X4_joined bop
  rw [if_neg (show ¬ ((-20 : Int32) = -35) by decide), if_neg (show ¬ ((-20 : Int32) = -34) by decide), if_neg (show ¬ ((-20 : Int32) = -29) by decide), if_neg (show ¬ ((-20 : Int32) = -28) by decide), if_neg (show ¬ ((-20 : Int32) = -27) by decide), if_neg (show ¬ ((-20 : Int32) = -26) by decide), if_neg (show ¬ ((-20 : Int32) = -25) by decide), if_neg (show ¬ ((-20 : Int32) = -24) by decide), if_neg (show ¬ ((-20 : Int32) = -23) by decide), if_neg (show ¬ ((-20 : Int32) = -22) by decide), if_neg (show ¬ ((-20 : Int32) = -21) by decide), if_pos rfl, if_pos rfl]
theorem X_join3 (x y : Int64) (σ : PS) : F_X4_joined n (enO 3) x y σ = some (bop 3 x y, σ) := by
  rw [show enO 3 = (-21 : Int32) from by decide]
  unfold F_X4_joined bop
  rw [if_neg (show ¬ ((-21 : Int32) = -35) by decide), if_neg (show ¬ ((-21 : Int32) = -34) by decide), if_neg (show ¬ ((-21 : Int32) = -29) by decide), if_neg (show ¬ ((-21 : Int32) = -28) by decide), if_neg (show ¬ ((-21 : Int32) = -27) by decide), if_neg (show ¬ ((-21 : Int32) = -26) by decide), if_neg (show ¬ ((-21 : Int32) = -25) by decide), if_neg (show ¬ ((-21 : Int32) = -24) by decide), if_neg (show ¬ ((-21 : Int32) = -23) by decide), if_neg (show ¬ ((-21 : Int32) = -22) by decide), if_pos rfl, if_neg (show ¬ ((3 : Nat) = 2) by decide), if_pos rfl]
theorem X_join4 (x y : Int64) (σ : PS) : F_X4_joined n (enO 4) x y σ = some (bop 4 x y, σ) := by
  rw [show enO 4 = (-22 : Int32) from by decide]
  unfold F_X4_joined bop
  rw [if_neg (show ¬ ((-22 : Int32) = -35) by decide), if_neg (show ¬ ((-22 : Int32) = -34) by decide), if_neg (show ¬ ((-22 : Int32) = -29) by decide), if_neg (show ¬ ((-22 : Int32) = -28) by decide), if_neg (show ¬ ((-22 : Int32) = -27) by decide), if_neg (show ¬ ((-22 : Int32) = -26) by decide), if_neg (show ¬ ((-22 : Int32) = -25) by decide), if_neg (show ¬ ((-22 : Int32) = -24) by decide), if_neg (show ¬ ((-22 : Int32) = -23) by decide), if_pos rfl, if_neg (show ¬ ((4 : Nat) = 2) by decide), if_neg (show ¬ ((4 : Nat) = 3) by decide), if_pos rfl]
theorem X_join5 (x y : Int64) (σ : PS) : F_X4_joined n (enO 5) x y σ = some (bop 5 x y, σ) := by
  rw [show enO 5 = (-23 : Int32) from by decide]
  unfold F_X4_joined bop
  rw [if_neg (show ¬ ((-23 : Int32) = -35) by decide), if_neg (show ¬ ((-23 : Int32) = -34) by decide), if_neg (show ¬ ((-23 : Int32) = -29) by decide), if_neg (show ¬ ((-23 : Int32) = -28) by decide), if_neg (show ¬ ((-23 : Int32) = -27) by decide), if_neg (show ¬ ((-23 : Int32) = -26) by decide), if_neg (show ¬ ((-23 : Int32) = -25) by decide), if_neg (show ¬ ((-23 : Int32) = -24) by decide), if_pos rfl, if_neg (show ¬ ((5 : Nat) = 2) by decide), if_neg (show ¬ ((5 : Nat) = 3) by decide), if_neg (show ¬ ((5 : Nat) = 4) by decide), if_pos rfl]
  by_cases q : y = 0
  · rw [if_pos ((lg_cmp_eq y 0).mpr q), if_pos q]
  · rw [if_neg (fun z => q ((lg_cmp_eq y 0).mp z)), if_neg q, if_neg q]
theorem X_join6 (x y : Int64) (σ : PS) : F_X4_joined n (enO 6) x y σ = some (bop 6 x y, σ) := by
  rw [show enO 6 = (-25 : Int32) from by decide]
  unfold F_X4_joined bop
  rw [if_neg (show ¬ ((-25 : Int32) = -35) by decide), if_neg (show ¬ ((-25 : Int32) = -34) by decide), if_neg (show ¬ ((-25 : Int32) = -29) by decide), if_neg (show ¬ ((-25 : Int32) = -28) by decide), if_neg (show ¬ ((-25 : Int32) = -27) by decide), if_neg (show ¬ ((-25 : Int32) = -26) by decide), if_pos rfl, if_neg (show ¬ ((6 : Nat) = 2) by decide), if_neg (show ¬ ((6 : Nat) = 3) by decide), if_neg (show ¬ ((6 : Nat) = 4) by decide), if_neg (show ¬ ((6 : Nat) = 5) by decide), if_pos rfl]
  split <;> rfl
theorem X_join7 (x y : Int64) (σ : PS) : F_X4_joined n (enO 7) x y σ = some (bop 7 x y, σ) := by
  rw [show enO 7 = (-26 : Int32) from by decide]
  unfold F_X4_joined bop
  rw [if_neg (show ¬ ((-26 : Int32) = -35) by decide), if_neg (show ¬ ((-26 : Int32) = -34) by decide), if_neg (show ¬ ((-26 : Int32) = -29) by decide), if_neg (show ¬ ((-26 : Int32) = -28) by decide), if_neg (show ¬ ((-26 : Int32) = -27) by decide), if_pos rfl, if_neg (show ¬ ((7 : Nat) = 2) by decide), if_neg (show ¬ ((7 : Nat) = 3) by decide), if_neg (show ¬ ((7 : Nat) = 4) by decide), if_neg (show ¬ ((7 : Nat) = 5) by decide), if_neg (show ¬ ((7 : Nat) = 6) by decide), if_pos rfl]
  split <;> rfl
theorem X_join8 (x y : Int64) (σ : PS) : F_X4_joined n (enO 8) x y σ = some (bop 8 x y, σ) := by
  rw [show enO 8 = (-27 : Int32) from by decide]
  unfold F_X4_joined bop
  rw [if_neg (show ¬ ((-27 : Int32) = -35) by decide), if_neg (show ¬ ((-27 : Int32) = -34) by decide), if_neg (show ¬ ((-27 : Int32) = -29) by decide), if_neg (show ¬ ((-27 : Int32) = -28) by decide), if_pos rfl, if_neg (show ¬ ((8 : Nat) = 2) by decide), if_neg (show ¬ ((8 : Nat) = 3) by decide), if_neg (show ¬ ((8 : Nat) = 4) by decide), if_neg (show ¬ ((8 : Nat) = 5) by decide), if_neg (show ¬ ((8 : Nat) = 6) by decide), if_neg (show ¬ ((8 : Nat) = 7) by decide), if_pos rfl]
  split <;> rfl
theorem X_join9 (x y : Int64) (σ : PS) : F_X4_joined n (enO 9) x y σ = some (bop 9 x y, σ) := by
  rw [show enO 9 = (-28 : Int32) from by decide]
  unfold F_X4_joined bop
  rw [if_neg (show ¬ ((-28 : Int32) = -35) by decide), if_neg (show ¬ ((-28 : Int32) = -34) by decide), if_neg (show ¬ ((-28 : Int32) = -29) by decide), if_pos rfl, if_neg (show ¬ ((9 : Nat) = 2) by decide), if_neg (show ¬ ((9 : Nat) = 3) by decide), if_neg (show ¬ ((9 : Nat) = 4) by decide), if_neg (show ¬ ((9 : Nat) = 5) by decide), if_neg (show ¬ ((9 : Nat) = 6) by decide), if_neg (show ¬ ((9 : Nat) = 7) by decide), if_neg (show ¬ ((9 : Nat) = 8) by decide), if_pos rfl]
  split <;> rfl
theorem X_join10 (x y : Int64) (σ : PS) : F_X4_joined n (enO 10) x y σ = some (bop 10 x y, σ) := by
  rw [show enO 10 = (-29 : Int32) from by decide]
  unfold F_X4_joined bop
  rw [if_neg (show ¬ ((-29 : Int32) = -35) by decide), if_neg (show ¬ ((-29 : Int32) = -34) by decide), if_pos rfl, if_neg (show ¬ ((10 : Nat) = 2) by decide), if_neg (show ¬ ((10 : Nat) = 3) by decide), if_neg (show ¬ ((10 : Nat) = 4) by decide), if_neg (show ¬ ((10 : Nat) = 5) by decide), if_neg (show ¬ ((10 : Nat) = 6) by decide), if_neg (show ¬ ((10 : Nat) = 7) by decide), if_neg (show ¬ ((10 : Nat) = 8) by decide), if_neg (show ¬ ((10 : Nat) = 9) by decide), if_pos rfl]
  split <;> rfl
theorem X_join12 (x y : Int64) (σ : PS) : F_X4_joined n (enO 12) x y σ = some (bop 12 x y, σ) := by
  rw [show enO 12 = (-35 : Int32) from by decide]
  unfold F_X4_joined bop
  rw [if_pos rfl, if_neg (show ¬ ((12 : Nat) = 2) by decide), if_neg (show ¬ ((12 : Nat) = 3) by decide), if_neg (show ¬ ((12 : Nat) = 4) by decide), if_neg (show ¬ ((12 : Nat) = 5) by decide), if_neg (show ¬ ((12 : Nat) = 6) by decide), if_neg (show ¬ ((12 : Nat) = 7) by decide), if_neg (show ¬ ((12 : Nat) = 8) by decide), if_neg (show ¬ ((12 : Nat) = 9) by decide), if_neg (show ¬ ((12 : Nat) = 10) by decide), if_pos rfl]
theorem X_join13 (x y : Int64) (σ : PS) : F_X4_joined n (enO 13) x y σ = some (bop 13 x y, σ) := by
  rw [show enO 13 = (-34 : Int32) from by decide]
  unfold F_X4_joined bop
  rw [if_neg (show ¬ ((-34 : Int32) = -35) by decide), if_pos rfl, if_neg (show ¬ ((13 : Nat) = 2) by decide), if_neg (show ¬ ((13 : Nat) = 3) by decide), if_neg (show ¬ ((13 : Nat) = 4) by decide), if_neg (show ¬ ((13 : Nat) = 5) by decide), if_neg (show ¬ ((13 : Nat) = 6) by decide), if_neg (show ¬ ((13 : Nat) = 7) by decide), if_neg (show ¬ ((13 : Nat) = 8) by decide), if_neg (show ¬ ((13 : Nat) = 9) by decide), if_neg (show ¬ ((13 : Nat) = 10) by decide), if_neg (show ¬ ((13 : Nat) = 12) by decide), if_neg (show ¬ ((13 : Nat) = 14) by decide)]
theorem X_join14 (x y : Int64) (σ : PS) : F_X4_joined n (enO 14) x y σ = some (bop 14 x y, σ) := by
  rw [show enO 14 = (-24 : Int32) from by decide]
  unfold F_X4_joined bop
  rw [if_neg (show ¬ ((-24 : Int32) = -35) by decide), if_neg (show ¬ ((-24 : Int32) = -34) by decide), if_neg (show ¬ ((-24 : Int32) = -29) by decide), if_neg (show ¬ ((-24 : Int32) = -28) by decide), if_neg (show ¬ ((-24 : Int32) = -27) by decide), if_neg (show ¬ ((-24 : Int32) = -26) by decide), if_neg (show ¬ ((-24 : Int32) = -25) by decide), if_pos rfl, if_neg (show ¬ ((14 : Nat) = 2) by decide), if_neg (show ¬ ((14 : Nat) = 3) by decide), if_neg (show ¬ ((14 : Nat) = 4) by decide), if_neg (show ¬ ((14 : Nat) = 5) by decide), if_neg (show ¬ ((14 : Nat) = 6) by decide), if_neg (show ¬ ((14 : Nat) = 7) by decide), if_neg (show ¬ ((14 : Nat) = 8) by decide), if_neg (show ¬ ((14 : Nat) = 9) by decide), if_neg (show ¬ ((14 : Nat) = 10) by decide), if_neg (show ¬ ((14 : Nat) = 12) by decide), if_pos rfl]
  by_cases q : y = 0
  · rw [if_pos ((lg_cmp_eq y 0).mpr q), if_pos q]
  · rw [if_neg (fun z => q ((lg_cmp_eq y 0).mp z)), if_neg q, if_neg q]
theorem X_joined {s : Nat} (h2 : 2 ≤ s) (h14 : s ≤ 14) (h11 : s ≠ 11) (x y : Int64) (σ : PS) : F_X4_joined n (enO s) x y σ = some (bop s x y, σ) := by
  have hs : s = 2 ∨ s = 3 ∨ s = 4 ∨ s = 5 ∨ s = 6 ∨ s = 7 ∨ s = 8 ∨ s = 9 ∨ s = 10 ∨ s = 12 ∨ s = 13 ∨ s = 14 := by omega
  rcases hs with e | e | e | e | e | e | e | e | e | e | e | e <;> subst e
  · exact X_join2 x y σ
  · exact X_join3 x y σ
  · exact X_join4 x y σ
  · exact X_join5 x y σ
  · exact X_join6 x y σ
  · exact X_join7 x y σ
  · exact X_join8 x y σ
  · exact X_join9 x y σ
  · exact X_join10 x y σ
  · exact X_join12 x y σ
  · exact X_join13 x y σ
  · exact X_join14 x y σ
theorem X_vz (x : Int32) (σ : PS) : F_X4_valueOf n i (-12) x σ = some (0, σ) := by
  unfold F_X4_valueOf
  rw [if_neg (by decide), if_neg (by decide), if_neg (by decide), if_neg (by decide), if_neg (by decide), if_neg (by decide), if_neg (by decide), if_neg (by decide), if_neg (by decide), if_neg (by decide), if_neg (by decide)]
theorem X_wseg (hn : 100 ≤ n) (hb : b < 2 ^ 20) (hw : okW S b) (hi : 18 < i) {r : Nat} (hr : r < 6) {c0 : Nat} (hc : c0 < S 1 * S 1) {sz : Nat} (hz : sz ≤ 400) : ∀ (c : List Nat) (k j : Nat) (σ : PS) (s s' : List Bool) (st : List Int64), (∀ t ∈ c, okT t) → tyc c s = some s' → tvs s st → (∀ x, x < c.length → σ.1 (9 + r) (j + x) = enT (c.getD x 0)) → σ.1 15 r = nI sz → j + c.length ≤ sz → RX σ i S → (97 ∈ c → σ.1 7 6 = nI (nr S c0)) → skX σ st → st.length + nvl c ≤ 60 → ∃ τ, L_X4_worthOf_8 n i (k + c.length) (nI r) (nI c0) (nI j) σ = L_X4_worthOf_8 n i k (nI r) (nI c0) (nI (j + c.length)) τ ∧ skX τ (ev (wrd S c0) c st) ∧ agw σ τ
  | [], k, j, σ, s, s', st, hok, hty, hv, hcd, hsz, hj, hR, h7, hsk, hln => ⟨σ, rfl, hsk, agw_refl⟩
  | t :: c, k, j, σ, s, s', st, hok, hty, hv, hcd, hsz, hj, hR, h7, hsk, hln => by
    simp only [tyc] at hty
    cases e : ty1 t s with
    | none => rw [e] at hty; cases hty
    | some s1 =>
      rw [e, Option.bind_some] at hty
      have h36 := okW_36 hw
      have hT := hok t (by simp)
      simp only [List.length_cons] at hj hcd ⊢
      have hev := ev1_ty (w := wrd S c0) e hv []
      have hlen1 : (ev1 (wrd S c0) t st).length ≤ st.length + (if t % 16 ≤ 1 then 1 else 0) := by
        rw [tvs_len _ _ hev.1, tvs_len _ _ hv]; exact ty1_len e
      have hnv : nvl (t :: c) = (if t % 16 ≤ 1 then 1 else 0) + nvl c := rfl
      rw [hnv] at hln
      have hlv : t % 16 ≤ 1 → st.length < 60 := fun q => by rw [if_pos q] at hln; omega
      have fin : ∀ τ, skX τ (ev1 (wrd S c0) t st) → agw σ τ → ∃ υ, L_X4_worthOf_8 n i (k + c.length) (nI r) (nI c0) (nI (j + 1)) τ = L_X4_worthOf_8 n i k (nI r) (nI c0) (nI (j + (c.length + 1))) υ ∧ skX υ (ev (wrd S c0) (t :: c) st) ∧ agw σ υ := by
        intro τ h1 h2
        obtain ⟨υ, a, b', d⟩ := X_wseg hn hb hw hi hr hc hz c k (j + 1) τ s1 s' (ev1 (wrd S c0) t st) (fun x hx => hok x (by simp [hx])) hty hev.1 (fun x hx => by
            rw [agw_row h2 (by omega) (by omega), show j + 1 + x = j + (x + 1) by omega, hcd (x + 1) (by omega)]; rfl) (by rw [agw_row h2 (by omega) (by omega)]; exact hsz) (by omega) (RX_agx hR h2.1 hi nil_m) (fun q => h2.2.trans (h7 (by simp [q]))) h1 (by omega)
        exact ⟨υ, by rw [show j + (c.length + 1) = j + 1 + c.length by omega]; exact a, b', agw_trans h2 d⟩
      have h0 : σ.1 (9 + r) j = enT t := hcd 0 (by omega)
      rw [show k + (c.length + 1) = (k + c.length) + 1 by omega, L_X4_worthOf_8, nI_clamp (show r < 2 ^ 31 by omega), nI_clamp (show j < 2 ^ 31 by omega), if_pos ⟨nI_pos' (by omega), hr⟩, hsz, if_neg (nI_ge (by omega) (by omega)), if_pos ⟨nI_pos' (by omega), by omega⟩, h0, nI_1]
      by_cases e0 : t % 16 = 0
      · have e1' : enT t = if t / 16 = 0 then -12 else nI (t / 16) := by unfold enT; rw [if_pos e0]
        rw [e1']
        by_cases ez : t / 16 = 0
        · rw [if_pos ez, if_neg (by decide), if_pos (by decide), X_vz, Option.bind_some]
          obtain ⟨τ, a, b', d⟩ := X_push (n := n) hsk (hlv (by omega)) 0
          show ∃ τ_1, (F_X4_push n 0 σ).bind _ = _ ∧ _
          rw [a, Option.bind_some]
          exact fin τ (by rw [ev1_0 e0, ez]; exact b') d
        · have hlt : t / 16 < 2 ^ 31 := by unfold okT at hT; omega
          rw [if_neg ez, if_neg (fun q => by have h := Int32.lt_trans q (show (-12 : Int32) < 0 by decide); exact nI_pos hlt h), if_neg (nI_pos hlt), nI_l hlt]
          obtain ⟨τ, a, b', d⟩ := X_push (n := n) hsk (hlv (by omega)) (lN (t / 16))
          rw [a, Option.bind_some]
          exact fin τ (by rw [ev1_0 e0]; exact b') d
      by_cases e1 : t % 16 = 1
      · have h11 : t / 16 < 11 := by unfold okT at hT; omega
        have e1' : enT t = wcd (t / 16) := by unfold enT; rw [if_neg e0, if_pos e1]
        have hwf := wcd_facts _ h11
        rw [e1', if_neg hwf.1, if_pos hwf.2, X_valueOf hn hR hb hw hc h11 (fun q => h7 (by rw [show (97 : Nat) = t by omega]; simp)), Option.bind_some]
        obtain ⟨τ, a, b', d⟩ := X_push (n := n) hsk (hlv (by omega)) (wrd S c0 (t / 16))
        show ∃ τ_1, (F_X4_push n (wrd S c0 (t / 16)) σ).bind _ = _ ∧ _
        rw [a, Option.bind_some]
        exact fin τ (by rw [ev1_1 e1]; exact b') d
      have ht2 : 2 ≤ t ∧ t ≤ 14 := by unfold okT at hT; omega
      have hm : t % 16 = t := by omega
      have e1' : enT t = enO t := by unfold enT; rw [if_neg e0, if_neg e1]
      obtain ⟨f1, f2, f3, f4⟩ := enO_facts t (by omega) ht2.1
      rw [e1', if_pos f1, if_neg f2, if_neg f3]
      by_cases e11 : t % 16 = 11
      · obtain ⟨v, st', q, hv01⟩ := ty1_not e e11 hv
        subst q
        simp only [List.length_cons] at hln
        rw [if_pos (f4.mpr (by omega))]
        obtain ⟨τ, a, b', d⟩ := X_pop (n := n) hsk (by omega)
        rw [a, Option.bind_some]
        show ∃ τ_1, (if lg_cmp v 0 = 0 then (F_X4_push n 1 τ).bind _ else (F_X4_push n 0 τ).bind _) = _ ∧ _
        by_cases q : v = 0
        · rw [if_pos ((lg_cmp_eq _ _).mpr q)]
          obtain ⟨τ2, a2, b2, d2⟩ := X_push (n := n) b' (by omega) 1
          rw [a2, Option.bind_some]
          exact fin τ2 (by rw [ev1_11 e11, if_pos q]; exact b2) (agw_trans d d2)
        · rw [if_neg (fun z => q ((lg_cmp_eq _ _).mp z))]
          obtain ⟨τ2, a2, b2, d2⟩ := X_push (n := n) b' (by omega) 0
          rw [a2, Option.bind_some]
          exact fin τ2 (by rw [ev1_11 e11, if_neg q]; exact b2) (agw_trans d d2)
      · obtain ⟨y, x, st', q⟩ := ty1_bin e e0 e1 e11 hv
        subst q
        simp only [List.length_cons] at hln
        rw [if_neg (fun z => e11 (by have := f4.mp z; omega))]
        obtain ⟨τ, a, b', d⟩ := X_pop (n := n) hsk (by simp only [List.length_cons]; omega)
        rw [a, Option.bind_some]
        obtain ⟨τ2, a2, b2, d2⟩ := X_pop (n := n) b' (by omega)
        show ∃ τ_1, (F_X4_pop n τ).bind _ = _ ∧ _
        rw [a2, Option.bind_some]
        show ∃ τ_1, (F_X4_joined n (enO t) x y τ2).bind _ = _ ∧ _
        rw [X_joined ht2.1 ht2.2 (by omega), Option.bind_some]
        obtain ⟨τ3, a3, b3, d3⟩ := X_push (n := n) b2 (by omega) (bop t x y)
        show ∃ τ_1, (F_X4_push n (bop t x y) τ2).bind _ = _ ∧ _
        rw [a3, Option.bind_some]
        exact fin τ3 (by rw [ev1_b e0 e1 e11, hm]; exact b3) (agw_trans d (agw_trans d2 d3))
/-- the class's code of clauses, from place j of a row on -/
def clX (ρ : Nat → Int32) : List CL → Nat → Prop
  | [], _ => True
  | k :: cs, j => (∀ x, x < k.1.length → ρ (j + x) = enT (k.1.getD x 0)) ∧ (∀ x, x < k.2.1.length → ρ (j + k.1.length + x) = enT (k.2.1.getD x 0)) ∧ ρ (j + k.1.length + k.2.1.length) = (if k.2.2 = true then -41 else -40) ∧ clX ρ cs (j + k.1.length + k.2.1.length + 1)
def szX : List CL → Nat
  | [] => 0
  | k :: cs => k.1.length + k.2.1.length + 1 + szX cs
def hasN (cs : List CL) : Prop := ∃ k ∈ cs, 97 ∈ k.1 ∨ 97 ∈ k.2.1
def stX (σ : PS) (r : Nat) (cs : List CL) : Prop := szX cs ≤ 400 ∧ σ.1 15 r = nI (szX cs) ∧ (∀ k ∈ cs, okCl k) ∧ clX (σ.1 (9 + r)) cs 0 ∧ (hasN cs → ¬ σ.1 16 r = 0)
theorem X_wcl (hn : 100 ≤ n) (hb : b < 2 ^ 20) (hw : okW S b) (hi : 18 < i) {r : Nat} (hr : r < 6) {c0 : Nat} (hc : c0 < S 1 * S 1) {sz : Nat} (hz : sz ≤ 400) : ∀ (cs : List CL) (k j : Nat) (σ : PS), (∀ k ∈ cs, okCl k) → clX (σ.1 (9 + r)) cs j → j + szX cs = sz → σ.1 15 r = nI sz → RX σ i S → (hasN cs → σ.1 7 6 = nI (nr S c0)) → skX σ [] → szX cs < k → ∃ e v τ, L_X4_worthOf_8 n i k (nI r) (nI c0) (nI j) σ = some (e, v, τ) ∧ agw σ τ ∧ ((e = 0 ∧ skX τ [fC (wrd S c0) cs]) ∨ (e = 1 ∧ v = fC (wrd S c0) cs) ∨ (e = 2 ∧ fC (wrd S c0) cs = 0))
  | [], 0, j, σ, hok, hcl, hj, hsz, hR, h7, hsk, hk => by simp at hk
  | [], k + 1, j, σ, hok, hcl, hj, hsz, hR, h7, hsk, hk => by
    simp only [szX, Nat.add_zero] at hj
    subst hj
    rw [L_X4_worthOf_8, nI_clamp (show r < 2 ^ 31 by omega), if_pos ⟨nI_pos' (by omega), hr⟩, hsz, if_pos (nI_le (Nat.le_refl _) (by omega))]
    exact ⟨_, _, _, rfl, agw_refl, Or.inr (Or.inr ⟨rfl, rfl⟩)⟩
  | c :: cs, k, j, σ, hok, hcl, hj, hsz, hR, h7, hsk, hk => by
    simp only [szX] at hj hk
    obtain ⟨c1, c2, c3, c4⟩ := hcl
    obtain ⟨o1, o2, o3, o4, o5, o6⟩ := hok c (by simp)
    have o7 := tyc_len _ _ _ o3
    simp only [List.length_cons, List.length_nil] at o7
    have g7 : 97 ∈ c.1 ∨ 97 ∈ c.2.1 → σ.1 7 6 = nI (nr S c0) := fun q => h7 ⟨c, by simp, q⟩
    obtain ⟨τ, a, b1, d⟩ := X_wseg hn hb hw hi hr hc hz c.1 (k - c.1.length) j σ [] [false] [] o1 o3 trivial c1 hsz (by omega) hR (fun q => g7 (Or.inl q)) hsk (by simp only [List.length_nil]; omega)
    rw [show k - c.1.length + c.1.length = k by omega] at a
    rw [a]
    have hv := (ev_ty (w := wrd S c0) c.1 [] [false] [] o3 trivial []).1
    have hfc : fC (wrd S c0) (c :: cs) = if c.2.2 = true ∧ (ev (wrd S c0) c.2.1 []).headD 0 = 0 then fC (wrd S c0) cs else (ev (wrd S c0) c.1 []).headD 0 := rfl
    rw [hfc]
    generalize ev (wrd S c0) c.1 [] = u at b1 hv ⊢
    cases u with
    | nil => exact hv.elim
    | cons v u =>
      cases u with
      | cons v' u => exact hv.2.elim
      | nil =>
        by_cases ef : c.2.2 = true
        · have hty := o4 ef
          have hty2 : tyc c.2.1 [] = some [true] := hty
          have hvt := ev_ty (w := wrd S c0) c.2.1 [] [true] [] hty trivial [v]
          -- the test over the sum
          have hrow : τ.1 (9 + r) = σ.1 (9 + r) := agw_row d (by omega) (by omega)
          have h15 : τ.1 15 = σ.1 15 := agw_row d (by omega) (by omega)
          obtain ⟨s2, hs2⟩ : ∃ s2, tyc c.2.1 [false] = some s2 ∧ True := ⟨[true, false], tyc_frame c.2.1 [] [true] [false] hty, trivial⟩
          obtain ⟨τ2, a2, b2, d2⟩ := X_wseg hn hb hw hi hr hc hz c.2.1 (k - c.1.length - c.2.1.length) (j + c.1.length) τ [false] s2 [v] o2 hs2.1 ⟨fun q => (by cases q), trivial⟩ (fun x hx => by rw [hrow]; exact c2 x hx) (by rw [h15]; exact hsz) (by omega) (RX_agx hR d.1 hi nil_m) (fun q => d.2.trans (g7 (Or.inr q))) b1 (by simp only [List.length_cons, List.length_nil]; omega)
          rw [show k - c.1.length - c.2.1.length + c.2.1.length = k - c.1.length by omega] at a2
          rw [a2]
          have e2 : ev (wrd S c0) c.2.1 [v] = ev (wrd S c0) c.2.1 [] ++ [v] := hvt.2
          rw [e2] at b2
          have hv2 := hvt.1
          generalize ev (wrd S c0) c.2.1 [] = y at b2 hv2 ⊢
          cases y with
          | nil => exact hv2.elim
          | cons y1 y =>
            cases y with
            | cons y2 y => exact hv2.2.elim
            | nil =>
              have b2' : skX τ2 [y1, v] := b2
              obtain ⟨k', hk'⟩ : ∃ k', k - c.1.length - c.2.1.length = k' + 1 := ⟨k - c.1.length - c.2.1.length - 1, by omega⟩
              have hrow2 : τ2.1 (9 + r) = σ.1 (9 + r) := (agw_row d2 (by omega) (by omega)).trans hrow
              have h152 : τ2.1 15 = σ.1 15 := (agw_row d2 (by omega) (by omega)).trans h15
              rw [hk', L_X4_worthOf_8, nI_clamp (show r < 2 ^ 31 by omega), nI_clamp (show j + c.1.length + c.2.1.length < 2 ^ 31 by omega), if_pos ⟨nI_pos' (by omega), hr⟩, h152, hsz, if_neg (nI_ge (by omega) (by omega)), if_pos ⟨nI_pos' (by omega), by omega⟩, hrow2, c3, if_pos ef, if_pos (by decide), if_neg (by decide), if_pos rfl]
              obtain ⟨τ3, a3, b3, d3⟩ := X_pop (n := n) b2' (by simp)
              rw [a3, Option.bind_some]
              obtain ⟨τ4, a4, b4, d4⟩ := X_pop (n := n) b3 (by simp)
              show ∃ e v_1 τ_1, (if lg_cmp y1 0 = 0 then (F_X4_pop n τ3).bind _ else (F_X4_pop n τ3).bind _) = some (e, v_1, τ_1) ∧ _
              rw [a4, Option.bind_some, Option.bind_some]
              have dd := agw_trans d (agw_trans d2 (agw_trans d3 d4))
              by_cases q : y1 = 0
              · rw [if_pos ((lg_cmp_eq _ _).mpr q), if_pos rfl, nI_1]
                have hrow4 : τ4.1 (9 + r) = σ.1 (9 + r) := agw_row dd (by omega) (by omega)
                have h154 : τ4.1 15 = σ.1 15 := agw_row dd (by omega) (by omega)
                obtain ⟨e, v2, τ5, p1, p2, p3⟩ := X_wcl hn hb hw hi hr hc hz cs k' (j + c.1.length + c.2.1.length + 1) τ4 (fun x hx => hok x (by simp [hx])) (by rw [hrow4]; exact c4) (by omega) (by rw [h154]; exact hsz) (RX_agx hR dd.1 hi nil_m) (fun z => dd.2.trans (h7 (by obtain ⟨x, hx, hz⟩ := z; exact ⟨x, by simp [hx], hz⟩))) b4 (by omega)
                refine ⟨e, v2, τ5, p1, agw_trans dd p2, ?_⟩
                rw [if_pos ⟨ef, q⟩]
                exact p3
              · rw [if_neg (fun z => q ((lg_cmp_eq _ _).mp z)), if_neg (by decide)]
                refine ⟨_, _, _, rfl, dd, Or.inr (Or.inl ⟨rfl, ?_⟩)⟩
                rw [if_neg (fun z => q z.2)]
                rfl
        · have et : c.2.1 = [] := o5 (by cases h : c.2.2 with | true => exact absurd h ef | false => rfl)
          have hrow : τ.1 (9 + r) = σ.1 (9 + r) := agw_row d (by omega) (by omega)
          have h15 : τ.1 15 = σ.1 15 := agw_row d (by omega) (by omega)
          rw [et] at c3
          simp only [List.length_nil, Nat.add_zero] at c3
          obtain ⟨k', hk'⟩ : ∃ k', k - c.1.length = k' + 1 := ⟨k - c.1.length - 1, by omega⟩
          rw [hk', L_X4_worthOf_8, nI_clamp (show r < 2 ^ 31 by omega), nI_clamp (show j + c.1.length < 2 ^ 31 by omega), if_pos ⟨nI_pos' (by omega), hr⟩, h15, hsz, if_neg (nI_ge (by omega) (by omega)), if_pos ⟨nI_pos' (by omega), by omega⟩, hrow, c3, if_neg ef, if_pos (by decide), if_pos rfl]
          refine ⟨_, _, _, rfl, d, Or.inl ⟨rfl, ?_⟩⟩
          rw [if_neg (fun z => ef z.1)]
          exact b1
theorem X_ruX (hn : 1000 ≤ n) {r : Nat} (hr : r < 6) {σ : PS} {cs : List CL} (h : stX σ r cs) : ruX n σ r (fun w => fC w cs) := by
  intro τ i S b c hi hR hb hw hc e1 e2 e3
  obtain ⟨h1, h2, h3, h4, h5⟩ := h
  have h0 : agw τ (psI τ 7 5 0) := agw_top
  obtain ⟨e, v, υ, p1, p2, p3⟩ := X_wcl (n := n) (by omega) hb hw hi hr hc h1 cs n 0 (psI τ 7 5 0) h3 (by rw [psI_other (by omega), e2]; exact h4) (by omega) (by rw [psI_other (by omega), e1]; exact h2) (RX_agx hR h0.1 hi nil_m) (fun q => by
    rw [h0.2]
    rcases e3 with z | z
    · exact absurd z (h5 q)
    · exact z) ⟨by rw [psI_eq, if_pos rfl]; rfl, trivial⟩ (by omega)
  unfold F_X4_worthOf
  rw [show nI 0 = (0 : Int32) from rfl] at p1
  rw [p1, Option.bind_some]
  rcases p3 with ⟨q1, q2⟩ | ⟨q1, q2⟩ | ⟨q1, q2⟩
  · subst q1
    obtain ⟨τ4, a4, b4, d4⟩ := X_pop (n := n) q2 (by simp)
    show ∃ υ_1, (if (0 : Nat) = 0 then (F_X4_pop n υ).bind _ else _) = _ ∧ _
    rw [if_pos rfl, a4]
    exact ⟨τ4, rfl, (agw_trans h0 (agw_trans p2 d4)).1⟩
  · subst q1
    subst q2
    exact ⟨υ, rfl, (agw_trans h0 p2).1⟩
  · subst q1
    refine ⟨υ, ?_, (agw_trans h0 p2).1⟩
    show some ((0 : Int64), υ) = some (fC (wrd S c) cs, υ)
    rw [q2]
end XR
