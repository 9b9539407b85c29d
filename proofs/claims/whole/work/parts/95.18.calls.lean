/-! The calls rule, feed and end, each side by itself. -/
def TpX (σ : PS) (B : Nat → Int32) (sz : Nat) : Prop := σ.1 2 = B ∧ σ.1 1 1 = nI sz ∧ sz ≤ 400
def TpM (σ : PS) (B : Nat → Int32) (sz : Nat) : Prop := σ.1 250 = B ∧ σ.1 249 1 = nI sz ∧ sz ≤ 400
section RC
variable {n : Nat} {B : Nat → Int32} {sz : Nat}
theorem X_readRule (hn : 1000 ≤ n) {σ : PS} (h : TpX σ B sz) : ∃ τ, F_X5_read n σ = some τ ∧ ay σ τ ∧ SX τ B sz (nI (ruleP B sz 13 0 0 0).1) ∧ ((ruleP B sz 13 0 0 0).1 = 0 → ∃ m', KX τ (enC (ruleP B sz 13 0 0 0).2) m') := by
  obtain ⟨h1, h2, h3⟩ := h
  unfold F_X5_read F_X9_startReading
  rw [Option.bind_some]
  generalize hT : psI (psI (psI (psI (psI σ 4 1 (0 : Int32)) 4 7 (0 : Int32)) 1 2 (0 : Int32)) 1 3 (0 : Int32)) 1 5 (0 : Int32) = τ0
  have a0 : agr [1, 4] σ τ0 := by rw [← hT]; exact agr_trans (agr_psI (by simp)) (agr_trans (agr_psI (by simp)) (agr_trans (agr_psI (by simp)) (agr_trans (agr_psI (by simp)) (agr_psI (by simp)))))
  have t0 : TX τ0 B sz 0 0 0 := by
    refine ⟨by rw [(a0 2 (by decide)).1]; exact h1, ?_, ?_, ?_, ?_, Nat.le_refl _, Nat.zero_le _, h3⟩
    · rw [← hT, psI_eq, if_neg (by decide), psI_eq, if_neg (by decide), psI_eq, if_neg (by decide), psI_other (by decide), psI_other (by decide)]; exact h2
    · rw [← hT, psI_eq, if_neg (by decide), psI_eq, if_neg (by decide), psI_eq, if_pos rfl]; rfl
    · rw [← hT, psI_eq, if_neg (by decide), psI_eq, if_pos rfl]; rfl
    · rw [← hT, psI_eq, if_pos rfl]
  have k0 : KX τ0 [] 0 := by
    refine ⟨by simp, ?_, fun i hi => by simp at hi, ?_⟩
    · rw [← hT, psI_other (by decide), psI_other (by decide), psI_other (by decide), psI_eq, if_neg (by decide), psI_eq, if_pos rfl]; rfl
    · rw [← hT, psI_other (by decide), psI_other (by decide), psI_other (by decide), psI_eq, if_pos rfl]; rfl
  obtain ⟨e, τ, r1, r2, r3, r4⟩ := X_rule19 hn 13 n 0 0 0 0 τ0 [] t0 k0 (by decide) (by simp) (by decide) (by omega) (by omega)
  show ∃ τ, (L_X5_read_19 n n (nI (0 + 1)) τ0).bind _ = some τ ∧ _
  rw [r1, Option.bind_some]
  refine ⟨τ, ?_, agr_trans (agr_mono a0 (by simp)) r2, r3, r4⟩
  split <;> rfl
theorem nar_b : vp_nar .boolean (1 : Int32) = 1 ∧ vp_nar .boolean (0 : Int32) = 0 := by decide
theorem X_add37 {l : List Int32} {z : Nat} (hz : z < 6) (hl : l.length ≤ 400) : ∀ (k i : Nat) (σ : PS), (∀ x, x < l.length → σ.1 5 x = l.getD x 0) → i ≤ l.length → l.length < k + i → (∀ x, x < i → σ.1 (9 + z) x = l.getD x 0) → ((∃ x, x < i ∧ l.getD x 0 = -7) → σ.1 16 z = 1) → ∃ τ, L_X4_add_37 n 5 k (nI l.length) (nI z) (nI i) σ = some (nI l.length, nI z, τ) ∧ (∀ x, x < l.length → τ.1 (9 + z) x = l.getD x 0) ∧ ((∃ x, x < l.length ∧ l.getD x 0 = -7) → τ.1 16 z = 1) ∧ agr [9 + z, 16] σ τ ∧ ∀ x, x ≠ z → τ.1 16 x = σ.1 16 x
  | 0, i, σ, h5, hi, hk, h9, h16 => by omega
  | k + 1, i, σ, h5, hi, hk, h9, h16 => by
    rw [L_X4_add_37]
    by_cases e : l.length ≤ i
    · have : i = l.length := by omega
      subst this
      rw [if_pos (nI_le (Nat.le_refl _) (by omega))]
      exact ⟨σ, rfl, h9, h16, agr_refl, fun _ _ => rfl⟩
    · rw [if_neg (nI_ge (by omega) (by omega)), nI_clamp (show z < 2 ^ 31 by omega), nI_clamp (show i < 2 ^ 31 by omega), if_pos ⟨nI_pos' (by omega), hz⟩, if_pos ⟨nI_pos' (by omega), by omega⟩, h5 i (by omega)]
      have g5 : ∀ x, (psI σ (9 + z) i (l.getD i 0)).1 5 x = σ.1 5 x := fun x => by rw [psI_other (by omega)]
      rw [g5, h5 i (by omega), nI_1]
      have g9 : ∀ x, x < i + 1 → (psI σ (9 + z) i (l.getD i 0)).1 (9 + z) x = l.getD x 0 := fun x hx => by
        rw [psI_eq]
        by_cases q : x = i
        · rw [if_pos q, q]
        · rw [if_neg q]; exact h9 x (by omega)
      by_cases e7 : l.getD i 0 = -7
      · rw [if_pos e7, nar_b.1]
        obtain ⟨τ, t1, t2, t3, t4, t5⟩ := X_add37 hz hl k (i + 1) (psI (psI σ (9 + z) i (l.getD i 0)) 16 z 1) (fun x hx => by rw [psI_other (by omega), g5]; exact h5 x hx) (by omega) (by omega) (fun x hx => by rw [psI_other (by omega)]; exact g9 x hx) (fun _ => by rw [psI_eq, if_pos rfl])
        refine ⟨τ, t1, t2, t3, agr_trans (agr_psI (by simp)) (agr_trans (agr_psI (by simp)) t4), fun x hx => ?_⟩
        rw [t5 x hx, psI_eq, if_neg hx, psI_other (by omega)]
      · rw [if_neg e7]
        obtain ⟨τ, t1, t2, t3, t4, t5⟩ := X_add37 hz hl k (i + 1) (psI σ (9 + z) i (l.getD i 0)) (fun x hx => by rw [g5]; exact h5 x hx) (by omega) (by omega) g9 (fun q => by
          rw [psI_other (by omega)]
          obtain ⟨x, hx, hx7⟩ := q
          refine h16 ⟨x, ?_, hx7⟩
          by_cases z : x = i
          · rw [z] at hx7; exact absurd hx7 e7
          · omega)
        refine ⟨τ, t1, t2, t3, agr_trans (agr_psI (by simp)) t4, fun x hx => ?_⟩
        rw [t5 x hx, psI_other (by omega)]
theorem X_add (hn : 1000 ≤ n) {l : List Int32} {z : Nat} (hz : z < 6) (hl : l.length ≤ 400) {σ : PS} (h7 : σ.1 7 0 = nI z) (h5 : ∀ x, x < l.length → σ.1 5 x = l.getD x 0) : ∃ τ, F_X4_add n 5 (nI l.length) σ = some (nI z, τ) ∧ τ.1 7 0 = nI (z + 1) ∧ τ.1 15 z = nI l.length ∧ (∀ x, x < l.length → τ.1 (9 + z) x = l.getD x 0) ∧ ((∃ x, x < l.length ∧ l.getD x 0 = -7) → τ.1 16 z = 1) ∧ agr [7, 9 + z, 15, 16] σ τ ∧ (∀ x, x ≠ z → τ.1 15 x = σ.1 15 x ∧ τ.1 16 x = σ.1 16 x) := by
  unfold F_X4_add F_X4_isFull
  rw [h7, if_pos (show nI z < (6 : Int32) from nI_lt (show z < 6 from hz) (by decide)), Option.bind_some, if_pos rfl]
  rw [if_neg (show ¬ Int32.ofNat 400 < nI l.length from nI_nlt (show l.length ≤ 400 from hl) (by decide)), if_pos (show nI l.length ≤ (400 : Int32) from nI_le (show l.length ≤ 400 from hl) (by decide))]
  show ∃ τ, (if 0 ≤ σ.1 7 0 ∧ (σ.1 7 0).toNatClampNeg < 6 then (L_X4_add_37 n 5 n (nI l.length) (σ.1 7 0) (nI 0) (psI σ 16 ((σ.1 7 0).toNatClampNeg) (vp_nar .boolean (0 : Int32)))).bind _ else none) = some _ ∧ _
  rw [h7, nI_clamp (by omega), if_pos ⟨nI_pos' (by omega), hz⟩]
  obtain ⟨τ, t1, t2, t3, t4, t5⟩ := X_add37 (n := n) hz hl n 0 (psI σ 16 z (vp_nar .boolean (0 : Int32))) (fun x hx => by rw [psI_other (by omega)]; exact h5 x hx) (by omega) (by omega) (fun x hx => by omega) (fun q => by obtain ⟨x, hx, _⟩ := q; omega)
  rw [t1, Option.bind_some]
  show ∃ υ, (if 0 ≤ nI z ∧ (nI z).toNatClampNeg < 6 then some (nI z, psI (psI τ 15 ((nI z).toNatClampNeg) (nI l.length)) 7 0 (((psI τ 15 ((nI z).toNatClampNeg) (nI l.length)).1 7 0) + (1 : Int32))) else none) = some _ ∧ _
  rw [nI_clamp (by omega), if_pos ⟨nI_pos' (by omega), hz⟩]
  have r7 : (psI τ 15 z (nI l.length)).1 7 0 = nI z := by
    rw [psI_other (by decide), (t4 7 (by simp; omega)).1, psI_other (by decide)]; exact h7
  rw [r7, nI_p1]
  refine ⟨_, rfl, by rw [psI_eq, if_pos rfl], ?_, fun x hx => ?_, fun q => ?_, ?_, fun x hx => ⟨?_, ?_⟩⟩
  · rw [psI_other (by decide), psI_eq, if_pos rfl]
  · rw [psI_other (by omega), psI_other (by omega)]; exact t2 x hx
  · rw [psI_other (by decide), psI_other (by decide)]; exact t3 q
  · exact agr_trans (agr_psI (by simp)) (agr_trans (agr_mono t4 (by simp)) (agr_trans (agr_psI (by simp)) (agr_psI (by simp))))
  · rw [psI_other (by decide), psI_eq, if_neg hx, (t4 15 (by simp; omega)).1, psI_other (by decide)]
  · rw [psI_other (by decide), psI_other (by decide), t5 x hx, psI_eq, if_neg hx]
/-- the call rule: what it answers -/
def rlA (B : Nat → Int32) (sz z : Nat) : Int32 := if (ruleP B sz 13 0 0 0).1 = 0 then nI z else -2 - nI (ruleP B sz 13 0 0 0).1
theorem O_rule_X6 {σ : PS} (h7 : σ.1 7 0 = nI 6) : F_X11_rule n σ = some (-1, σ) := by
  unfold F_X11_rule F_X4_isFull
  rw [h7, if_neg (by decide), Option.bind_some, if_neg ne10]
theorem O_rule_X (hn : 1000 ≤ n) {σ : PS} {z : Nat} {cs : Nat → List CL} (h : TpX σ B sz) (hz : z < 6) (h7 : σ.1 7 0 = nI z) (hst : ∀ r, r < z → stX σ r (cs r)) : ∃ τ, F_X11_rule n σ = some (rlA B sz z, τ) ∧ TpX τ B 0 ∧ ((¬ (ruleP B sz 13 0 0 0).1 = 0 ∧ τ.1 7 0 = nI z ∧ ∀ r, r < z → stX τ r (cs r)) ∨ ((ruleP B sz 13 0 0 0).1 = 0 ∧ τ.1 7 0 = nI (z + 1) ∧ stX τ z (ruleP B sz 13 0 0 0).2 ∧ ∀ r, r < z → stX τ r (cs r))) ∧ agr [1, 4, 5, 6, 7, 9 + z, 15, 16] σ τ := by
  have h3 := h.2.2
  unfold F_X11_rule F_X4_isFull
  rw [h7, if_pos (show nI z < (6 : Int32) from nI_lt (show z < 6 from hz) (by decide)), Option.bind_some, if_pos rfl]
  obtain ⟨τ1, a1, a2, a3, a4⟩ := X_readRule hn h
  show ∃ τ, (F_X5_read n σ).bind _ = some _ ∧ _
  rw [a1, Option.bind_some]
  obtain ⟨p1, s1, t1⟩ := a3.1
  have hlt := ruleP_lt (B := B) h3 13 0 0 0 (Nat.zero_le _) (by decide) (by decide)
  have g5 : (psI τ1 1 1 (0 : Int32)).1 1 5 = nI (ruleP B sz 13 0 0 0).1 := by rw [psI_eq, if_neg (by decide)]; exact t1.2.2.2.2.1
  have a5 : agr [1, 4, 5, 6] σ (psI τ1 1 1 (0 : Int32)) := agr_trans a2 (agr_psI (by simp))
  have tp : TpX (psI τ1 1 1 (0 : Int32)) B 0 := ⟨by rw [psI_other (by decide)]; exact t1.1, by rw [psI_eq, if_pos rfl]; rfl, by decide⟩
  have st5 : ∀ τ, agr [1, 4, 5, 6] σ τ → ∀ r, r < z → stX τ r (cs r) := by
    intro τ ha r hr
    unfold stX
    rw [(ha 15 (by decide)).1, (ha (9 + r) (by simp; omega)).1, (ha 16 (by decide)).1]
    exact hst r hr
  unfold rlA
  rw [g5]
  by_cases zr : (ruleP B sz 13 0 0 0).1 = 0
  · obtain ⟨m', k1⟩ := a4 zr
    rw [if_pos (show nI (ruleP B sz 13 0 0 0).1 = 0 by rw [zr]; rfl), if_pos zr]
    obtain ⟨o1, o2⟩ := ruleP_ok (B := B) (sz := sz) 13 0 0 0 (Nat.zero_le _) (by decide) (by decide) zr
    generalize hR : (ruleP B sz 13 0 0 0).2 = R at *
    have g41 : (psI τ1 1 1 (0 : Int32)).1 4 1 = nI (enC R).length := by rw [psI_other (by decide)]; exact k1.2.1
    rw [g41]
    have g7 : (psI τ1 1 1 (0 : Int32)).1 7 0 = nI z := by rw [(a5 7 (by decide)).1]; exact h7
    obtain ⟨τ, b1, b2, b3, b4, b5, b6, b7⟩ := X_add (n := n) hn hz k1.1 g7 (fun x hx => by rw [psI_other (by decide)]; exact k1.2.2.1 x hx)
    rw [b1, Option.bind_some]
    have hsz := enC_len R
    refine ⟨τ, rfl, ⟨?_, ?_, by decide⟩, Or.inr ⟨zr, b2, ⟨?_, ?_, o1, ?_, ?_⟩, fun r hr => ?_⟩, ?_⟩
    · rw [(b6 2 (by simp; omega)).1]; exact tp.1
    · rw [(b6 1 (by simp; omega)).1]; exact tp.2.1
    · have := k1.1; omega
    · rw [b3, hsz]
    · exact clX_of R [] (fun i hi => b4 i hi)
    · intro hN
      rw [b5 (hasN_get R hN)]; decide
    · have := st5 _ a5 r hr
      unfold stX at this ⊢
      rw [(b7 r (by omega)).1, (b7 r (by omega)).2, (b6 (9 + r) (by simp; omega)).1]
      exact this
    · exact agr_trans (agr_mono a5 (by intro j hj; simp at hj ⊢; omega)) (agr_mono b6 (by intro j hj; simp at hj ⊢; omega))
  · rw [if_neg (nI_fault zr hlt), if_neg zr]
    exact ⟨_, rfl, tp, Or.inl ⟨zr, by rw [(a5 7 (by decide)).1]; exact h7, st5 _ a5⟩, agr_mono a5 (by intro j hj; simp at hj ⊢; omega)⟩
theorem O_rule_M6 {σ : PS} (h7 : σ.1 249 2 = nI 6) : F_X12_rule n σ = some (-1, σ) := by
  unfold F_X12_rule
  rw [h7, if_pos (show nI 6 = (6 : Int32) from rfl)]
theorem stM_af {r j r' : Nat} {σ τ : PS} {cs : List CL} (h : stM σ r' cs) (ha : af r j σ τ) (hr : r' < r) : stM τ r' cs := by
  obtain ⟨h1, h2, h3, h4⟩ := h
  have key : ∀ (cs : List CL) (i b : Nat), i + cs.length ≤ 12 → clM (fun k => σ.1 253 (48 * r' + k)) (fun k => σ.1 251 (400 * r' + k)) cs i b → clM (fun k => τ.1 253 (48 * r' + k)) (fun k => τ.1 251 (400 * r' + k)) cs i b := by
    intro cs
    induction cs with
    | nil => intro i b _ _; trivial
    | cons k cs ih =>
      intro i b hi hc
      rw [List.length_cons] at hi
      obtain ⟨c1, c2, c3, c4, c5, c6, c7, c8⟩ := hc
      refine ⟨?_, ?_, ?_, ?_, fun x hx => ?_, fun x hx => ?_, c7, ih (i + 1) _ (by omega) c8⟩
      · show τ.1 253 (48 * r' + 4 * i) = _; rw [ha.2.2.1 _ (by omega)]; exact c1
      · show τ.1 253 (48 * r' + (4 * i + 1)) = _; rw [ha.2.2.1 _ (by omega)]; exact c2
      · show τ.1 253 (48 * r' + (4 * i + 2)) = _; rw [ha.2.2.1 _ (by omega)]; exact c3
      · show τ.1 253 (48 * r' + (4 * i + 3)) = _; rw [ha.2.2.1 _ (by omega)]; exact c4
      · show τ.1 251 (400 * r' + (b + x)) = _; rw [ha.2.1 _ (by omega)]; exact c5 x hx
      · show τ.1 251 (400 * r' + (b + k.1.length + x)) = _; rw [ha.2.1 _ (by omega)]; exact c6 x hx
  exact ⟨h1, by rw [ha.2.2.2 r' (by omega)]; exact h2, h3, key cs 0 0 (by omega) h4⟩
theorem O_rule_M (hn : 1000 ≤ n) (hB : ∀ i, byt (B i)) {σ : PS} {z : Nat} {cs : Nat → List CL} (h : TpM σ B sz) (hz : z < 6) (h7 : σ.1 249 2 = nI z) (hst : ∀ r, r < z → stM σ r (cs r)) : ∃ τ, F_X12_rule n σ = some (rlA B sz z, τ) ∧ TpM τ B 0 ∧ ((¬ (ruleP B sz 13 0 0 0).1 = 0 ∧ τ.1 249 2 = nI z ∧ ∀ r, r < z → stM τ r (cs r)) ∨ ((ruleP B sz 13 0 0 0).1 = 0 ∧ τ.1 249 2 = nI (z + 1) ∧ stM τ z (ruleP B sz 13 0 0 0).2 ∧ ∀ r, r < z → stM τ r (cs r))) ∧ agm [251, 252, 253, 254, 256] [1, 2, 8, 9, 10, 11, 12, 13, 14, 16] σ τ := by
  obtain ⟨h0, h1, h3⟩ := h
  unfold F_X12_rule
  rw [h7, if_neg (show ¬ nI z = (6 : Int32) from fun q => by have := nI_inj (b := 6) (by omega) (by decide) q; omega)]
  have e11 : (psI σ 249 11 (nI z)).1 249 11 = nI z := by rw [psI_eq, if_pos rfl]
  rw [e11, nI_clamp (by omega), if_pos ⟨nI_pos' (by omega), hz⟩]
  generalize hT : psI (psI σ 249 11 (nI z)) 254 z (0 : Int32) = τ0
  have a0 : agm [254] [11] σ τ0 := by rw [← hT]; exact agm_trans (agm_fld (by simp)) (agm_psI (by simp) (by decide))
  obtain ⟨τ1, a1, a2, a3, a4, a5⟩ := M_readsRule (n := n) (sz := sz) hn hB hz (by rw [(a0.1 250 (by decide) (by decide)).1]; exact h0) (by rw [(a0.2 1 (by decide)).1]; exact h1) h3 (by rw [← hT, psI_other (by decide)]; exact e11) (by rw [← hT, psI_eq, if_pos rfl]; rfl)
  rw [a1, Option.bind_some]
  have hlt := ruleP_lt (B := B) h3 13 0 0 0 (Nat.zero_le _) (by decide) (by decide)
  have st0 : ∀ r, r < z → stM τ0 r (cs r) := by
    intro r hr
    have := hst r hr
    unfold stM at this ⊢
    rw [(a0.1 253 (by decide) (by decide)).1, (a0.1 251 (by decide) (by decide)).1, show τ0.1 254 r = σ.1 254 r by rw [← hT, psI_eq, if_neg (by omega), psI_other (by decide)]]
    exact this
  have st1 : ∀ r, r < z → stM τ1 r (cs r) := fun r hr => stM_af (st0 r hr) a2 hr
  have ag1 : agm [251, 252, 253, 254, 256] [1, 2, 8, 9, 10, 11, 12, 13, 14, 16] σ τ1 := agm_trans (agm_mono a0 (by simp) (by simp)) (agm_mono a2.1 (by simp) (by simp))
  have g2 : τ1.1 249 2 = nI z := by rw [(a2.1.2 2 (by decide)).1, (a0.2 2 (by decide)).1]; exact h7
  have tp : TpM τ1 B 0 := ⟨by rw [(ag1.1 250 (by decide) (by decide)).1]; exact h0, a3, by decide⟩
  unfold rlA
  by_cases zr : (ruleP B sz 13 0 0 0).1 = 0
  · rw [if_pos zr, if_neg ne10, if_pos zr]
    show ∃ τ, some ((psI τ1 249 2 (τ1.1 249 2 + 1)).1 249 2 - 1, psI τ1 249 2 (τ1.1 249 2 + 1)) = some _ ∧ _
    rw [g2, nI_p1, show (psI τ1 249 2 (nI (z + 1))).1 249 2 = nI (z + 1) by rw [psI_eq, if_pos rfl], nI_pred]
    have a6 : agm [] [2] τ1 (psI τ1 249 2 (nI (z + 1))) := agm_fld (by simp)
    have st2 : ∀ r c, stM τ1 r c → stM (psI τ1 249 2 (nI (z + 1))) r c := by
      intro r c hc
      unfold stM at hc ⊢
      rw [(a6.1 253 (by simp) (by decide)).1, (a6.1 251 (by simp) (by decide)).1, (a6.1 254 (by simp) (by decide)).1]
      exact hc
    exact ⟨_, rfl, ⟨by rw [(a6.1 250 (by simp) (by decide)).1]; exact tp.1, by rw [(a6.2 1 (by decide)).1]; exact tp.2.1, by decide⟩, Or.inr ⟨zr, by rw [psI_eq, if_pos rfl], st2 _ _ (a5 zr), fun r hr => st2 _ _ (st1 r hr)⟩, agm_trans ag1 (agm_mono a6 (by simp) (by simp))⟩
  · rw [if_neg zr, if_pos rfl, if_neg zr]
    show ∃ τ, some ((-2 : Int32) - τ1.1 249 9, τ1) = some _ ∧ _
    rw [a4]
    exact ⟨_, rfl, tp, Or.inl ⟨zr, g2, st1⟩, ag1⟩
end RC
