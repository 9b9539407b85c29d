/-! What closes behind a fact, and a whole test; both sides. -/
def closeP (B : Nat → Int32) (sz : Nat) : Nat → Nat → List Nat → Nat × List Nat × List Nat
  | 0, p, pd => (p, pd, [])
  | k + 1, p, pd => if brk (dP 3 pd).2 = 0 ∨ ¬ sg B sz (sk B sz p) = 93 then (sk B sz p, (dP 3 pd).2, (dP 3 pd).1) else ((closeP B sz k (sk B sz p + 1) (dP 1 (dP 3 pd).2).2.tail).1, (closeP B sz k (sk B sz p + 1) (dP 1 (dP 3 pd).2).2.tail).2.1, (dP 3 pd).1 ++ ((dP 1 (dP 3 pd).2).1 ++ (closeP B sz k (sk B sz p + 1) (dP 1 (dP 3 pd).2).2.tail).2.2))
theorem dP_top {pd : List Nat} (ho : ordP pd) (hb : brk pd ≠ 0) : ∃ t, (dP 1 pd).2 = 91 :: t ∧ ordP t ∧ brk t + 1 = brk pd ∧ dep t + 1 ≤ dep pd ∧ pen t + (dP 1 pd).1.length = pen pd ∧ tyc (dP 1 pd).1 (List.replicate (nbn pd + 1) true) = some (List.replicate (nbn t + 1) true) := by
  obtain ⟨i1, i2, i3, i4, i5, i6, i7, i8⟩ := dP_facts 1 (by decide) pd ho
  generalize dP 1 pd = d at *
  obtain ⟨d1, d2⟩ := d
  cases d2 with
  | nil => exact absurd i3.symm hb
  | cons x t =>
    have hx := i1.1
    unfold okx at hx
    have i2' : stg x < 1 := i2
    have x91 : x = 91 := by
      rcases hx with z | z | z | z
      · exact z
      all_goals subst z; exact absurd i2' (by decide)
    subst x91
    have e1 := brk_91 t
    have e2 := dep_91 t
    have e3 := pen_91 t
    have e4 := nbn_91 t
    simp only [] at i3 i4 i5 i7
    rw [e4] at i7
    exact ⟨t, rfl, i1.2.2, by omega, by omega, show pen t + d1.length = pen pd by omega, i7⟩
theorem closeP_ok {B : Nat → Int32} {sz : Nat} : ∀ (k p : Nat) (pd : List Nat), p ≤ sz → ordP pd → dep pd ≤ 10 → brk pd < k → p ≤ (closeP B sz k p pd).1 ∧ (closeP B sz k p pd).1 ≤ sz ∧ sk B sz (closeP B sz k p pd).1 = (closeP B sz k p pd).1 ∧ ordP (closeP B sz k p pd).2.1 ∧ dep (closeP B sz k p pd).2.1 ≤ 10 ∧ pen (closeP B sz k p pd).2.1 + (closeP B sz k p pd).2.2.length = pen pd ∧ (∀ x ∈ (closeP B sz k p pd).2.2, x = 11 ∨ x = 12 ∨ x = 13) ∧ tyc (closeP B sz k p pd).2.2 (List.replicate (nbn pd + 1) true) = some (List.replicate (nbn (closeP B sz k p pd).2.1 + 1) true) ∧ nvl (closeP B sz k p pd).2.2 = 0
  | 0, p, pd, hp, ho, hd, hb => by omega
  | k + 1, p, pd, hp, ho, hd, hb => by
    obtain ⟨i1, i2, i3, i4, i5, i6, i7, i8⟩ := dP_facts 3 (by decide) pd ho
    have hq := sk_le (B := B) hp
    have hg := sk_ge B sz p
    unfold closeP
    by_cases z : brk (dP 3 pd).2 = 0 ∨ ¬ sg B sz (sk B sz p) = 93
    · rw [if_pos z]
      exact ⟨hg, hq, sk_idem hp, i1, by show dep (dP 3 pd).2 ≤ 10; omega, i4, i6, i7, i8⟩
    · rw [if_neg z]
      have z1 : brk (dP 3 pd).2 ≠ 0 := fun q => z (Or.inl q)
      have z2 : sg B sz (sk B sz p) = 93 := Decidable.byContradiction (fun q => z (Or.inr q))
      have hlt := (sg_lt (by decide) z2).1
      obtain ⟨t, j1, j2, j3, j4, j5, j6⟩ := dP_top i1 z1
      obtain ⟨u1, u2, u3, u4, u5, u6, u7, u8⟩ := dP_facts 1 (by decide) (dP 3 pd).2 i1
      rw [j1, List.tail_cons]
      obtain ⟨r1, r2, r3, r4, r5, r6, r7, r8, r9⟩ := closeP_ok (B := B) (sz := sz) k (sk B sz p + 1) t (by omega) j2 (by omega) (by omega)
      refine ⟨by show p ≤ _; omega, r2, r3, r4, r5, ?_, ?_, ?_, ?_⟩
      · show pen (closeP B sz k (sk B sz p + 1) t).2.1 + List.length ((dP 3 pd).1 ++ ((dP 1 (dP 3 pd).2).1 ++ (closeP B sz k (sk B sz p + 1) t).2.2)) = _
        rw [List.length_append, List.length_append]
        omega
      · intro x hx
        rcases List.mem_append.mp hx with q | q
        · exact i6 x q
        · rcases List.mem_append.mp q with q | q
          · exact u6 x q
          · exact r7 x q
      · show tyc (_ ++ (_ ++ _)) _ = _
        rw [tyc_app, i7, Option.bind_some, tyc_app, j6, Option.bind_some]
        exact r8
      · show nvl (_ ++ (_ ++ _)) = 0
        rw [nvl_app, nvl_app, i8, u8, r9]
section CL
variable {n : Nat} {B : Nat → Int32} {sz : Nat}
theorem X_close2 (hn : 1000 ≤ n) : ∀ (k kf x1 p s : Nat) (pd : List Nat) (σ : PS) (c : List Int32) (m : Nat), TX σ B sz p s 0 → QX σ pd → KX σ c m → ordP pd → dep pd ≤ 10 → brk pd < k → k ≤ kf → x1 + brk pd ≤ 10 → c.length + pen pd ≤ 400 → ∃ e τ p' s', L_X5_closeFact_2 n kf (nI x1) σ = some (e, τ) ∧ ay σ τ ∧ TX τ B sz p' s' 0 ∧ sk B sz p' = (closeP B sz k p pd).1 ∧ QX τ (closeP B sz k p pd).2.1 ∧ KX τ (c ++ (closeP B sz k p pd).2.2.map enT) m
  | 0, kf, x1, p, s, pd, σ, c, m, ht, hq, hk, ho, hd, hb, hkf, hx, hc => by omega
  | k + 1, 0, x1, p, s, pd, σ, c, m, ht, hq, hk, ho, hd, hb, hkf, hx, hc => by omega
  | k + 1, kf + 1, x1, p, s, pd, σ, c, m, ht, hq, hk, ho, hd, hb, hkf, hx, hc => by
    have h32 := stk_32 ho hd
    have hp := ht.2.2.2.2.2.2.1
    obtain ⟨i1, i2, i3, i4, i5, i6, i7, i8⟩ := dP_facts 3 (by decide) pd ho
    obtain ⟨τ1, a1, a2, a3, a4⟩ := X_popDown (n := n) hn (th := 3) (by decide) (by decide) ho hq hk (by omega) hc
    have t1 := TX_agr ht a4 (by decide) (by decide)
    rw [L_X5_closeFact_2, if_neg (show ¬ (10 : Int32) < nI x1 from nI_nlt (show x1 ≤ 10 by omega) (by decide))]
    show ∃ e τ p' s', (F_X5_popDownTo n (enH 3) σ).bind _ = some (e, τ) ∧ _
    rw [a1, Option.bind_some, a3.2.2.1]
    unfold closeP
    by_cases z1 : brk (dP 3 pd).2 = 0
    · rw [if_pos (show nI (brk (dP 3 pd).2) = 0 by rw [z1]; rfl), if_pos (Or.inl z1)]
      exact ⟨_, _, p, s, rfl, agr_mono a4 (by simp), t1, rfl, a3, a2⟩
    · have hb' : brk (dP 3 pd).2 ≤ 10 := by omega
      rw [if_neg (nI_ne0 (by omega) (by omega))]
      obtain ⟨τ2, b1, b2, b3, b4⟩ := X_peek hn t1
      have q2 := QX_ax a3 (ax_1 b4)
      have k2 := KX_1 a2 b4
      rw [b1, Option.bind_some]
      by_cases z2 : sg B sz (sk B sz p) = 93
      · rw [if_neg (show ¬ (brk (dP 3 pd).2 = 0 ∨ ¬ sg B sz (sk B sz p) = 93) from fun q => q.elim z1 (fun w => w z2))]
        have hlt := (sg_lt (by decide) z2).1
        show ∃ e τ p' s', (if sg B sz (sk B sz p) = 93 then (F_X5_popDownTo n (enH 1) (psI τ2 1 2 (τ2.1 1 2 + 1))).bind _ else _) = some (e, τ) ∧ _
        rw [if_pos z2, b2.2.2.1, nI_p1]
        have t3 := TX_p b2 (p' := sk B sz p + 1) (by have := b2.2.2.2.2.2.1; omega) (by omega)
        have a5 : agr [1] τ2 (psI τ2 1 2 (nI (sk B sz p + 1))) := agr_psI (by simp)
        have d5 : dep (dP 3 pd).2 ≤ 10 := by omega
        have h33 := stk_32 i1 d5
        have lc : (c ++ (dP 3 pd).1.map enT).length = c.length + (dP 3 pd).1.length := by simp
        obtain ⟨τ3, c1, c2, c3, c4⟩ := X_popDown (n := n) hn (th := 1) (by decide) (by decide) i1 (QX_ax q2 (ax_1 a5)) (KX_1 k2 a5) (by omega) (by rw [lc]; omega)
        rw [c1, Option.bind_some]
        obtain ⟨t, j1, j2, j3, j4, j5, j6⟩ := dP_top i1 z1
        rw [j1] at c3
        have e4 : τ3.1 4 4 - 1 = nI t.length := by rw [c3.1, List.length_cons]; exact nI_pred _
        have hneg : ¬ nI t.length < (0 : Int32) := nI_n0 (by have := stk_32 j2 (by omega); omega)
        rw [e4, if_neg hneg]
        have g5 : (psI τ3 4 4 (nI t.length)).1 4 5 - 1 = nI (dep t) := by
          rw [psI_eq, if_neg (by decide), c3.2.1, dep_91]; exact nI_pred _
        rw [g5]
        have g6 : (psI (psI τ3 4 4 (nI t.length)) 4 5 (nI (dep t))).1 4 6 - 1 = nI (brk t) := by
          rw [psI_eq, if_neg (by decide), psI_eq, if_neg (by decide), c3.2.2.1, brk_91]; exact nI_pred _
        rw [g6, nI_1]
        generalize hT : psI (psI (psI τ3 4 4 (nI t.length)) 4 5 (nI (dep t))) 4 6 (nI (brk t)) = τ4
        have a6 : agr [4] τ3 τ4 := by rw [← hT]; exact agr_trans (agr_psI (by simp)) (agr_trans (agr_psI (by simp)) (agr_psI (by simp)))
        have q4 : QX τ4 t := by
          rw [← hT]
          refine ⟨?_, ?_, ?_, ?_⟩
          · rw [psI_eq, if_neg (by decide), psI_eq, if_neg (by decide), psI_eq, if_pos rfl]
          · rw [psI_eq, if_neg (by decide), psI_eq, if_pos rfl]
          · rw [psI_eq, if_pos rfl]
          · exact stX6_ext t (fun j _ => by rw [psI_other (by decide), psI_other (by decide), psI_other (by decide)]) c3.2.2.2.2
        have k4 : KX τ4 (c ++ (dP 3 pd).1.map enT ++ (dP 1 (dP 3 pd).2).1.map enT) m := by
          refine KX_ag c2 ?_ ?_ (a6 5 (by decide)).1
          · rw [← hT, psI_eq, if_neg (by decide), psI_eq, if_neg (by decide), psI_eq, if_neg (by decide)]
          · rw [← hT, psI_eq, if_neg (by decide), psI_eq, if_neg (by decide), psI_eq, if_neg (by decide)]
        have t4 := TX_agr (TX_agr t3 c4 (by decide) (by decide)) a6 (by decide) (by decide)
        rw [j1, List.tail_cons]
        obtain ⟨e, τ, p', s', d1, d2, d3, d4, d5, d6⟩ := X_close2 hn k kf (x1 + 1) (sk B sz p + 1) s t τ4 _ m t4 q4 k4 j2 (by omega) (by omega) (by omega) (by omega) (by simp only [List.length_append, List.length_map]; omega)
        refine ⟨e, τ, p', s', d1, ?_, d3, d4, d5, ?_⟩
        · exact agr_trans (agr_mono a4 (by simp)) (agr_trans (agr_mono b4 (by simp)) (agr_trans (agr_mono a5 (by simp)) (agr_trans (agr_mono c4 (by simp)) (agr_trans (agr_mono a6 (by simp)) d2))))
        · have lst : ∀ w : List Nat, c ++ ((dP 3 pd).1 ++ ((dP 1 (dP 3 pd).2).1 ++ w)).map enT = c ++ (dP 3 pd).1.map enT ++ (dP 1 (dP 3 pd).2).1.map enT ++ w.map enT := fun w => by simp [List.append_assoc]
          rw [lst]
          exact d6
      · rw [if_pos (Or.inr z2)]
        show ∃ e τ p' s', (if sg B sz (sk B sz p) = 93 then _ else some (0, τ2)) = some (e, τ) ∧ _
        rw [if_neg z2]
        exact ⟨_, _, _, s, rfl, agr_trans (agr_mono a4 (by simp)) (agr_mono b4 (by simp)), b2, sk_idem hp, q2, k2⟩
/-- the reference closes -/
def mcl (n kf : Nat) (σ : PS) : Option PS := (F_X12_layDown n (3 : Int32) σ).bind (fun q1 => L_X12_closes_5 n kf q1)
theorem at2_lay {r : Nat} {σ τ : PS} (h : at2 r σ τ) : at2 r σ τ := h
theorem M_close (hn : 1000 ≤ n) {r : Nat} (hr : r < 6) : ∀ (k kf p : Nat) (pd : List Nat) (σ : PS) (c : List Nat) (m : Nat), TM σ B sz p 0 → QM σ pd → KM σ r c m → ordP pd → dep pd ≤ 10 → brk pd < k → k ≤ kf → c.length + pen pd ≤ 400 → ∃ τ, mcl n kf σ = some τ ∧ at2 r σ τ ∧ TM τ B sz (closeP B sz k p pd).1 0 ∧ QM τ (closeP B sz k p pd).2.1 ∧ KM τ r (c ++ (closeP B sz k p pd).2.2) m
  | 0, kf, p, pd, σ, c, m, ht, hq, hk, ho, hd, hb, hkf, hc => by omega
  | k + 1, 0, p, pd, σ, c, m, ht, hq, hk, ho, hd, hb, hkf, hc => by omega
  | k + 1, kf + 1, p, pd, σ, c, m, ht, hq, hk, ho, hd, hb, hkf, hc => by
    have h32 := stk_32 ho hd
    have hp := ht.2.2.2.2.1
    obtain ⟨i1, i2, i3, i4, i5, i6, i7, i8⟩ := dP_facts 3 (by decide) pd ho
    obtain ⟨τ1, a1, a2, a3, a4, a5⟩ := M_layDown (n := n) hn hr (th := 3) (by decide) (by decide) ho hq hk (by omega) hc
    have t1 := TM_agm ht a4 (by decide) (by decide) (by decide) (by decide)
    obtain ⟨τ2, b1, b2, b3⟩ := M_see hn t1
    have q2 : QM τ2 (dP 3 pd).2 := QM_am (r := r) a3 (am_f b3 (by simp))
    have k2 := KM_f a2 b3 (by decide) (by decide)
    have d5 : dep (dP 3 pd).2 ≤ 10 := by omega
    have h33 := stk_32 i1 d5
    have x2 : at2 r σ τ2 := at2_trans a5 (at2_f b3 (by simp))
    unfold mcl
    show ∃ τ, (F_X12_layDown n (nI 3) σ).bind _ = some τ ∧ _
    rw [a1, Option.bind_some, L_X12_closes_5, b1, Option.bind_some]
    unfold closeP
    by_cases z2 : sg B sz (sk B sz p) = 93
    · have hlt := (sg_lt (by decide) z2).1
      show ∃ τ, (if sg B sz (sk B sz p) = 93 then (F_X12_isInside n τ2).bind _ else _) = some τ ∧ _
      rw [if_pos z2, M_isInside hn q2 i1 (by omega), Option.bind_some]
      by_cases z1 : brk (dP 3 pd).2 = 0
      · rw [if_pos z1, if_pos rfl, if_pos (Or.inl z1)]
        exact ⟨_, rfl, x2, b2, q2, k2⟩
      · rw [if_neg z1, if_neg ne10, if_neg (show ¬ (brk (dP 3 pd).2 = 0 ∨ ¬ sg B sz (sk B sz p) = 93) from fun q => q.elim z1 (fun w => w z2))]
        obtain ⟨τ3, c1, c2, c3, c4, c5⟩ := M_layDown (n := n) hn hr (th := 1) (by decide) (by decide) i1 q2 k2 (by omega) (by rw [List.length_append]; omega)
        show ∃ τ, (F_X12_layDown n (nI 1) τ2).bind _ = some τ ∧ _
        rw [c1, Option.bind_some]
        obtain ⟨t, j1, j2, j3, j4, j5, j6⟩ := dP_top i1 z1
        rw [j1] at c3
        have t3 := TM_agm b2 c4 (by decide) (by decide) (by decide) (by decide)
        have e4 : τ3.1 249 16 - 1 = nI t.length := by rw [c3.1, List.length_cons]; exact nI_pred _
        rw [e4]
        have g5 : (psI τ3 249 16 (nI t.length)).1 249 13 - 1 = nI (dep t) := by
          rw [psI_eq, if_neg (by decide), c3.2.1, dep_91]; exact nI_pred _
        rw [g5]
        have g6 : (psI (psI τ3 249 16 (nI t.length)) 249 13 (nI (dep t))).1 249 8 + 1 = nI (sk B sz p + 1) := by
          rw [psI_eq, if_neg (by decide), psI_eq, if_neg (by decide), t3.2.2.1, nI_p1]
        rw [g6]
        generalize hT : psI (psI (psI τ3 249 16 (nI t.length)) 249 13 (nI (dep t))) 249 8 (nI (sk B sz p + 1)) = τ4
        have a6 : agm [] [8, 13, 16] τ3 τ4 := by rw [← hT]; exact agm_trans (agm_fld (by simp)) (agm_trans (agm_fld (by simp)) (agm_fld (by simp)))
        have q4 : QM τ4 t := by
          rw [← hT]
          refine ⟨?_, ?_, ?_⟩
          · rw [psI_eq, if_neg (by decide), psI_eq, if_neg (by decide), psI_eq, if_pos rfl]
          · rw [psI_eq, if_neg (by decide), psI_eq, if_pos rfl]
          · exact stM6_ext t (fun j _ => by rw [psI_other (by decide), psI_other (by decide), psI_other (by decide)]) c3.2.2.2
        have t4 : TM τ4 B sz (sk B sz p + 1) 0 := by
          rw [← hT]
          refine TM_p (TM_agm t3 (agm_trans (agm_fld (T := []) (Fs := [13, 16]) (by simp)) (agm_fld (by simp))) (by simp) (by decide) (by decide) (by decide)) (by omega)
        have k4 := KM_f c2 a6 (by decide) (by decide)
        rw [j1, List.tail_cons]
        obtain ⟨τ, d1, d2, d3, d4, d5⟩ := M_close hn hr k kf (sk B sz p + 1) t τ4 _ m t4 q4 k4 j2 (by omega) (by omega) (by omega) (by simp only [List.length_append]; omega)
        unfold mcl at d1
        refine ⟨τ, d1, ?_, d3, d4, ?_⟩
        · exact at2_trans x2 (at2_trans c5 (at2_trans (at2_f a6 (by simp)) d2))
        · have lst : ∀ w : List Nat, c ++ ((dP 3 pd).1 ++ ((dP 1 (dP 3 pd).2).1 ++ w)) = c ++ (dP 3 pd).1 ++ (dP 1 (dP 3 pd).2).1 ++ w := fun w => by simp [List.append_assoc]
          show KM τ r (c ++ ((dP 3 pd).1 ++ ((dP 1 (dP 3 pd).2).1 ++ _))) m
          rw [lst]
          exact d5
    · rw [if_pos (Or.inr z2)]
      show ∃ τ, (if sg B sz (sk B sz p) = 93 then _ else some τ2) = some τ ∧ _
      rw [if_neg z2]
      exact ⟨_, rfl, x2, b2, q2, k2⟩
end CL
