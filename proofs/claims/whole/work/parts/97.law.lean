/-! the law's loop, and its begin. -/
section LAW
variable {σ τ : PS} {n : Nat}
set_option maxRecDepth 100000 in
set_option maxHeartbeats 4000000 in
theorem Inv_s0 : Inv s0 := by
  have hR : ∀ i S, (i = 25 ∨ i = 19) → S 1 = 0 → S 2 = 0 → S 10 = 0 → S 11 = 0 → S 12 = 0 → (∀ c, c < 36 → S (73 + c) = 0) → RX s0 i S := by
    intro i S hi h1 h2 h10 h11 h12 h73
    have hb : bm S = 0 := by
      apply Nat.eq_of_testBit_eq
      intro c
      rw [Nat.zero_testBit]
      cases hq : (bm S).testBit c with
      | false => rfl
      | true =>
        have := (bm_bit.mp hq).1
        rw [h1] at this
        omega
    unfold RX
    rw [h1, h2, h10, h11, h12, hb]
    rcases hi with e | e
    · subst e
      exact ⟨rfl, rfl, rfl, rfl, rfl, rfl, rfl, fun t ht => by omega, fun c hc => by rw [h73 c hc]; rfl⟩
    · subst e
      exact ⟨rfl, rfl, rfl, rfl, rfl, rfl, rfl, fun t ht => by omega, fun c hc => by rw [h73 c hc]; rfl⟩
  refine ⟨fun _ => 0, 0, 0, fun _ => [], fun _ => 0, 0, 0, fun _ _ => 0, -1, 0, fun _ => none, ?_, ?_, ?_⟩
  · exact ⟨fun _ => (show byt 0 by unfold byt; decide), by decide, Or.inl (fun _ => rfl), Or.inl rfl, by decide, fun w => absurd rfl w, fun j hj => by omega, fun k hk s hs => by cases hs⟩
  · refine ⟨⟨rfl, rfl, by decide⟩, rfl, fun r hr => by omega, ⟨hR 25 _ (Or.inl rfl) rfl rfl rfl rfl rfl (fun _ _ => rfl), hR 19 _ (Or.inr rfl) rfl rfl rfl rfl rfl (by decide), rfl, rfl, rfl, fun j hj => absurd hj (Nat.not_lt_zero j)⟩, ⟨by decide, by decide, rfl, rfl, fun d hd => by omega⟩, ?_⟩
    intro k hk
    refine ⟨fun _ => ?_, fun s hs => by cases hs⟩
    have : k = 0 ∨ k = 1 ∨ k = 2 ∨ k = 3 := by omega
    rcases this with e | e | e | e <;> subst e <;> rfl
  · exact ⟨⟨rfl, rfl, by decide⟩, rfl, fun r hr => by omega, rfl, rfl, rfl, ⟨by decide, rfl, fun j hj => by omega⟩, fun k hk => ⟨fun _ => rfl, fun s hs => by cases hs⟩⟩
theorem LL_step (hn : 3000000 ≤ n) (hcut : ∀ (a b : Int32) (σ : PS), Inv σ → Kok (F_X11_cut n a b) (F_X12_cut n a b) σ) {xs : Nat → Int32} {Ln i K : Nat} (hL : Ln ≤ 3072) (hi6 : i + 6 ≤ Ln) (hi : Inv σ) : ∃ τ, Inv τ ∧ LL n xs Ln (K + 1) (nI i) σ = LL n xs Ln K (nI (i + 6)) τ := by
  have st : ¬ Int32.ofNat Ln - (6 : Int32) < nI i := by
    show ¬ nI Ln - nI 6 < nI i
    rw [nI_sub (by omega)]
    exact nI_nlt (by omega) (by omega)
  have g0 : (0 : Int32) ≤ nI i ∧ i < Ln := ⟨nI_pos' (by omega), by omega⟩
  have a6 : nI i + 6 = nI (i + 6) := nI_add i 6
  have a1 : nI i + (1 : Int32) = nI (i + 1) := nI_add i 1
  have c1 : (nI (i + 1)).toNatClampNeg = i + 1 := nI_clamp (by omega)
  have g1 : (0 : Int32) ≤ nI (i + 1) ∧ i + 1 < Ln := ⟨nI_pos' (by omega), by omega⟩
  have a2 : nI i + (2 : Int32) = nI (i + 2) := nI_add i 2
  have c2 : (nI (i + 2)).toNatClampNeg = i + 2 := nI_clamp (by omega)
  have g2 : (0 : Int32) ≤ nI (i + 2) ∧ i + 2 < Ln := ⟨nI_pos' (by omega), by omega⟩
  have a3 : nI i + (3 : Int32) = nI (i + 3) := nI_add i 3
  have c3 : (nI (i + 3)).toNatClampNeg = i + 3 := nI_clamp (by omega)
  have g3 : (0 : Int32) ≤ nI (i + 3) ∧ i + 3 < Ln := ⟨nI_pos' (by omega), by omega⟩
  have a4 : nI i + (4 : Int32) = nI (i + 4) := nI_add i 4
  have c4 : (nI (i + 4)).toNatClampNeg = i + 4 := nI_clamp (by omega)
  have g4 : (0 : Int32) ≤ nI (i + 4) ∧ i + 4 < Ln := ⟨nI_pos' (by omega), by omega⟩
  have a5 : nI i + (5 : Int32) = nI (i + 5) := nI_add i 5
  have c5 : (nI (i + 5)).toNatClampNeg = i + 5 := nI_clamp (by omega)
  have g5 : (0 : Int32) ≤ nI (i + 5) ∧ i + 5 < Ln := ⟨nI_pos' (by omega), by omega⟩
  rw [LL, if_neg st, nI_clamp (show i < 2 ^ 31 by omega), if_pos g0, a1, a2, a3, a4, a5, a6, c1, c2, c3, c4, c5]
  have fin : ∀ {F1 F2 : PS → Option (Int32 × PS)}, Kok F1 F2 σ → ∃ τ, Inv τ ∧ (F1 σ).bind (fun q => (F2 q.2).bind (fun r => if q.1 = r.1 then LL n xs Ln K (nI (i + 6)) r.2 else none)) = LL n xs Ln K (nI (i + 6)) τ := by
    intro F1 F2 hk
    obtain ⟨v, τ1, τ2, e1, e2, h⟩ := hk
    refine ⟨τ2, h, ?_⟩
    rw [e1, Option.bind_some]
    show (F2 τ1).bind _ = _
    rw [e2, Option.bind_some, if_pos rfl]
  by_cases o0 : xs i &&& (63 : Int32) = (0 : Int32)
  · rw [if_pos o0, if_pos g1, if_pos g2, if_pos g3, if_pos g4, if_pos g5]
    exact fin (K_feed (by omega) (xs (i + 1)) (xs (i + 2)) (xs (i + 3)) (xs (i + 4)) (xs (i + 5)) hi)
  rw [if_neg o0]
  by_cases o1 : xs i &&& (63 : Int32) = (1 : Int32)
  · rw [if_pos o1, if_pos g1]
    exact fin (K_end (by omega) (xs (i + 1)) hi)
  rw [if_neg o1]
  by_cases o2 : xs i &&& (63 : Int32) = (2 : Int32)
  · rw [if_pos o2]
    exact fin (K_camp (by omega) hi)
  rw [if_neg o2]
  by_cases o3 : xs i &&& (63 : Int32) = (3 : Int32)
  · rw [if_pos o3]
    exact fin (K_rule (by omega) hi)
  rw [if_neg o3]
  by_cases o4 : xs i &&& (63 : Int32) = (4 : Int32)
  · rw [if_pos o4, if_pos g1]
    exact fin (K_force (xs (i + 1)) hi)
  rw [if_neg o4]
  by_cases o5 : xs i &&& (63 : Int32) = (5 : Int32)
  · rw [if_pos o5, if_pos g1, if_pos g2]
    exact fin (K_tent (xs (i + 1)) (xs (i + 2)) hi)
  rw [if_neg o5]
  by_cases o6 : xs i &&& (63 : Int32) = (6 : Int32)
  · rw [if_pos o6, if_pos g1, if_pos g2]
    exact fin (K_cell (by omega) (xs (i + 1)) (xs (i + 2)) hi)
  rw [if_neg o6]
  by_cases o7 : xs i &&& (63 : Int32) = (7 : Int32)
  · rw [if_pos o7]
    exact fin (K_step (by omega) hi)
  rw [if_neg o7]
  by_cases o8 : xs i &&& (63 : Int32) = (8 : Int32)
  · rw [if_pos o8, if_pos g1]
    exact fin (K_whistle (by omega) (xs (i + 1)) hi)
  rw [if_neg o8]
  by_cases o9 : xs i &&& (63 : Int32) = (9 : Int32)
  · rw [if_pos o9, if_pos g1, if_pos g2]
    exact fin (K_pitch (by omega) (xs (i + 1)) (xs (i + 2)) hi)
  rw [if_neg o9]
  by_cases o10 : xs i &&& (63 : Int32) = (10 : Int32)
  · rw [if_pos o10, if_pos g1, if_pos g2]
    exact fin (K_steady (by omega) (xs (i + 1)) (xs (i + 2)) hi)
  rw [if_neg o10]
  by_cases o11 : xs i &&& (63 : Int32) = (11 : Int32)
  · rw [if_pos o11, if_pos g1]
    exact fin (K_bush (by omega) (xs (i + 1)) hi)
  rw [if_neg o11]
  by_cases o12 : xs i &&& (63 : Int32) = (12 : Int32)
  · rw [if_pos o12]
    exact fin (K_undo (by omega) hi)
  rw [if_neg o12]
  by_cases o13 : xs i &&& (63 : Int32) = (13 : Int32)
  · rw [if_pos o13, if_pos g1, if_pos g2, if_pos g3]
    exact fin (K_ahead (by omega) (xs (i + 1)) (xs (i + 2)) (xs (i + 3)) hi)
  rw [if_neg o13]
  by_cases o14 : xs i &&& (63 : Int32) = (14 : Int32)
  · rw [if_pos o14, if_pos g1]
    exact fin (K_first (by omega) (xs (i + 1)) hi)
  rw [if_neg o14]
  by_cases o15 : xs i &&& (63 : Int32) = (15 : Int32)
  · rw [if_pos o15, if_pos g1]
    exact fin (K_way (by omega) (xs (i + 1)) hi)
  rw [if_neg o15]
  by_cases o16 : xs i &&& (63 : Int32) = (16 : Int32)
  · rw [if_pos o16, if_pos g1]
    exact fin (K_reach (by omega) (xs (i + 1)) hi)
  rw [if_neg o16]
  by_cases o17 : xs i &&& (63 : Int32) = (17 : Int32)
  · rw [if_pos o17, if_pos g1]
    exact fin (K_knowsAll (by omega) (xs (i + 1)) hi)
  rw [if_neg o17]
  by_cases o18 : xs i &&& (63 : Int32) = (18 : Int32)
  · rw [if_pos o18, if_pos g1, if_pos g2]
    exact fin (K_most (by omega) (xs (i + 1)) (xs (i + 2)) hi)
  rw [if_neg o18]
  by_cases o19 : xs i &&& (63 : Int32) = (19 : Int32)
  · rw [if_pos o19, if_pos g1, if_pos g2]
    exact fin (hcut (xs (i + 1)) (xs (i + 2)) σ hi)
  rw [if_neg o19]
  by_cases o20 : xs i &&& (63 : Int32) = (20 : Int32)
  · rw [if_pos o20, if_pos g1, if_pos g2, if_pos g3]
    exact fin (K_hide (by omega) (xs (i + 1)) (xs (i + 2)) (xs (i + 3)) hi)
  rw [if_neg o20]
  by_cases o21 : xs i &&& (63 : Int32) = (21 : Int32)
  · rw [if_pos o21, if_pos g1, if_pos g2]
    exact fin (K_wake (by omega) (xs (i + 1)) (xs (i + 2)) hi)
  rw [if_neg o21]
  by_cases o22 : xs i &&& (63 : Int32) = (22 : Int32)
  · rw [if_pos o22, if_pos g1, if_pos g2]
    exact fin (K_pence (by omega) (xs (i + 1)) (xs (i + 2)) hi)
  rw [if_neg o22]
  by_cases o23 : xs i &&& (63 : Int32) = (23 : Int32)
  · rw [if_pos o23, if_pos g1, if_pos g2, if_pos g3]
    exact fin (K_game hn (xs (i + 1)) (xs (i + 2)) (xs (i + 3)) hi)
  rw [if_neg o23]
  by_cases o24 : xs i &&& (63 : Int32) = (24 : Int32)
  · rw [if_pos o24, if_pos g1]
    exact fin (K_ring (by omega) (xs (i + 1)) hi)
  rw [if_neg o24]
  by_cases o25 : xs i &&& (63 : Int32) = (25 : Int32)
  · rw [if_pos o25, if_pos g1, if_pos g2]
    exact fin (K_note (by omega) (xs (i + 1)) (xs (i + 2)) hi)
  rw [if_neg o25]
  by_cases o26 : xs i &&& (63 : Int32) = (26 : Int32)
  · rw [if_pos o26, if_pos g1]
    exact fin (K_ruled (by omega) (xs (i + 1)) hi)
  rw [if_neg o26]
  by_cases o27 : xs i &&& (63 : Int32) = (27 : Int32)
  · rw [if_pos o27, if_pos g1]
    exact fin (K_look (by omega) (xs (i + 1)) hi)
  rw [if_neg o27]
  by_cases o28 : xs i &&& (63 : Int32) = (28 : Int32)
  · rw [if_pos o28, if_pos g1]
    exact fin (K_seed (xs (i + 1)) hi)
  rw [if_neg o28]
  by_cases o29 : xs i &&& (63 : Int32) = (29 : Int32)
  · rw [if_pos o29, if_pos g1, if_pos g2, if_pos g3, if_pos g4]
    exact fin (K_winds (by omega) (xs (i + 1)) (xs (i + 2)) (xs (i + 3)) (xs (i + 4)) hi)
  rw [if_neg o29]
  by_cases o30 : xs i &&& (63 : Int32) = (30 : Int32)
  · rw [if_pos o30, if_pos g1]
    exact fin (K_count (by omega) (xs (i + 1)) hi)
  rw [if_neg o30]
  by_cases o31 : xs i &&& (63 : Int32) = (31 : Int32)
  · rw [if_pos o31, if_pos g1]
    exact fin (K_image (by omega) (xs (i + 1)) hi)
  rw [if_neg o31]
  by_cases o32 : xs i &&& (63 : Int32) = (32 : Int32)
  · rw [if_pos o32, if_pos g1]
    exact fin (K_back (by omega) (xs (i + 1)) hi)
  rw [if_neg o32]
  exact ⟨σ, hi, rfl⟩
theorem LL_all (hn : 3000000 ≤ n) (hcut : ∀ (a b : Int32) (σ : PS), Inv σ → Kok (F_X11_cut n a b) (F_X12_cut n a b) σ) {xs : Nat → Int32} {Ln : Nat} (hL : Ln ≤ 3072) : ∀ (K i : Nat) (σ : PS), Inv σ → i ≤ Ln → Ln < i + 6 * K → ∃ o, LL n xs Ln K (nI i) σ = some o
  | 0, i, σ, hi, h1, h2 => by omega
  | K + 1, i, σ, hi, h1, h2 => by
    by_cases e : i + 6 ≤ Ln
    · obtain ⟨τ, t1, t2⟩ := LL_step (K := K) hn hcut (xs := xs) hL e hi
      rw [t2]
      exact LL_all hn hcut hL K (i + 6) τ t1 (by omega) (by omega)
    · have st : Int32.ofNat Ln - (6 : Int32) < nI i := by
        show nI Ln - nI 6 < nI i
        by_cases y : 6 ≤ Ln
        · rw [nI_sub y]
          exact nI_lt (by omega) (by omega)
        · have : ∀ L, L < 6 → nI L - nI 6 < 0 := by decide
          have h0 := this Ln (by omega)
          have hp : (0 : Int32) ≤ nI i := nI_pos' (by omega)
          rw [Int32.lt_iff_toInt_lt] at h0 ⊢
          rw [Int32.le_iff_toInt_le] at hp
          omega
      rw [LL, if_pos st]
      exact ⟨σ, rfl⟩
theorem pure_of (hcut : ∀ (n : Nat) (a b : Int32) (σ : PS), 3000000 ≤ n → Inv σ → Kok (F_X11_cut n a b) (F_X12_cut n a b) σ) (L : Nat) (xs : Nat → Int32) (hL : L ≤ 3072) : ∃ (n : Nat) (o : PS), LL n xs L n 0 s0 = some o :=
  ⟨3000000, LL_all (n := 3000000) (Nat.le_refl _) (fun a b σ hi => hcut 3000000 a b σ (Nat.le_refl _) hi) hL 3000000 0 s0 Inv_s0 (by omega) (by omega)⟩
end LAW
