/-! The class asks; its step without a rule. -/
theorem psI_get {σ : PS} {j k : Nat} {v : Int32} (a b : Nat) : (psI σ j k v).1 a b = if a = j ∧ b = k then v else σ.1 a b := by
  by_cases e : a = j
  · subst e
    rw [psI_eq]
    by_cases q : b = k
    · rw [if_pos q, if_pos ⟨rfl, q⟩]
    · rw [if_neg q, if_neg (fun z => q z.2)]
  · rw [psI_other e, if_neg (fun z => e z.1)]
theorem max0 {x : Nat} (h : x < 2 ^ 31) : (if nI x - nI 1 < nI 0 then nI 0 else nI x - nI 1) = nI (x - 1) := by
  by_cases e : x = 0
  · subst e
    rfl
  · rw [nI_sub (by omega), if_neg (nI_n0 (by omega))]
theorem bmK_congr {S T : Nat → Nat} (h : ∀ c, c < 36 → S (37 + c) = T (37 + c)) : ∀ k, k ≤ 36 → bmK S k = bmK T k
  | 0, _ => rfl
  | k + 1, hk => by
    unfold bmK
    rw [bmK_congr h k (by omega), h k (by omega)]
theorem bm_congr {S T : Nat → Nat} (h36 : S 1 * S 1 ≤ 36) (h1 : T 1 = S 1) (h : ∀ c, c < 36 → T (37 + c) = S (37 + c)) : bm T = bm S := by
  show bmK T (T 1 * T 1) = bmK S (S 1 * S 1)
  rw [h1]
  exact bmK_congr h _ h36
section XA
variable {n b i : Nat} {S : Nat → Nat}
theorem X_askOne {σ : PS} (hR : RX σ i S) (h36 : S 1 * S 1 ≤ 36) {t : Nat} (ht : t < S 2) (h6 : S 2 ≤ 6) : RX (psI (psI (psI (psI σ (i + 3) t (nI (S (13 + 4 * t + 2) + 1))) (i + 2) t (nI (S (13 + 4 * t + 1) - 1))) i 4 (nI (S 12 ||| S (13 + 4 * t + 3)))) (i + 4) t (nI (S 12 ||| S (13 + 4 * t + 3)))) i (askS S t) := by
  obtain ⟨r0, r1, r2, r3, r4, r5, r6, rt, rb⟩ := hR
  have e1 : askS S t 1 = S 1 := askS_ne (by omega) (by omega) (by omega) (by omega)
  have e2 : askS S t 2 = S 2 := askS_ne (by omega) (by omega) (by omega) (by omega)
  have e11 : askS S t 11 = S 11 := askS_ne (by omega) (by omega) (by omega) (by omega)
  have e10 : askS S t 10 = S 10 := askS_ne (by omega) (by omega) (by omega) (by omega)
  have e12 : askS S t 12 = S 12 ||| S (13 + 4 * t + 3) := by
    unfold askS
    rw [un_ne _ _ (by omega), un_eq]
  have eb : bm (askS S t) = bm S := bm_congr h36 e1 (fun c hc => askS_ne (by omega) (by omega) (by omega) (by omega))
  have n3 : i ≠ i + 3 := by omega
  have n2 : i ≠ i + 2 := by omega
  have n4 : i ≠ i + 4 := by omega
  refine ⟨?_, ?_, ?_, ?_, ?_, ?_, ?_, fun u hu => ?_, fun c hc => ?_⟩
  · simp [psI_get, n2, n3, n4, e1, r0]
  · simp [psI_get, n2, n3, n4, e1, r1]
  · simp [psI_get, n2, n3, n4, e11, r2]
  · simp [psI_get, n2, n3, n4, e10, r3]
  · simp [psI_get, n2, n3, n4, e12]
  · simp [psI_get, n2, n3, n4, e2, r5]
  · rw [eb]; exact r6
  · rw [e2] at hu
    obtain ⟨a, b, c, d⟩ := rt u hu
    have q0 : askS S t (13 + 4 * u) = S (13 + 4 * u) := askS_ne (by omega) (by omega) (by omega) (by omega)
    by_cases e : u = t
    · subst e
      have q1 : askS S u (13 + 4 * u + 1) = S (13 + 4 * u + 1) - 1 := by
        unfold askS
        rw [un_ne _ _ (by omega), un_ne _ _ (by omega), un_eq]
      have q2 : askS S u (13 + 4 * u + 2) = S (13 + 4 * u + 2) + 1 := by
        unfold askS
        rw [un_ne _ _ (by omega), un_ne _ _ (by omega), un_ne _ _ (by omega), un_eq]
      have q3 : askS S u (13 + 4 * u + 3) = S 12 ||| S (13 + 4 * u + 3) := by
        unfold askS
        rw [un_eq]
      rw [q0, q1, q2, q3]
      simp only [psI_get]
      refine ⟨?_, ?_, ?_, ?_⟩
      · rw [if_neg (by omega), if_neg (by omega), if_neg (by omega), if_neg (by omega)]; exact a
      · rw [if_neg (by omega), if_neg (by omega), if_pos ⟨trivial, trivial⟩]
      · rw [if_neg (by omega), if_neg (by omega), if_neg (by omega), if_pos ⟨trivial, trivial⟩]
      · rw [if_pos ⟨trivial, trivial⟩]
    · have q1 : askS S t (13 + 4 * u + 1) = S (13 + 4 * u + 1) := askS_ne (by omega) (by omega) (by omega) (by omega)
      have q2 : askS S t (13 + 4 * u + 2) = S (13 + 4 * u + 2) := askS_ne (by omega) (by omega) (by omega) (by omega)
      have q3 : askS S t (13 + 4 * u + 3) = S (13 + 4 * u + 3) := askS_ne (by omega) (by omega) (by omega) (by omega)
      rw [q0, q1, q2, q3]
      simp only [psI_get]
      refine ⟨?_, ?_, ?_, ?_⟩
      · rw [if_neg (by omega), if_neg (by omega), if_neg (by omega), if_neg (by omega)]; exact a
      · rw [if_neg (by omega), if_neg (by omega), if_neg (by omega), if_neg (by omega)]; exact b
      · rw [if_neg (by omega), if_neg (by omega), if_neg (by omega), if_neg (by omega)]; exact c
      · rw [if_neg (by omega), if_neg (by omega), if_neg (by omega), if_neg (by omega)]; exact d
  · have q : askS S t (73 + c) = S (73 + c) := askS_ne (by omega) (by omega) (by omega) (by omega)
    rw [q]
    simp only [psI_get]
    rw [if_neg (by omega), if_neg (by omega), if_neg (by omega), if_neg (by omega)]
    exact rb c hc
theorem X_ask2 {c : Nat} (h36 : S 1 * S 1 ≤ 36) (hc : c < 2 ^ 31) (h2 : S 2 ≤ 6) (h11 : S 11 = c) (hcl : ∀ t, t < S 2 → S (13 + 4 * t) < 2 ^ 31) (hv : ∀ t, t < S 2 → S (13 + 4 * t + 1) ≤ 99) : ∀ (k t : Nat) (σ : PS), RX σ i (aK S c t) → t ≤ S 2 → 7 ≤ k + t → ∃ τ, L_X10_askWhoIsHere_2 n i k (nI t) σ = some τ ∧ RX τ i (aK S c (S 2)) ∧ agr [i, i + 2, i + 3, i + 4] σ τ
  | 0, t, σ, hR, ht, hk => by omega
  | k + 1, t, σ, hR, ht, hk => by
    have e2 : aK S c t 2 = S 2 := aK_cell S c (by decide) (by omega) t (by omega)
    have e1 : aK S c t 1 = S 1 := aK_cell S c (by decide) (by omega) t (by omega)
    have e11 : aK S c t 11 = S 11 := aK_cell S c (by decide) (by omega) t (by omega)
    have ec : aK S c t (13 + 4 * t) = S (13 + 4 * t) := aK_cell S c (by omega) (Or.inr (Or.inr ⟨t, rfl⟩)) t (by omega)
    rw [L_X10_askWhoIsHere_2, hR.2.2.2.2.2.1, e2]
    by_cases e : S 2 ≤ t
    · have : t = S 2 := by omega
      subst this
      rw [if_pos (nI_le (Nat.le_refl _) (by omega))]
      exact ⟨σ, rfl, hR, agr_refl⟩
    · have hcc := hcl t (by omega)
      have hr := RX_tent hR (show t < aK S c t 2 by omega)
      have hnv : aK S c t (13 + 4 * t + 1) ≤ 99 := by
        have key : ∀ k, k ≤ 6 → aK S c k (13 + 4 * t + 1) ≤ 99 := by
          intro k
          induction k with
          | zero => intro _; exact hv t (by omega)
          | succ k ih =>
            intro hk
            have := ih (by omega)
            unfold aK
            split
            · by_cases q : k = t
              · subst q
                unfold askS
                rw [un_ne _ _ (by omega), un_ne _ _ (by omega), un_eq]
                omega
              · rw [askS_ne (by omega) (by omega) (by omega) (by omega)]; exact this
            · exact this
        exact key t (by omega)
      have hK : aK S c (t + 1) = if S (13 + 4 * t) = c then askS (aK S c t) t else aK S c t := rfl
      rw [if_neg (nI_ge (by omega) (by omega))]
      simp (disch := omega) only [nI_lit, nI_ge0, nI_clamp, true_and]
      rw [if_pos (by omega), hr.1, hR.2.2.1, ec, e11, h11]
      simp (disch := omega) only [nI_eq, nI_add]
      by_cases eq : S (13 + 4 * t) = c
      · rw [if_pos eq]
        have n0 : i + 3 ≠ i + 2 := by omega
        have g1 : ∀ v, (psI σ (i + 3) t v).1 (i + 2) t = nI (aK S c t (13 + 4 * t + 1)) := fun v => by rw [psI_other (by omega)]; exact hr.2.1
        rw [hr.2.2.1]
        simp only [nI_add, g1]
        rw [max0 (by omega)]
        have g2 : ∀ v w, (psI (psI σ (i + 3) t v) (i + 2) t w).1 i 4 = nI (aK S c t 12) := fun v w => by rw [psI_other (by omega), psI_other (by omega)]; exact hR.2.2.2.2.1
        have g3 : ∀ v w, (psI (psI σ (i + 3) t v) (i + 2) t w).1 (i + 4) t = nI (aK S c t (13 + 4 * t + 3)) := fun v w => by rw [psI_other (by omega), psI_other (by omega)]; exact hr.2.2.2
        simp only [g2, g3, nI_or]
        have g4 : ∀ v w x, (psI (psI (psI σ (i + 3) t v) (i + 2) t w) i 4 x).1 (i + 4) t = nI (aK S c t (13 + 4 * t + 3)) := fun v w x => by rw [psI_other (by omega)]; exact g3 v w
        have g5 : ∀ v w x, (psI (psI (psI σ (i + 3) t v) (i + 2) t w) i 4 x).1 i 4 = x := fun v w x => by rw [psI_eq, if_pos rfl]
        simp only [g4, g5, nI_or]
        have hor : aK S c t (13 + 4 * t + 3) ||| (aK S c t 12 ||| aK S c t (13 + 4 * t + 3)) = aK S c t 12 ||| aK S c t (13 + 4 * t + 3) := by
          apply Nat.eq_of_testBit_eq
          intro j
          simp only [Nat.testBit_or]
          cases (aK S c t 12).testBit j <;> cases (aK S c t (13 + 4 * t + 3)).testBit j <;> rfl
        rw [hor]
        have hnew := X_askOne hR (by rw [e1]; exact h36) (show t < aK S c t 2 by omega) (by omega)
        have hag : agr [i, i + 2, i + 3, i + 4] σ (psI (psI (psI (psI σ (i + 3) t (nI (aK S c t (13 + 4 * t + 2) + 1))) (i + 2) t (nI (aK S c t (13 + 4 * t + 1) - 1))) i 4 (nI (aK S c t 12 ||| aK S c t (13 + 4 * t + 3)))) (i + 4) t (nI (aK S c t 12 ||| aK S c t (13 + 4 * t + 3)))) := agr_trans (agr_trans (agr_trans (agr_psI (by simp)) (agr_psI (by simp))) (agr_psI (by simp))) (agr_psI (by simp))
        obtain ⟨τ, a, b', d⟩ := X_ask2 h36 hc h2 h11 hcl hv k (t + 1) _ (by rw [hK, if_pos eq]; exact hnew) (by omega) (by omega)
        exact ⟨τ, a, b', agr_trans hag d⟩
      · rw [if_neg eq]
        exact X_ask2 h36 hc h2 h11 hcl hv k (t + 1) σ (by rw [hK, if_neg eq]; exact hR) (by omega) (by omega)
theorem X_ask {σ : PS} (hn : 100 ≤ n) (hR : RX σ i S) (h36 : S 1 * S 1 ≤ 36) (h2 : S 2 ≤ 6) (h11 : S 11 < 2 ^ 31) (hcl : ∀ t, t < S 2 → S (13 + 4 * t) < 2 ^ 31) (hv : ∀ t, t < S 2 → S (13 + 4 * t + 1) ≤ 99) : ∃ τ, F_X10_askWhoIsHere n i σ = some τ ∧ RX τ i (aK S (S 11) (S 2)) ∧ agr [i, i + 2, i + 3, i + 4] σ τ := by
  unfold F_X10_askWhoIsHere
  obtain ⟨τ, e, r, a⟩ := X_ask2 (n := n) h36 h11 h2 rfl hcl hv n 0 σ hR (by omega) (by omega)
  rw [show (0 : Int32) = nI 0 from rfl, e]
  exact ⟨τ, rfl, r, a⟩
end XA
/-- the class's way to the nearest is the reference's choice -/
theorem nr_dist {S : Nat → Nat} {b : Nat} (hw : okW S b) {c d : Nat} (hc : c < S 1 * S 1) (hd : d < 4) (h : ps S c d ≠ 99) : nr S c ≤ nr S (ps S c d) + 1 ∨ nr S (ps S c d) = 99 := by
  have h36 := okW_36 hw
  have hbu : ∀ c, c < 36 → S (37 + c) < 2 ^ 31 := fun c hc => by have := (hw.2.2.2.2.2.2.1 c hc).1; omega
  rcases ps_cases S c d with e | ⟨e, e9, e0⟩
  · exact absurd e h
  · have hl : nb (S 1) c d < S 1 * S 1 := nb_lt hc e9
    have hDa := dW_ok hw.1 hw.2.1 hbu hc
    have hDv := dW_ok hw.1 hw.2.1 hbu hl
    rw [e]
    have ht := hw.2.2.2.2.1
    have ca := nrK_char (S := S) (D := dW (S 1) (fun c => S (37 + c)) c) (fun t h => dW_lt hDa (ht t h).1) (S 2) (Nat.le_refl _)
    have cv := nrK_char (S := S) (D := dW (S 1) (fun c' => S (37 + c')) (nb (S 1) c d)) (fun t h => dW_lt hDv (ht t h).1) (S 2) (Nat.le_refl _)
    rcases cv with ⟨v9, _⟩ | ⟨v9, ⟨t, t1, t2, t3⟩, _⟩
    · exact Or.inr v9
    · left
      have tl : t < S 2 := t1
      have := tri1 h36 hDa hDv hc hd rfl e9 e0 _ _ (ht t tl).1 (by omega) rfl
      show nrK S _ _ ≤ nrK S _ _ + 1
      rcases ca with ⟨a9, q⟩ | ⟨a9, _, q⟩
      · have := q t t1 t2; omega
      · have := q t t1 t2; omega
theorem nr_some {S : Nat → Nat} {b : Nat} (hw : okW S b) {c : Nat} (hc : c < S 1 * S 1) (h0 : nr S c ≠ 0) (h9 : nr S c ≠ 99) : ∃ d, d < 4 ∧ ps S c d ≠ 99 ∧ nr S (ps S c d) + 1 ≤ nr S c := by
  have h36 := okW_36 hw
  have hbu : ∀ c, c < 36 → S (37 + c) < 2 ^ 31 := fun c hc => by have := (hw.2.2.2.2.2.2.1 c hc).1; omega
  have hDa := dW_ok hw.1 hw.2.1 hbu hc
  have ht := hw.2.2.2.2.1
  have ca := nrK_char (S := S) (D := dW (S 1) (fun c => S (37 + c)) c) (fun t h => dW_lt hDa (ht t h).1) (S 2) (Nat.le_refl _)
  rcases ca with ⟨a9, _⟩ | ⟨a9, ⟨t, t1, t2, t3⟩, _⟩
  · exact absurd a9 h9
  · have tl : t < S 2 := t1
    have hnr : nrK S (dW (S 1) (fun c => S (37 + c)) c) (S 2) = nr S c := rfl
    rw [hnr] at t3 a9
    obtain ⟨d, hd, hn, hb, q9, qle⟩ := tri2 h36 hc hDa (fun v => dW (S 1) (fun c => S (37 + c)) v) (fun v hv => dW_ok hw.1 hw.2.1 hbu hv) (nr S c - 1) _ (ht t tl).1 (by omega) (by omega)
    have hp : ps S c d = nb (S 1) c d := by unfold ps; rw [if_neg hn, if_pos hb]
    have hl : nb (S 1) c d < S 1 * S 1 := nb_lt hc hn
    have hDv := dW_ok hw.1 hw.2.1 hbu hl
    have cv := nrK_char (S := S) (D := dW (S 1) (fun c' => S (37 + c')) (nb (S 1) c d)) (fun t h => dW_lt hDv (ht t h).1) (S 2) (Nat.le_refl _)
    refine ⟨d, hd, by rw [hp]; exact hn, ?_⟩
    rw [hp]
    have hnv : nrK S (dW (S 1) (fun c' => S (37 + c')) (nb (S 1) c d)) (S 2) = nr S (nb (S 1) c d) := rfl
    rw [hnv] at cv
    rcases cv with ⟨v9, q⟩ | ⟨v9, _, q⟩
    · have := q t t1 t2; exact absurd this q9
    · have := q t t1 t2
      have q' : dW (S 1) (fun c => S (37 + c)) (nb (S 1) c d) (S (13 + 4 * t)) ≤ nr S c - 1 := qle
      omega
/-- the two ways of looking go side by side -/
def sbs (N : Nat → Nat) (q m : Nat) (seen : List Nat) (a : Nat × Int64) (z : Nat × Nat) : Prop := (a = (q, 0) ∧ z.2 > m ∧ ∀ c ∈ seen, c ≠ 99 → N c ≠ m) ∨ (a.2 = 1 ∧ z = (a.1, m))
theorem sbs_step {S : Nat → Nat} {m : Nat} {seen : List Nat} {a : Nat × Int64} {z : Nat × Nat} (h : sbs (nr S) (S 11) m seen a z) {c : Nat} (hc : c ≠ 99 → m ≤ nr S c) : sbs (nr S) (S 11) m (c :: seen) (if c ≠ 99 then stp S none (m + 1) a c else a) (tst (nr S) z c) := by
  by_cases e : c = 99
  · subst e
    rw [if_neg (fun q => q rfl)]
    have : tst (nr S) z 99 = z := if_neg (fun q => q.1 rfl)
    rw [this]
    rcases h with ⟨x, y, w⟩ | h
    · exact Or.inl ⟨x, y, fun u hu => by rcases List.mem_cons.mp hu with q | q; intro q'; exact absurd q q'; exact w u q⟩
    · exact Or.inr h
  · have hm := hc e
    rw [if_pos e]
    have hst : stp S none (m + 1) a c = if a.2 < (if nr S c + 1 = m + 1 then (1 : Int64) else 0) then (c, (if nr S c + 1 = m + 1 then (1 : Int64) else 0)) else a := rfl
    rw [hst]
    unfold tst
    rcases h with ⟨x, y, w⟩ | ⟨x, y⟩
    · rw [x]
      by_cases q : nr S c = m
      · rw [if_pos (show nr S c + 1 = m + 1 by omega), if_pos (show (0 : Int64) < 1 by decide), if_pos ⟨e, by omega⟩]
        exact Or.inr ⟨rfl, by rw [q]⟩
      · rw [if_neg (show ¬ nr S c + 1 = m + 1 by omega), if_neg (show ¬ (0 : Int64) < 0 by decide)]
        left
        refine ⟨rfl, ?_, fun u hu h9 => ?_⟩
        · split
          · show nr S c > m; omega
          · exact y
        · rcases List.mem_cons.mp hu with z | z
          · rw [z]; exact q
          · exact w u z h9
    · right
      rw [x, y]
      have : ¬ ((1 : Int64) < if nr S c + 1 = m + 1 then (1 : Int64) else 0) := by split <;> decide
      rw [if_neg this, if_neg (fun q => by have := q.2; simp only at this; omega)]
      exact ⟨x, rfl⟩
theorem nr_rng {S : Nat → Nat} {b : Nat} (hw : okW S b) {c : Nat} (hc : c < S 1 * S 1) : nr S c < 36 ∨ nr S c = 99 := by
  have h36 := okW_36 hw
  have hbu : ∀ c, c < 36 → S (37 + c) < 2 ^ 31 := fun c hc => by have := (hw.2.2.2.2.2.2.1 c hc).1; omega
  have hDa := dW_ok hw.1 hw.2.1 hbu hc
  have ht := hw.2.2.2.2.1
  have ca := nrK_char (S := S) (D := dW (S 1) (fun c => S (37 + c)) c) (fun t h => dW_lt hDa (ht t h).1) (S 2) (Nat.le_refl _)
  rcases ca with ⟨a9, _⟩ | ⟨a9, ⟨t, t1, t2, t3⟩, _⟩
  · exact Or.inr a9
  · left
    have tl : t < S 2 := t1
    have := hDa.2.2.2 _ (ht t tl).1 (by omega)
    show nrK S _ _ < 36
    omega
theorem nr_zero {S : Nat → Nat} {b : Nat} (hw : okW S b) : (caK S (S 2)).testBit (S 11) = true ↔ nr S (S 11) = 0 := by
  have h36 := okW_36 hw
  have h11 := hw.2.2.2.1
  have hbu : ∀ c, c < 36 → S (37 + c) < 2 ^ 31 := fun c hc => by have := (hw.2.2.2.2.2.2.1 c hc).1; omega
  have hDa := dW_ok hw.1 hw.2.1 hbu h11
  have ht := hw.2.2.2.2.1
  have ca := nrK_char (S := S) (D := dW (S 1) (fun c => S (37 + c)) (S 11)) (fun t h => dW_lt hDa (ht t h).1) (S 2) (Nat.le_refl _)
  have hnr : nrK S (dW (S 1) (fun c => S (37 + c)) (S 11)) (S 2) = nr S (S 11) := rfl
  rw [hnr] at ca
  rw [caK_bit]
  constructor
  · rintro ⟨t, t1, t2, t3⟩
    have h0 := hDa.1
    rcases ca with ⟨_, q⟩ | ⟨_, _, q⟩
    · have := q t t1 t2; rw [t3, h0] at this; omega
    · have := q t t1 t2; rw [t3, h0] at this; omega
  · intro e
    rcases ca with ⟨q, _⟩ | ⟨_, ⟨t, t1, t2, t3⟩, _⟩
    · omega
    · refine ⟨t, t1, t2, ?_⟩
      have tl : t < S 2 := t1
      apply Classical.byContradiction
      intro hne
      obtain ⟨_, _, _, _, _, _, _, q⟩ := hDa.2.1 _ (ht t tl).1 hne (by omega)
      omega
theorem ps_lt {S : Nat → Nat} {c d : Nat} (hc : c < S 1 * S 1) (h36 : S 1 * S 1 ≤ 36) : ps S c d < S 1 * S 1 ↔ ps S c d ≠ 99 := by
  rcases ps_cases S c d with e | ⟨e, e9, _⟩
  · rw [e]; constructor
    · intro h; omega
    · intro h; exact absurd rfl h
  · rw [e]
    exact ⟨fun _ => e9, fun _ => nb_lt hc e9⟩
theorem tw_none {S : Nat → Nat} {b : Nat} (hw : okW S b) : (if (caK S (S 2)).testBit (S 11) = true then S 11 else (twF S (nr S)).1) = chS S none := by
  have h36 := okW_36 hw
  have h11 := hw.2.2.2.1
  have hl : ∀ d, ps S (S 11) d ≠ 99 → ps S (S 11) d < S 1 * S 1 := fun d h => (ps_lt h11 h36).mpr h
  have hch : chS S none = if nr S (S 11) = 0 ∨ nr S (S 11) = 99 then S 11 else (chK S none (nr S (S 11)) (S 1 * S 1)).1 := rfl
  rw [hch]
  by_cases e0 : nr S (S 11) = 0
  · rw [if_pos ((nr_zero hw).mpr e0), if_pos (Or.inl e0)]
  · rw [if_neg (fun q => e0 ((nr_zero hw).mp q))]
    by_cases e9 : nr S (S 11) = 99
    · rw [if_pos (Or.inr e9)]
      have hno : ∀ d, d < 4 → tst (nr S) (S 11, 36) (ps S (S 11) d) = (S 11, 36) := by
        intro d hd
        unfold tst
        refine if_neg (fun q => ?_)
        have q2 : nr S (ps S (S 11) d) < 36 := q.2
        rcases nr_dist hw h11 hd q.1 with z | z <;> omega
      unfold twF
      rw [hno 2 (by decide), hno 0 (by decide), hno 1 (by decide), hno 3 (by decide)]
    · rw [if_neg (by omega), chK_xf hw.1 _ h36]
      have hrng := nr_rng hw h11
      obtain ⟨m, hm⟩ : ∃ m, nr S (S 11) = m + 1 := ⟨nr S (S 11) - 1, by omega⟩
      have hge : ∀ d, d < 4 → ps S (S 11) d ≠ 99 → m ≤ nr S (ps S (S 11) d) := by
        intro d hd h
        rcases nr_dist hw h11 hd h with z | z <;> omega
      have s0 : sbs (nr S) (S 11) m [] (S 11, 0) (S 11, 36) := Or.inl ⟨rfl, by show 36 > m; omega, fun c hc => by cases hc⟩
      have s1 := sbs_step s0 (hge 2 (by decide))
      have s2 := sbs_step s1 (hge 0 (by decide))
      have s3 := sbs_step s2 (hge 1 (by decide))
      have s4 := sbs_step s3 (hge 3 (by decide))
      unfold xfK
      rw [hm]
      simp only [ps_lt h11 h36]
      show (tst (nr S) (tst (nr S) (tst (nr S) (tst (nr S) (S 11, 36) (ps S (S 11) 2)) (ps S (S 11) 0)) (ps S (S 11) 1)) (ps S (S 11) 3)).1 = _
      rcases s4 with ⟨_, _, hno⟩ | ⟨_, q⟩
      · obtain ⟨d, hd, h9, hle⟩ := nr_some hw h11 e0 e9
        exfalso
        have hm' : nr S (ps S (S 11) d) = m := by have := hge d hd h9; omega
        have : d = 0 ∨ d = 1 ∨ d = 2 ∨ d = 3 := by omega
        rcases this with z | z | z | z <;> subst z <;> exact hno _ (by simp) h9 hm'
      · rw [q]
section XN
variable {n b i : Nat} {S : Nat → Nat} {σ : PS}
theorem X_towards_none (hn : 100 ≤ n) (hR : RX σ i S) (hb : b < 2 ^ 20) (hw : okW S b) : F_X10_towards n i (lN (caK S (S 2))) σ = some (nI (chS S none), σ) := by
  rw [X_towards hn hR hw.1 hw.2.1 hw.2.2.2.1 (caK_inQ hw) (N := nr S) (fun c hc => X_near hn hR hb hw hc), tw_none hw]
end XN
