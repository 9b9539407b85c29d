/-! cut: the class's answer. -/
section K27
variable {S : Nat → Nat} {b tg n : Nat} {σ τ : PS}
def fwS (S : Nat → Nat) (tg : Nat) (v : Int32) : Prop := (v = -2 ∧ ∀ k, k ≤ 3 → ¬ Exk S tg k) ∨ ∃ k, k ≤ 3 ∧ v = nI k ∧ Exk S tg k ∧ ∀ j, j < k → ¬ Exk S tg j
theorem X_fc24 (hn : 100 ≤ n) (cw : okW S b) (ht : tg < S 1 * S 1) : ∀ (K k : Nat) (σ : PS), σ.1 240 0 = -2 → RX σ 242 S → (∀ j, j < k → ¬ Exk S tg j) → k ≤ 4 → 6 ≤ K + k → ∃ τ, L_X7_findCut_24 n 25 K (nI tg) (nI k) σ = some (nI tg, τ) ∧ fwS S tg (τ.1 240 0) ∧ RX τ 242 S ∧ agr (240 :: 248 :: wI 242) σ τ
  | 0, k, σ, h0, hR, hno, hk, hK => by omega
  | K + 1, k, σ, h0, hR, hno, hk, hK => by
    rw [L_X7_findCut_24]
    by_cases e : 3 < k
    · rw [if_pos (show (3 : Int32) < nI k from nI_lt (show 3 < k from e) (by omega))]
      exact ⟨σ, rfl, Or.inl ⟨h0, fun j hj => hno j (by omega)⟩, hR, agr_refl⟩
    · obtain ⟨r, τ1, b1, b2, b3, b4⟩ := X_isCut (n := n) (b := b) (tg := tg) hn 6 k S σ (by omega) (by omega) cw ht hR
      have ag1 : agr (240 :: 248 :: wI 242) σ τ1 := agr_mono b4 (by decide)
      rw [if_neg (show ¬ (3 : Int32) < nI k from nI_nlt (show k ≤ 3 by omega) (by decide)), if_pos h0, b1, Option.bind_some, nI_1]
      by_cases y : r = 0
      · rw [if_pos (show (r, τ1).1 = 0 from y)]
        obtain ⟨τ, t1, t2, t3, t4⟩ := X_fc24 hn cw ht K (k + 1) τ1 (by rw [(b4 240 (by decide)).1]; exact h0) b3 (fun j hj => by
          by_cases ej : j = k
          · rw [ej]; exact fun h => (b2.mpr h) y
          · exact hno j (by omega)) (by omega) (by omega)
        exact ⟨τ, t1, t2, t3, agr_trans ag1 t4⟩
      · rw [if_neg (show ¬ (r, τ1).1 = 0 from y)]
        have ag2 : agr [240] τ1 (psI τ1 240 0 (nI k)) := agr_psI (by simp)
        have v0 : (psI τ1 240 0 (nI k)).1 240 0 = nI k := by rw [psI_eq, if_pos rfl]
        refine ⟨psI τ1 240 0 (nI k), ?_, Or.inr ⟨k, by omega, v0, b2.mp y, hno⟩, RX_agr b3 ag2 (by decide), agr_trans ag1 (agr_mono ag2 (by decide))⟩
        obtain ⟨KK, hKK⟩ : ∃ KK, K = KK + 1 := ⟨K - 1, by omega⟩
        subst hKK
        rw [L_X7_findCut_24]
        by_cases e4 : 3 < k + 1
        · rw [if_pos (show (3 : Int32) < nI (k + 1) from nI_lt (show 3 < k + 1 from e4) (by omega))]
        · rw [if_neg (show ¬ (3 : Int32) < nI (k + 1) from nI_nlt (show k + 1 ≤ 3 by omega) (by decide)), if_neg ?_]
          show ¬ (psI τ1 240 0 (nI k)).1 240 0 = -2
          rw [v0]
          intro q
          have := congrArg Int32.toInt q
          rw [nI_toInt (by omega), show (-2 : Int32).toInt = -2 by decide] at this
          omega
theorem X_fc67 (hn : 100 ≤ n) (cw0 : okW S b) (ht : tg < S 1 * S 1) : ∀ (m K : Nat) (T : Nat → Nat) (f fd v : Nat) (σ : PS), v + m = S 1 * S 1 → m < K → RX σ 25 S → RX σ 242 T → σ.1 240 0 = nI (fd + f) → fd + f ≤ 3 → okW T b → (∀ j, j < 37 → T j = S j) → (∀ c, v ≤ c → T (37 + c) = S (37 + c)) → ∃ τ, L_X7_findCut_67 n 25 K (nI tg) (nI fd) (nI v) σ = some τ ∧ (∀ i, i < fd → τ.1 241 i = σ.1 241 i) ∧ (∀ i x, (gd tg m T f)[i]? = some x → τ.1 241 (fd + i) = nI x) ∧ agr (241 :: 248 :: wI 242) σ τ
  | _, 0, T, f, fd, v, σ, hv, hK, hR, hG, h0, hf, cw, hT, hTc => by omega
  | 0, K + 1, T, f, fd, v, σ, hv, hK, hR, hG, h0, hf, cw, hT, hTc => by
    have h36 := okW_36 cw0
    rw [L_X7_findCut_67, hR.2.1, if_pos (nI_le (by omega) (by omega))]
    refine ⟨σ, rfl, fun _ _ => rfl, fun i x h => ?_, agr_refl⟩
    have : gd tg 0 T f = [] := by cases f <;> rfl
    rw [this] at h; cases h
  | m + 1, K + 1, T, f, fd, v, σ, hv, hK, hR, hG, h0, hf, cw, hT, hTc => by
    have h36 := okW_36 cw0
    have t1 := hT 1 (by omega)
    have t11 := hT 11 (by omega)
    have ev : T 1 * T 1 - (m + 1) = v := by rw [t1]; omega
    rw [L_X7_findCut_67, hR.2.1, if_neg (nI_ge (by omega) (by omega)), h0]
    cases f with
    | zero =>
      rw [if_pos (nI_le (by omega) (by omega))]
      exact ⟨σ, rfl, fun _ _ => rfl, fun i x h => (by rw [show gd tg (m + 1) T 0 = [] from rfl] at h; cases h), agr_refl⟩
    | succ f =>
      have eg : gd tg (m + 1) T (f + 1) = @ite _ ((v ≠ T 11 ∧ v ≠ tg) ∧ T (37 + v) = 0 ∧ Exk (bs T [v]) tg f) (Classical.propDecidable _) (v :: gd tg m (bs T [v]) f) (gd tg m T (f + 1)) := by rw [← ev]; rfl
      rw [if_neg (nI_ge (by omega) (by omega)), hR.2.2.1, nI_1]
      have skip : ¬ ((v ≠ T 11 ∧ v ≠ tg) ∧ T (37 + v) = 0 ∧ Exk (bs T [v]) tg f) → ∀ σ1, agr (241 :: 248 :: wI 242) σ σ1 → σ1.1 241 = σ.1 241 → RX σ1 242 T → ∃ τ, L_X7_findCut_67 n 25 K (nI tg) (nI fd) (nI (v + 1)) σ1 = some τ ∧ (∀ i, i < fd → τ.1 241 i = σ.1 241 i) ∧ (∀ i x, (gd tg (m + 1) T (f + 1))[i]? = some x → τ.1 241 (fd + i) = nI x) ∧ agr (241 :: 248 :: wI 242) σ τ := by
        intro q σ1 ag e241 hG1
        obtain ⟨τ, u1, u2, u3, u4⟩ := X_fc67 hn cw0 ht m K T (f + 1) fd (v + 1) σ1 (by omega) (by omega) (RX_agr hR ag (by decide)) hG1 (by rw [(ag 240 (by decide)).1]; exact h0) hf cw hT (fun c hc => hTc c (by omega))
        refine ⟨τ, u1, fun i hi => by rw [u2 i hi, e241], ?_, agr_trans ag u4⟩
        rw [eg, if_neg q]
        exact u3
      by_cases q1 : v = S 11
      · rw [if_pos (by rw [q1])]
        exact skip (fun h => h.1.1 (by rw [t11]; exact q1)) σ agr_refl rfl hG
      · rw [if_neg (fun h => q1 (nI_inj (by omega) (by have := cw0.2.2.2.1; omega) h))]
        by_cases q2 : v = tg
        · rw [if_pos (by rw [q2])]
          exact skip (fun h => h.1.2 q2) σ agr_refl rfl hG
        · rw [if_neg (fun h => q2 (nI_inj (by omega) (by omega) h)), X_isFree hR h36 (by omega), Option.bind_some]
          by_cases q3 : S (37 + v) = 0
          · have q3' : T (37 + v) = 0 := by rw [hTc v (by omega)]; exact q3
            rw [if_neg (show ¬ (if S (37 + v) = 0 then (1 : Int32) else 0) = 0 by rw [if_pos q3]; decide)]
            have vc : v < T 1 * T 1 := by rw [t1]; omega
            have cwb : okW (bs T [v]) b := okW_bs cw (fun x hx => by simp at hx; omega)
            have hGb := RX_bs hG cw vc
            have e6 : (σ.2 242 6) ||| ((1 : Int64) <<< ((nI v).toInt64 &&& 63)) = lN (bm T ||| 2 ^ v) := by
              have hb := bm_lt (S := T) (by rw [t1]; exact h36)
              have hp : 2 ^ v < 2 ^ 36 := Nat.pow_lt_pow_right (by decide) (by omega)
              rw [hG.2.2.2.2.2.2.1, show (1 : Int64) = lN 1 from rfl, wb_shl 1 (show v < 64 by omega), Nat.one_mul, wb_or (by omega) (by omega)]
            obtain ⟨r, τ1, b1, b2, b3, b4⟩ := X_isCut (n := n) (b := b) (tg := tg) hn 6 f (bs T [v]) (psJ σ 242 6 (lN (bm T ||| 2 ^ v))) (by omega) (by omega) cwb (by rw [bs_ne (by omega), t1]; exact ht) hGb
            dsimp only
            have ag1 : agr (241 :: 248 :: wI 242) σ τ1 := agr_trans (agr_psJ (by decide)) (agr_mono b4 (by decide))
            have e41 : τ1.1 241 = σ.1 241 := by rw [(b4 241 (by decide)).1]; rfl
            have ek : (psJ σ 242 6 (lN (bm T ||| 2 ^ v))).1 240 0 - nI fd - (1 : Int32) = nI f := by
              show σ.1 240 0 - nI fd - nI 1 = _
              rw [h0, nI_sub (by omega), nI_sub (by omega)]
              congr 1; omega
            rw [e6, ek, b1, Option.bind_some]
            dsimp only
            by_cases y : r = 0
            · rw [if_pos y, b3.2.2.2.2.2.2.1, bm_back (by rw [t1]; exact h36) vc q3']
              exact skip (fun h => (b2.mpr h.2.2) y) _ (agr_trans ag1 (agr_psJ (by decide))) e41 (RX_un b3 (by omega) cw.2.2.1)
            · rw [if_neg y, nI_clamp (show fd < 2 ^ 31 by omega), if_pos ⟨nI_pos' (by omega), by omega⟩, show nI fd + 1 = nI (fd + 1) from nI_1 _]
              have ag2 : agr (241 :: 248 :: wI 242) σ (psI τ1 241 fd (nI v)) := agr_trans ag1 (agr_psI (by decide))
              obtain ⟨τ, u1, u2, u3, u4⟩ := X_fc67 hn cw0 ht m K (bs T [v]) f (fd + 1) (v + 1) (psI τ1 241 fd (nI v)) (by omega) (by omega) (RX_agr hR ag2 (by decide)) (RX_agr b3 (agr_psI (T := [241]) (by simp)) (by decide)) (by rw [(ag2 240 (by decide)).1, h0]; congr 1; omega) (by omega) cwb (fun j hj => by rw [bs_ne hj]; exact hT j hj) (fun c hc => by rw [bs_b, if_neg (by simp; omega)]; exact hTc c (by omega))
              refine ⟨τ, u1, fun i hi => by rw [u2 i (by omega), psI_eq, if_neg (by omega), e41], fun i x h => ?_, agr_trans ag2 u4⟩
              rw [eg, if_pos ⟨⟨by rw [t11]; exact q1, q2⟩, q3', b2.mp y⟩] at h
              cases i with
              | zero =>
                have : v = x := by simpa using h
                rw [← this, Nat.add_zero, u2 fd (by omega), psI_eq, if_pos rfl]
              | succ i =>
                have h' : (gd tg m (bs T [v]) f)[i]? = some x := by simpa using h
                rw [show fd + (i + 1) = fd + 1 + i by omega]
                exact u3 i x h'
          · rw [if_pos (show (if S (37 + v) = 0 then (1 : Int32) else 0) = 0 by rw [if_neg q3])]
            exact skip (fun h => q3 (by rw [← hTc v (by omega)]; exact h.2.1)) σ agr_refl rfl hG
end K27
