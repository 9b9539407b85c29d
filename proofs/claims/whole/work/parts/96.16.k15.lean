/-! the rows of the sleuth, both sides. -/
section K15
variable {B : Nat → Int32} {sz z h p : Nat} {cs : Nat → List CL} {S S' : Nat → Nat} {H : Nat → Nat → Nat} {fo x : Int32} {im : Nat → Option IMG} {σ τ : PS} {n : Nat}
/-- where the question is under a rule, from the begin -/
noncomputable def plN (cs : Nat → List CL) (S : Nat → Nat) (r i : Nat) : Nat := pasN (begS S) (ruO cs (nI r - 1)) i 11
/-- the notes agree -/
noncomputable def agF (cs : Nat → List CL) (S : Nat → Nat) (r : Nat) : Nat → Nat → Bool
  | 0, _ => true
  | m + 1, k => if plN cs S r (S (158 + 2 * k)) = S (158 + 2 * k + 1) then agF cs S r m (k + 1) else false
noncomputable def flB (cs : Nat → List CL) (S : Nat → Nat) (z r : Nat) : Bool := decide (r ≤ z) && agF cs S r (S 178) 0
noncomputable def flI (cs : Nat → List CL) (S : Nat → Nat) (z r : Nat) : Int32 := if flB cs S z r = true then 1 else 0
theorem vF2_row {r : Nat} (hr : r ≤ z) (hz : z ≤ 6) : vF2 z (nI r - 1) := by
  cases r with
  | zero => exact Or.inl rfl
  | succ k => exact Or.inr ⟨k, by omega, nI_pred _⟩
theorem fo_Xr (hn : 1000 ≤ n) {f : Int32} (h7 : σ.1 7 0 = nI z) (hst : ∀ r, r < z → stX σ r (cs r)) (hz : z ≤ 6) (hv : vF2 z f) : foX n σ (ruO cs f) f := by
  unfold ruO
  rcases hv with e | ⟨r, hr, e⟩
  · rw [if_pos e]; exact e
  · subst e
    rw [if_neg (show ¬ nI r = -1 from m1_ne (by omega)), nI_clamp (by omega)]
    exact ⟨r, z, hr, hz, h7, rfl, X_ruX hn (by omega) (hst r hr)⟩
theorem fo_Mr (hn : 1000 ≤ n) {f : Int32} (h21 : σ.1 249 21 = f) (hst : ∀ r, r < z → stM σ r (cs r)) (hz : z ≤ 6) (hv : vF2 z f) : foM n σ (ruO cs f) := by
  unfold ruO
  rcases hv with e | ⟨r, hr, e⟩
  · rw [if_pos e]
    show σ.1 249 21 = m1
    rw [h21]; exact e
  · subst e
    rw [if_neg (show ¬ nI r = -1 from m1_ne (by omega)), nI_clamp (by omega)]
    exact ⟨r, by omega, h21, M_ruM (by omega) hn (hst r hr)⟩
theorem plN_lt {b : Nat} (cb : okW (begS S) b) (r i : Nat) : plN cs S r i < S 1 * S 1 := by
  have := (okW_pasN cb (ruO cs (nI r - 1)) i).2.2.2.1
  have e1 := (pasN_2 cb (ruO cs (nI r - 1)) i).2
  rw [e1] at this
  exact this
abbrev tr1 (r : Nat) : List Nat := (232 + r) :: wI 225
theorem tr1_nm {r j : Nat} (h1 : j ≠ 232 + r) (h2 : j < 225 ∨ 230 < j) : j ∉ tr1 r := by
  simp only [tr1, wI, List.mem_cons, List.not_mem_nil, or_false]
  omega
theorem tr1_lo {r j : Nat} (h : j ∈ tr1 r) (hr : r < 7) : 225 ≤ j ∧ j ≤ 238 := by
  simp only [tr1, wI, List.mem_cons, List.not_mem_nil, or_false] at h
  omega
theorem X_tr10 {b : Nat} (hn : 3000 ≤ n) {T : Nat → Nat} (cb : okW T b) (hb : b + 100 < 2 ^ 20) {ru : RU} {r : Nat} (hr : r < 7) : ∀ (m K k : Nat) (σ : PS), RX σ 225 (pasN T ru k) → foX n σ ru (nI r - 1) → (∀ i, i < k → σ.1 (232 + r) i = nI (pasN T ru i 11)) → k + m = 61 → m < K → ∃ τ, L_X8_trace_55 n 18 K (nI r) (nI k) σ = some (nI r, τ) ∧ (∀ i, i < 61 → τ.1 (232 + r) i = nI (pasN T ru i 11)) ∧ agx (tr1 r) σ τ
  | _, 0, k, σ, hR, hf, hQ, hk, hK => by omega
  | 0, K + 1, k, σ, hR, hf, hQ, hk, hK => by
    rw [L_X8_trace_55, if_pos (show (60 : Int32) < nI k from nI_lt (show 60 < k by omega) (by omega))]
    exact ⟨σ, rfl, fun j hj => hQ j (by omega), agx_refl⟩
  | m + 1, K + 1, k, σ, hR, hf, hQ, hk, hK => by
    have ag1 : agx (tr1 r) σ (psI σ (232 + r) k (σ.1 225 2)) := agx_psI List.mem_cons_self (by omega)
    have hR1 : RX (psI σ (232 + r) k (σ.1 225 2)) 225 (pasN T ru k) := RX_agr hR (agr_psI (T := [232 + r]) (by simp)) (fun j hj => by simp at hj; omega)
    obtain ⟨τ, a1, a2, a3⟩ := X_stride (n := n) (i := 225) (b := b + k) (by omega) (by omega) (okW_pasN cb ru k) (by decide) hR1 (foX_agx hf ag1 (fun j hj => by have := tr1_lo hj hr; omega))
    have ag2 : agx (tr1 r) σ τ := agx_trans ag1 (agx_mono a3 (fun j hj => List.mem_cons_of_mem _ hj))
    rw [L_X8_trace_55, if_neg (show ¬ (60 : Int32) < nI k from nI_nlt (show k ≤ 60 by omega) (by decide)), nI_clamp (show r < 2 ^ 31 by omega), nI_clamp (show k < 2 ^ 31 by omega), if_pos ⟨nI_pos' (by omega), by omega⟩, if_pos ⟨nI_pos' (by omega), by omega⟩, a1, Option.bind_some, nI_1]
    have n232 : 232 + r ∉ wI 225 := by simp only [wI, List.mem_cons, List.not_mem_nil, or_false]; omega
    obtain ⟨τ2, b1, b2, b3⟩ := X_tr10 hn cb hb (ru := ru) hr m K (k + 1) τ a2 (foX_agx hf ag2 (fun j hj => by have := tr1_lo hj hr; omega)) (fun j hj => by
      rw [(a3.1 (232 + r) n232 (by omega) (by omega)).1, psI_eq]
      by_cases e : j = k
      · rw [if_pos e, e, hR.2.2.1]
      · rw [if_neg e]; exact hQ j (by omega)) (by omega) (by omega)
    exact ⟨τ2, b1, b2, agx_trans ag2 b3⟩
theorem X_agrees2 {b : Nat} (cb : okW (begS S) b) (hsS : S 1 * S 1 ≤ 36) (c178 : S 178 ≤ 10) (cnt : ∀ j, j < S 178 → S (158 + 2 * j) ≤ 60 ∧ S (158 + 2 * j + 1) < S 1 * S 1) {r : Nat} (hr : r < 7) (hP : ∀ i, i < 61 → σ.1 (232 + r) i = nI (plN cs S r i)) (h4 : σ.1 18 4 = nI (S 178)) (hnt : ∀ j, j < S 178 → σ.1 31 j = nI (S (158 + 2 * j)) ∧ σ.1 32 j = nI (S (158 + 2 * j + 1))) : ∀ (m K k : Nat), k + m = S 178 → m < K → L_X8_agrees_2 n 18 K (nI r) (nI k) σ = some (if agF cs S r m k = true then 1 else 0, σ)
  | _, 0, k, hk, hK => by omega
  | 0, K + 1, k, hk, hK => by
    rw [L_X8_agrees_2, h4, if_pos (nI_le (by omega) (by omega))]
    rfl
  | m + 1, K + 1, k, hk, hK => by
    obtain ⟨c1, c2⟩ := cnt k (by omega)
    obtain ⟨n1, n2⟩ := hnt k (by omega)
    have pl := plN_lt (cs := cs) cb r (S (158 + 2 * k))
    rw [L_X8_agrees_2, h4, if_neg (nI_ge (by omega) (by omega)), nI_clamp (show k < 2 ^ 31 by omega), if_pos ⟨nI_pos' (by omega), by omega⟩, show σ.1 (18 + 13) k = nI (S (158 + 2 * k)) from n1, show σ.1 (18 + 14) k = nI (S (158 + 2 * k + 1)) from n2, if_neg (show ¬ nI (S (158 + 2 * k)) < 0 from nI_n0 (by omega)), if_neg (show ¬ (60 : Int32) < nI (S (158 + 2 * k)) from nI_nlt (show S (158 + 2 * k) ≤ 60 by omega) (by decide)), nI_clamp (show r < 2 ^ 31 by omega), nI_clamp (show S (158 + 2 * k) < 2 ^ 31 by omega), if_pos ⟨nI_pos' (by omega), by omega⟩, if_pos ⟨nI_pos' (by omega), by omega⟩, hP _ (by omega), nI_1]
    unfold agF
    by_cases q : plN cs S r (S (158 + 2 * k)) = S (158 + 2 * k + 1)
    · rw [if_pos (by rw [q]), if_pos q]
      exact X_agrees2 cb hsS c178 cnt hr hP h4 hnt m K (k + 1) (by omega) (by omega)
    · rw [if_neg (fun w => q (nI_inj (by omega) (by omega) w)), if_neg q, if_neg (by decide)]
theorem X_agrees {b : Nat} (hn : 100 ≤ n) (cb : okW (begS S) b) (hsS : S 1 * S 1 ≤ 36) (c178 : S 178 ≤ 10) (cnt : ∀ j, j < S 178 → S (158 + 2 * j) ≤ 60 ∧ S (158 + 2 * j + 1) < S 1 * S 1) {r : Nat} (hr : r < 7) (hP : ∀ i, i < 61 → σ.1 (232 + r) i = nI (plN cs S r i)) (h4 : σ.1 18 4 = nI (S 178)) (hnt : ∀ j, j < S 178 → σ.1 31 j = nI (S (158 + 2 * j)) ∧ σ.1 32 j = nI (S (158 + 2 * j + 1))) : F_X8_agrees n 18 (nI r) σ = some (if agF cs S r (S 178) 0 = true then 1 else 0, σ) := by
  unfold F_X8_agrees
  rw [show L_X8_agrees_2 n 18 n (nI r) (0 : Int32) σ = _ from X_agrees2 cb hsS c178 cnt hr hP h4 hnt (S 178) n 0 (by omega) (by omega), Option.bind_some]
  by_cases q : agF cs S r (S 178) 0 = true
  · rw [if_pos q, if_pos q]; rfl
  · rw [if_neg q, if_neg q]; rfl
abbrev trL : List Nat := [225, 226, 227, 228, 229, 230, 232, 233, 234, 235, 236, 237, 238, 239]
theorem tr1_trL : ∀ r, r < 7 → ∀ j, j ∈ tr1 r → j ∈ trL := by decide
def trI (cs : Nat → List CL) (S : Nat → Nat) (z r : Nat) (σ : PS) : Prop := (∀ q, q < r → σ.1 239 q = flI cs S z q) ∧ ∀ q, q < r → q ≤ z → ∀ i, i < 61 → σ.1 (232 + q) i = nI (plN cs S q i)
theorem X_tr2 {b : Nat} (hn : 3000 ≤ n) (cb : okW (begS S) b) (hb : b + 100 < 2 ^ 20) (hsS : S 1 * S 1 ≤ 36) (c178 : S 178 ≤ 10) (cnt : ∀ j, j < S 178 → S (158 + 2 * j) ≤ 60 ∧ S (158 + 2 * j + 1) < S 1 * S 1) (hz : z ≤ 6) : ∀ (m K r : Nat) (σ : PS), RX σ 19 (begS S) → (∀ r, r ≤ z → foX n σ (ruO cs (nI r - 1)) (nI r - 1)) → σ.1 7 0 = nI z → σ.1 18 4 = nI (S 178) → (∀ j, j < S 178 → σ.1 31 j = nI (S (158 + 2 * j)) ∧ σ.1 32 j = nI (S (158 + 2 * j + 1))) → trI cs S z r σ → r + m = 7 → m < K → ∃ τ, L_X8_trace_2 n 18 K (nI r) σ = some τ ∧ trI cs S z 7 τ ∧ agx trL σ τ
  | _, 0, r, σ, hR, hf, h7, h4, hnt, hI, hr, hK => by omega
  | 0, K + 1, r, σ, hR, hf, h7, h4, hnt, hI, hr, hK => by
    rw [L_X8_trace_2, if_pos (show (7 : Int32) ≤ nI r from nI_le (show 7 ≤ r by omega) (by omega))]
    exact ⟨σ, rfl, by rw [show 7 = r by omega]; exact hI, agx_refl⟩
  | m + 1, K + 1, r, σ, hR, hf, h7, h4, hnt, hI, hr, hK => by
    have again : ∀ τ, agx trL σ τ → trI cs S z (r + 1) τ → ∃ υ, L_X8_trace_2 n 18 K (nI (r + 1)) τ = some υ ∧ trI cs S z 7 υ ∧ agx trL σ υ := by
      intro τ ag hI'
      obtain ⟨υ, u1, u2, u3⟩ := X_tr2 hn cb hb hsS c178 cnt hz m K (r + 1) τ (RX_agx hR ag (by decide) (by decide)) (fun q hq => foX_agx (hf q hq) ag (by decide)) (ag.2.trans h7) (by rw [(ag.1 18 (by decide) (by decide) (by decide)).1]; exact h4) (fun j hj => by rw [(ag.1 31 (by decide) (by decide) (by decide)).1, (ag.1 32 (by decide) (by decide) (by decide)).1]; exact hnt j hj) hI' (by omega) (by omega)
      exact ⟨υ, u1, u2, agx_trans ag u3⟩
    rw [L_X8_trace_2, if_neg (show ¬ (7 : Int32) ≤ nI r from nI_ge (show r < 7 by omega) (by decide)), h7, nI_clamp (by omega), nar_b.1, nar_b.2, nI_1]
    by_cases q : z < r
    · rw [if_pos (nI_lt q (by omega)), if_pos ⟨nI_pos' (by omega), by omega⟩, psI_eq, if_pos rfl, if_pos rfl]
      refine again _ (agx_psI (by decide) (by decide)) ⟨fun u hu => ?_, fun u hu hu2 i hi => ?_⟩
      · rw [psI_eq]
        by_cases e : u = r
        · rw [if_pos e, e]
          unfold flI flB
          rw [show decide (r ≤ z) = false from decide_eq_false (by omega)]
          rfl
        · rw [if_neg e]; exact hI.1 u (by omega)
      · rw [psI_other (by omega)]
        exact hI.2 u (by omega) hu2 i hi
    · rw [if_neg (nI_nlt (by omega) (by omega)), if_pos ⟨nI_pos' (by omega), by omega⟩, psI_eq, if_pos rfl, if_neg ne10]
      have ag1 : agx trL σ (psI σ 239 r (1 : Int32)) := agx_psI (by decide) (by decide)
      obtain ⟨τ2, b1, b2⟩ := X_copyFrom (n := n) (i := 225) (a := 19) (by omega) (by omega) (σ := psI σ 239 r (1 : Int32))
      have hR1 : RX (psI σ 239 r (1 : Int32)) 19 (begS S) := RX_agx hR ag1 (by decide) (by decide)
      have hR2 := CP_RX b2 hR1 cb.2.2.1
      have ag2 : agx trL σ τ2 := agx_trans ag1 (agx_of (agr_mono b2.2.2.2.2 (by decide)) (by decide))
      obtain ⟨τ3, d1, d2, d3⟩ := X_tr10 (n := n) hn cb hb (ru := ruO cs (nI r - 1)) (r := r) (by omega) 61 n 0 τ2 hR2 (foX_agx (hf r (by omega)) ag2 (by decide)) (fun i hi => by omega) (by omega) (by omega)
      have ag3 : agx trL σ τ3 := agx_trans ag2 (agx_mono d3 (tr1_trL r (by omega)))
      have hA := X_agrees (n := n) (cs := cs) (σ := τ3) (by omega) cb hsS c178 cnt (r := r) (by omega) d2 (by rw [(ag3.1 18 (by decide) (by decide) (by decide)).1]; exact h4) (fun j hj => by rw [(ag3.1 31 (by decide) (by decide) (by decide)).1, (ag3.1 32 (by decide) (by decide) (by decide)).1]; exact hnt j hj)
      show ∃ τ, (F_X10_copyFrom n 225 19 (psI σ 239 r (1 : Int32))).bind _ = some τ ∧ _
      rw [b1, Option.bind_some]
      show ∃ τ, (L_X8_trace_55 n 18 n (nI r) (nI 0) τ2).bind _ = some τ ∧ _
      rw [d1, Option.bind_some]
      show ∃ τ, (F_X8_agrees n 18 (nI r) τ3).bind _ = some τ ∧ _
      rw [hA, Option.bind_some]
      show ∃ τ, (if 0 ≤ nI r ∧ (nI r).toNatClampNeg < 7 then L_X8_trace_2 n 18 K (nI r + 1) (psI τ3 239 (nI r).toNatClampNeg (vp_nar .boolean (if agF cs S r (S 178) 0 = true then (1 : Int32) else 0))) else none) = some τ ∧ _
      rw [nI_clamp (show r < 2 ^ 31 by omega), if_pos ⟨nI_pos' (by omega), by omega⟩, nI_1]
      have en : vp_nar .boolean (if agF cs S r (S 178) 0 = true then (1 : Int32) else 0) = flI cs S z r := by
        unfold flI flB
        rw [show decide (r ≤ z) = true from decide_eq_true (by omega), Bool.true_and]
        by_cases w : agF cs S r (S 178) 0 = true
        · rw [if_pos w, nar_b.1]
        · rw [if_neg w, nar_b.2]
      show ∃ τ, L_X8_trace_2 n 18 K (nI (r + 1)) (psI τ3 239 r (vp_nar .boolean (if agF cs S r (S 178) 0 = true then (1 : Int32) else 0))) = some τ ∧ _
      rw [en]
      have b232 : ∀ u, u < 7 → u ≠ r → τ3.1 (232 + u) = σ.1 (232 + u) := by
        intro u hu hne
        have n225 : 232 + u ∉ wI 225 := by simp only [wI, List.mem_cons, List.not_mem_nil, or_false]; omega
        rw [(d3.1 (232 + u) (tr1_nm (by omega) (by omega)) (by omega) (by omega)).1, (b2.2.2.2.2 (232 + u) n225).1, psI_other (by omega)]
      refine again _ (agx_trans ag3 (agx_psI (by decide) (by decide))) ⟨fun u hu => ?_, fun u hu hu2 i hi => ?_⟩
      · rw [psI_eq]
        by_cases e : u = r
        · rw [if_pos e, e]
        · rw [if_neg e, (d3.1 239 (tr1_nm (by omega) (by omega)) (by decide) (by decide)).1, (b2.2.2.2.2 239 (by decide)).1, psI_eq, if_neg e]
          exact hI.1 u (by omega)
      · rw [psI_other (by omega)]
        by_cases e : u = r
        · rw [e]; exact d2 i hi
        · rw [b232 u (by omega) e]; exact hI.2 u (by omega) hu2 i hi
theorem X_trace (hn : 3000 ≤ n) (hg : okG B z S h H fo x im) (hx : IX σ B sz z cs S h p H fo x im) (hc : okC S) : ∃ τ, F_X8_trace n 18 σ = some τ ∧ trI cs S z 7 τ ∧ agx trL σ τ := by
  obtain ⟨c0, cw, cb, c10, c178, cnt, chi⟩ := hc
  obtain ⟨τ, t1, t2, t3⟩ := X_tr2 (n := n) (cs := cs) hn cb (by omega) (okW_36 cw) c178 cnt hg.2.1 7 n 0 σ hx.2.2.2.1.2.1 (fun r hr => fo_Xr (by omega) hx.2.1 hx.2.2.1 hg.2.1 (vF2_row hr hg.2.1)) hx.2.1 hx.2.2.2.1.2.2.1 hx.2.2.2.1.2.2.2.2.2 ⟨fun q hq => by omega, fun q hq => by omega⟩ (by omega) (by omega)
  refine ⟨τ, ?_, t2, t3⟩
  unfold F_X8_trace
  rw [show L_X8_trace_2 n 18 n (0 : Int32) σ = _ from t1, Option.bind_some]
end K15
