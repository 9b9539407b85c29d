/-! the game: the reference's half. -/
section K21
variable {B : Nat → Int32} {sz z h p : Nat} {cs : Nat → List CL} {S S' : Nat → Nat} {H : Nat → Nat → Nat} {fo x : Int32} {im : Nat → Option IMG} {σ τ : PS} {n : Nat}
/-- nothing but the game's rows changed, and of these nothing below level k -/
def gfr (k : Nat) (σ τ : PS) : Prop := agm [266, 267, 268, 269] [34] σ τ ∧ (∀ j, j < k → τ.1 266 j = σ.1 266 j ∧ τ.1 267 j = σ.1 267 j ∧ τ.1 268 j = σ.1 268 j ∧ τ.1 269 j = σ.1 269 j) ∧ (k ≠ 0 → τ.1 249 34 = σ.1 249 34)
theorem gfr_refl {k : Nat} : gfr k σ σ := ⟨agm_refl, fun _ _ => ⟨rfl, rfl, rfl, rfl⟩, fun _ => rfl⟩
theorem gfr_trans {k : Nat} {a b c : PS} (h1 : gfr k a b) (h2 : gfr k b c) : gfr k a c := ⟨agm_trans h1.1 h2.1, fun j hj => ⟨(h2.2.1 j hj).1.trans (h1.2.1 j hj).1, (h2.2.1 j hj).2.1.trans (h1.2.1 j hj).2.1, (h2.2.1 j hj).2.2.1.trans (h1.2.1 j hj).2.2.1, (h2.2.1 j hj).2.2.2.trans (h1.2.1 j hj).2.2.2⟩, fun hk => (h2.2.2 hk).trans (h1.2.2 hk)⟩
theorem gfr_psI {k r : Nat} {v : Int32} (hr : r = 266 ∨ r = 267 ∨ r = 268 ∨ r = 269) : gfr k σ (psI σ r k v) := by
  refine ⟨agm_psI (by rcases hr with e | e | e | e <;> simp [e]) (by omega), fun j hj => ?_, fun _ => by rw [psI_other (by omega)]⟩
  have : ∀ a, (psI σ r k v).1 a j = σ.1 a j := fun a => by
    by_cases e : a = r
    · subst e; rw [psI_eq, if_neg (by omega)]
    · rw [psI_other e]
  exact ⟨this _, this _, this _, this _⟩
theorem M_scan {b : Nat} (hn : 100 ≤ n) (cw : okW S b) {k q c : Nat} (hk : k < 5) (hq : q < S 1 * S 1) (hc : c < S 1 * S 1) {x2 : Int32} : ∀ (m K g : Nat) (σ : PS), rowN σ 259 S → σ.1 266 k = nI q → σ.1 267 k = nI c → σ.1 268 k = nI g → g + m = S 1 * S 1 → m < K → ∃ g' τ, g ≤ g' ∧ g' ≤ S 1 * S 1 ∧ (∀ v, g ≤ v → v < g' → ¬ canC S (decide (k % 2 = 0)) (if k % 2 = 0 then q else c) v) ∧ (g' < S 1 * S 1 → canC S (decide (k % 2 = 0)) (if k % 2 = 0 then q else c) g') ∧ L_X12_plays_33 n K x2 (nI k) σ = some (x2, nI k, τ) ∧ τ.1 268 k = nI g' ∧ agr [268] σ τ ∧ gfr k σ τ
  | _, 0, g, σ, hS, h6, h7, h8, hg, hK => by omega
  | 0, K + 1, g, σ, hS, h6, h7, h8, hg, hK => by
    have h36 := okW_36 cw
    rw [L_X12_plays_33, nI_clamp (show k < 2 ^ 31 by omega), if_pos (show 0 ≤ nI k ∧ k < 5 from ⟨nI_pos' (by omega), hk⟩), M_cells hS, Option.bind_some, h8, if_pos (show nI (S 1 * S 1) ≤ nI g from nI_le (by omega) (by omega))]
    exact ⟨g, σ, Nat.le_refl _, by omega, fun v h1 h2 => by omega, fun w => by omega, rfl, h8, agr_refl, gfr_refl⟩
  | m + 1, K + 1, g, σ, hS, h6, h7, h8, hg, hK => by
    have h36 := okW_36 cw
    rw [L_X12_plays_33, nI_clamp (show k < 2 ^ 31 by omega), if_pos (show 0 ≤ nI k ∧ k < 5 from ⟨nI_pos' (by omega), hk⟩), M_cells hS, Option.bind_some, h8, if_neg (show ¬ nI (S 1 * S 1) ≤ nI g from nI_ge (by omega) (by omega))]
    show ∃ g' τ, _ ∧ _ ∧ _ ∧ _ ∧ (F_X12_canGo n (nI k) σ).bind _ = some (x2, nI k, τ) ∧ _
    rw [M_canGo hn hS cw hk h6 h7 h8 hq hc (by omega), Option.bind_some]
    by_cases e : canC S (decide (k % 2 = 0)) (if k % 2 = 0 then q else c) g
    · rw [if_neg (show ¬ (if canC S (decide (k % 2 = 0)) (if k % 2 = 0 then q else c) g then (1 : Int32) else 0) = 0 by rw [if_pos e]; decide)]
      exact ⟨g, σ, Nat.le_refl _, by omega, fun v h1 h2 => by omega, fun _ => e, rfl, h8, agr_refl, gfr_refl⟩
    · rw [if_pos (show (if canC S (decide (k % 2 = 0)) (if k % 2 = 0 then q else c) g then (1 : Int32) else 0) = 0 by rw [if_neg e])]
      show ∃ g' τ, _ ∧ _ ∧ _ ∧ _ ∧ L_X12_plays_33 n K x2 (nI k) (psI σ 268 k (σ.1 268 k + 1)) = some (x2, nI k, τ) ∧ _
      rw [h8, nI_1]
      have ag : agr [268] σ (psI σ 268 k (nI (g + 1))) := agr_psI (by simp)
      obtain ⟨g', τ, t1, t2, t3, t4, t5, t6, t7, t8⟩ := M_scan hn cw hk hq hc (x2 := x2) m K (g + 1) (psI σ 268 k (nI (g + 1))) (rowN_agr hS ag (by decide)) (by rw [psI_other (by decide)]; exact h6) (by rw [psI_other (by decide)]; exact h7) (by rw [psI_eq, if_pos rfl]) (by omega) (by omega)
      refine ⟨g', τ, by omega, t2, fun v h1 h2 => ?_, t4, t5, t6, agr_trans ag t7, gfr_trans (gfr_psI (by omega)) t8⟩
      by_cases y : v = g
      · rw [y]; exact e
      · exact t3 v (by omega) h2
/-- what the reference holds at a level -/
def lvM (σ : PS) (k : Nat) (acc : Int32 × Int32) : Prop := σ.1 269 k = acc.1 ∧ (k = 0 → acc.1 ≠ -1 → σ.1 249 34 = acc.2)
theorem M_worth {k g : Nat} (hk : k < 5) {acc : Int32 × Int32} {v : Int32} (hl : lvM σ k acc) (h8 : σ.1 268 k = nI g) (ha : nn1 acc.1) (hv : 0 ≤ v) : ∃ τ, F_X12_isWorth n (nI k) v σ = some τ ∧ lvM τ k (gst (decide (k % 2 = 0)) acc v (nI g)) ∧ agm [269] [34] σ τ ∧ gfr k σ τ := by
  obtain ⟨l1, l2⟩ := hl
  have k0 : nI k = 0 ↔ k = 0 := ⟨fun e => nI_inj (b := 0) (by omega) (by decide) e, fun e => by rw [e]; rfl⟩
  have take : ∃ τ, (if nI k = 0 then some (psI (psI σ 269 k v) 249 34 ((psI σ 269 k v).1 268 0)) else some (psI σ 269 k v)) = some τ ∧ lvM τ k (v, nI g) ∧ agm [269] [34] σ τ ∧ gfr k σ τ := by
    by_cases e : k = 0
    · subst e
      rw [if_pos (show nI 0 = (0 : Int32) from rfl), psI_other (show 268 ≠ 269 by decide), h8]
      refine ⟨_, rfl, ⟨by rw [psI_other (by decide), psI_eq, if_pos rfl], fun _ _ => by rw [psI_eq, if_pos rfl]⟩, agm_trans (agm_psI (by simp) (by decide)) (agm_fld (by simp)), ⟨agm_trans (agm_psI (by simp) (by decide)) (agm_fld (by simp)), fun j hj => by omega, fun w => absurd rfl w⟩⟩
    · rw [if_neg (fun w => e (k0.mp w))]
      exact ⟨_, rfl, ⟨by rw [psI_eq, if_pos rfl], fun w => absurd w e⟩, agm_psI (by simp) (by decide), gfr_psI (by omega)⟩
  have keep : ∃ τ, some σ = some τ ∧ lvM τ k acc ∧ agm [269] [34] σ τ ∧ gfr k σ τ := ⟨σ, rfl, ⟨l1, l2⟩, agm_refl, gfr_refl⟩
  unfold F_X12_isWorth
  rw [nI_clamp (by omega), if_pos ⟨nI_pos' (by omega), hk⟩, l1, par hk]
  by_cases a1 : acc.1 = -1
  · have eg : gst (decide (k % 2 = 0)) acc v (nI g) = (v, nI g) := if_pos a1
    rw [eg, if_pos (show acc.1 < 0 by rw [a1]; decide), if_neg ne10]
    exact take
  · have h0 : 0 ≤ acc.1 := ha.resolve_left a1
    rw [if_neg (Int32.not_lt.mpr h0)]
    by_cases e : k % 2 = 0
    · rw [decide_eq_true e, gst_t, if_neg a1, e, if_pos (show nI 0 = 0 from rfl)]
      by_cases y : v < acc.1
      · rw [if_pos y, if_neg (Int32.not_le.mpr y), if_neg ne10]; exact take
      · rw [if_neg y, if_pos (Int32.not_lt.mp y), if_pos rfl]; exact keep
    · have e1 : k % 2 = 1 := by omega
      rw [decide_eq_false e, gst_f, if_neg a1, e1, if_neg (show ¬ nI 1 = (0 : Int32) by decide)]
      by_cases y : acc.1 < v
      · rw [if_pos y, if_neg (Int32.not_le.mpr y), if_neg ne10]; exact take
      · rw [if_neg y, if_pos (Int32.not_lt.mp y), if_pos rfl]; exact keep
/-- the worth of going to y at level k -/
def vL (S : Nat → Nat) (t k q c : Nat) (y : Nat) : Int32 := if k % 2 = 0 then (gv S t false y c).1 else (gv S t true q y).1
theorem gv_vL (t k q c : Nat) : gv S (t + 1) (decide (k % 2 = 0)) q c = g5 S (decide (k % 2 = 0)) (vL S t k q c) (if k % 2 = 0 then q else c) := by
  by_cases e : k % 2 = 0
  · rw [decide_eq_true e, if_pos e]
    have : vL S t k q c = fun y => (gv S t false y c).1 := by funext y; unfold vL; rw [if_pos e]
    rw [this]; rfl
  · rw [decide_eq_false e, if_neg e]
    have : vL S t k q c = fun y => (gv S t true q y).1 := by funext y; unfold vL; rw [if_neg e]
    rw [this]; rfl
theorem fcK_skip {w : Bool} {V : Nat → Int32} {c : Nat} {g : Nat} : ∀ g', g ≤ g' → (∀ v, g ≤ v → v < g' → ¬ canC S w c v) → fcK S w V c g' = fcK S w V c g
  | 0, h, _ => by rw [show g = 0 by omega]
  | k + 1, h, hh => by
    by_cases e : g = k + 1
    · rw [e]
    · show (if canC S w c k then _ else fcK S w V c k) = _
      rw [if_neg (hh k (by omega) (by omega))]
      exact fcK_skip k (by omega) (fun v h1 h2 => hh v h1 (by omega))
/-- what follows when a level is at its end -/
def exM (n N k : Nat) (K : Nat) (τ : PS) : Option PS := if k = 0 then L_X12_plays_19 n K (nI N) (-1) τ else (F_X12_isWorth n (nI (k - 1)) (τ.1 269 k) τ).bind (fun u => L_X12_plays_19 n K (nI N) (nI (k - 1)) u)
theorem m1_p {k : Nat} (h : 0 < k) : nI k + (-1 : Int32) = nI (k - 1) := by
  rw [← Int32.sub_eq_add_neg]
  exact nI_sub (b := 1) h
end K21
