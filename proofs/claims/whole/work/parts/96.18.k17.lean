/-! ruled, look: both sides alike, to the end. -/
section K17
variable {B : Nat → Int32} {sz z h p : Nat} {cs : Nat → List CL} {S S' : Nat → Nat} {H : Nat → Nat → Nat} {fo x : Int32} {im : Nat → Option IMG} {σ τ : PS} {n : Nat}
noncomputable def cnF (cs : Nat → List CL) (S : Nat → Nat) (z : Nat) : Nat → Nat
  | 0 => 0
  | k + 1 => if flB cs S z k = true then cnF cs S z k + 1 else cnF cs S z k
noncomputable def fsU (cs : Nat → List CL) (S : Nat → Nat) (z : Nat) : Nat → Option Nat
  | 0 => none
  | k + 1 => match fsU cs S z k with
    | some r => some r
    | none => if flB cs S z k = true then some k else none
theorem fl_hi {k : Nat} (h : z < k) : flB cs S z k = false := by
  unfold flB
  rw [show decide (k ≤ z) = false from decide_eq_false (by omega), Bool.false_and]
theorem cnF_hi : ∀ k, z + 1 ≤ k → cnF cs S z k = cnF cs S z (z + 1)
  | 0, h => by omega
  | k + 1, h => by
    by_cases e : k = z
    · rw [e]
    · show (if flB cs S z k = true then _ else cnF cs S z k) = _
      rw [fl_hi (by omega), if_neg (by decide)]
      exact cnF_hi k (by omega)
theorem fsU_hi : ∀ k, z + 1 ≤ k → fsU cs S z k = fsU cs S z (z + 1)
  | 0, h => by omega
  | k + 1, h => by
    by_cases e : k = z
    · rw [e]
    · have ih := fsU_hi k (by omega)
      show (match fsU cs S z k with | some r => some r | none => if flB cs S z k = true then some k else none) = _
      rw [fl_hi (by omega), if_neg (by decide), ih]
      cases fsU cs S z (z + 1) <;> rfl
theorem flI_0 {r : Nat} : flI cs S z r = 0 ↔ ¬ flB cs S z r = true := by
  unfold flI
  by_cases q : flB cs S z r = true
  · rw [if_pos q]; exact ⟨fun w => absurd w (by decide), fun w => absurd q w⟩
  · rw [if_neg q]; exact ⟨fun _ => q, fun _ => rfl⟩
theorem X_fit4 (hF : ∀ q, q < 7 → σ.1 239 q = flI cs S z q) : ∀ (m K k : Nat), k + m = 7 → m < K → L_X8_fitting_4 n K (nI (cnF cs S z k)) (nI k) σ = some (nI (cnF cs S z 7), σ)
  | _, 0, k, hk, hK => by omega
  | 0, K + 1, k, hk, hK => by
    rw [L_X8_fitting_4, if_pos (show (7 : Int32) ≤ nI k from nI_le (show 7 ≤ k by omega) (by omega)), show k = 7 by omega]
  | m + 1, K + 1, k, hk, hK => by
    have ih := X_fit4 hF m K (k + 1) (by omega) (by omega)
    rw [L_X8_fitting_4, if_neg (show ¬ (7 : Int32) ≤ nI k from nI_ge (show k < 7 by omega) (by decide)), nI_clamp (by omega), if_pos ⟨nI_pos' (by omega), by omega⟩, hF k (by omega), nI_1, nI_1]
    rw [show cnF cs S z (k + 1) = if flB cs S z k = true then cnF cs S z k + 1 else cnF cs S z k from rfl] at ih
    by_cases q : flB cs S z k = true
    · rw [if_pos q] at ih
      rw [if_neg (fun w => flI_0.mp w q)]
      exact ih
    · rw [if_neg q] at ih
      rw [if_pos (flI_0.mpr q)]
      exact ih
theorem X_fitting (hn : 100 ≤ n) (hF : ∀ q, q < 7 → σ.1 239 q = flI cs S z q) : F_X8_fitting n σ = some (nI (cnF cs S z 7), σ) := by
  unfold F_X8_fitting
  rw [show L_X8_fitting_4 n n (0 : Int32) (0 : Int32) σ = _ from X_fit4 hF 7 n 0 (by omega) (by omega), Option.bind_some]
theorem X_ff2 (hF : ∀ q, q < 7 → σ.1 239 q = flI cs S z q) : ∀ (m K k : Nat), fsU cs S z k = none → k + m = 7 → m < K → L_X8_firstFitting_2 n K (nI k) σ = some (match fsU cs S z 7 with | none => (1, 0, σ) | some r => (0, nI r, σ))
  | _, 0, k, h0, hk, hK => by omega
  | 0, K + 1, k, h0, hk, hK => by
    have : k = 7 := by omega
    subst this
    rw [L_X8_firstFitting_2, if_pos (by decide), h0]
  | m + 1, K + 1, k, h0, hk, hK => by
    rw [L_X8_firstFitting_2, if_neg (show ¬ (7 : Int32) ≤ nI k from nI_ge (show k < 7 by omega) (by decide)), nI_clamp (by omega), if_pos ⟨nI_pos' (by omega), by omega⟩, hF k (by omega), nI_1]
    have es : fsU cs S z (k + 1) = if flB cs S z k = true then some k else none := by
      show (match fsU cs S z k with | some r => some r | none => if flB cs S z k = true then some k else none) = _
      rw [h0]
    by_cases q : flB cs S z k = true
    · rw [if_pos q] at es
      rw [if_neg (fun w => flI_0.mp w q)]
      have up : ∀ j, fsU cs S z (k + 1 + j) = some k := by
        intro j
        induction j with
        | zero => exact es
        | succ j ih =>
          show (match fsU cs S z (k + 1 + j) with | some r => some r | none => if flB cs S z (k + 1 + j) = true then some (k + 1 + j) else none) = _
          rw [ih]
      have := up (6 - k)
      rw [show k + 1 + (6 - k) = 7 by omega] at this
      rw [this]
    · rw [if_neg q] at es
      rw [if_pos (flI_0.mpr q)]
      exact X_ff2 hF m K (k + 1) es (by omega) (by omega)
theorem X_firstFit (hn : 100 ≤ n) (hF : ∀ q, q < 7 → σ.1 239 q = flI cs S z q) : F_X8_firstFitting n σ = some (match fsU cs S z 7 with | none => -2 | some r => nI r - 1, σ) := by
  unfold F_X8_firstFitting
  rw [show L_X8_firstFitting_2 n n (0 : Int32) σ = _ from X_ff2 hF 7 n 0 rfl (by omega) (by omega), Option.bind_some]
  cases fsU cs S z 7 <;> rfl
theorem M_ruled35 {w : Int32} (hF : ∀ q, q < 7 → q ≤ z → σ.1 271 q = flI cs S z q) : ∀ (m K : Nat) (a b : Int32), m ≤ 7 → m ≤ z + 1 → m < K → L_X12_ruled_35 n K w a b (nI m - 1) σ = some (w, a + nI (cnF cs S z m), match fsU cs S z m with | none => b | some r => nI r - 1, σ)
  | _, 0, a, b, h7, hz, hK => by omega
  | 0, K + 1, a, b, h7, hz, hK => by
    rw [L_X12_ruled_35, if_pos (show nI 0 - 1 < 0 by decide)]
    show _ = some (w, a + nI 0, b, σ)
    rw [show a + nI 0 = a from Int32.add_zero _]
  | m + 1, K + 1, a, b, h7, hz, hK => by
    have e1 : nI (m + 1) - 1 = nI m := nI_pred _
    rw [e1, L_X12_ruled_35, if_neg (show ¬ nI m < 0 from nI_n0 (by omega)), nI_clamp (by omega), if_pos ⟨nI_pos' (by omega), by omega⟩, hF m (by omega) (by omega), show nI m + (-1 : Int32) = nI m - 1 by rw [Int32.sub_eq_add_neg]]
    by_cases q : flB cs S z m = true
    · rw [if_neg (fun w => flI_0.mp w q), M_ruled35 hF m K (a + 1) (nI m - 1) (by omega) (by omega) (by omega)]
      have e2 : a + 1 + nI (cnF cs S z m) = a + nI (cnF cs S z (m + 1)) := by
        show _ = a + nI (if flB cs S z m = true then cnF cs S z m + 1 else cnF cs S z m)
        rw [if_pos q, ← nI_1, Int32.add_assoc, Int32.add_comm 1]
      rw [e2]
      congr 3
      show _ = (match (match fsU cs S z m with | some r => some r | none => if flB cs S z m = true then some m else none) with | none => b | some r => nI r - 1, σ)
      rw [if_pos q]
      cases fsU cs S z m <;> rfl
    · rw [if_pos (flI_0.mpr q), M_ruled35 hF m K a b (by omega) (by omega) (by omega)]
      have e2 : cnF cs S z (m + 1) = cnF cs S z m := if_neg q
      rw [e2]
      congr 3
      show _ = (match (match fsU cs S z m with | some r => some r | none => if flB cs S z m = true then some m else none) with | none => b | some r => nI r - 1, σ)
      rw [if_neg q]
      cases fsU cs S z m <;> rfl
theorem K_ruled (hn : 3000 ≤ n) (a : Int32) (hi : Inv σ) : Kok (F_X11_ruled n a) (F_X12_ruled n a) σ := by
  obtain ⟨B, sz, z, cs, S, h, p, H, fo, x, im, hg, hx, hm⟩ := hi
  rcases id hg.2.2.1 with q | hc
  · refine K_noC hg hx hm (-3) (fun τ hr => ?_) (fun τ hr => ?_)
    · unfold F_X11_ruled; rw [X_pitched hr (by rw [q]; decide), Option.bind_some, if_pos (q 1), if_pos rfl]
    · unfold F_X12_ruled; rw [M_isCamp hr (by rw [q]; decide), Option.bind_some, if_neg (show ¬ S 0 = 1 by rw [q]; decide), if_pos rfl]
  obtain ⟨c0, cw, cb, c10, c178, cnt, chi⟩ := id hc
  have h1 := cw.1
  have h1' := cw.2.1
  have hs1 : ¬ S 1 = 0 := by omega
  have hz := hg.2.1
  rcases rng a 0 1 (by decide) with ⟨w, _, hw2, hw31, e⟩ | hout | q
  rotate_left
  · refine K_noC hg hx hm (-3) (fun τ hr => ?_) (fun τ hr => ?_)
    · unfold F_X11_ruled
      rw [X_pitched hr (by omega), Option.bind_some, if_neg hs1, if_neg ne10]
      by_cases w : a < 0
      · rw [if_pos w]
      · rw [if_neg w, if_neg (show ¬ a ≤ (1 : Int32) from Int32.not_le.mpr (lt_of_out hout w))]
    · unfold F_X12_ruled
      rw [M_isCamp hr (by omega), Option.bind_some, if_pos c0, if_neg ne10, show (0 : Int64) = lN 0 from rfl, show (1 : Int64) = lN 1 from rfl, M_in_out (by decide) (by decide) hout, Option.bind_some, if_pos rfl]
  · exact absurd q (by decide)
  subst e
  have pc1 : ¬ nI w < (0 : Int32) := nI_n0 (by omega)
  have pc2 : nI w ≤ (1 : Int32) := nI_le (show w ≤ 1 from hw2) (by decide)
  have hR := hx.2.2.2.1.1
  obtain ⟨τ1, a1, a2, a3⟩ := X_trace (n := n) hn hg hx hc
  refine K_ask hg hx hm (if nI w = (0 : Int32) then nI (cnF cs S z 7) else match fsU cs S z 7 with | none => -2 | some r => nI r - 1) ⟨τ1, ?_, sX_agx a3 (by decide)⟩ (fun τ hm1 => ?_)
  · unfold F_X11_ruled
    rw [X_pitched hR (by omega), Option.bind_some, if_neg hs1, if_neg ne10, if_neg pc1, if_pos pc2]
    show (F_X8_trace n 18 σ).bind _ = _
    rw [a1, Option.bind_some]
    by_cases w0 : nI w = (0 : Int32)
    · rw [if_pos w0, if_pos w0, X_fitting (by omega) a2.1, Option.bind_some]
    · rw [if_neg w0, if_neg w0, X_firstFit (by omega) a2.1, Option.bind_some]
  · obtain ⟨υ, b1, b2, b3, b4⟩ := M_fills (n := n) hn hg hc hm1
    refine ⟨υ, ?_, b4⟩
    unfold F_X12_ruled
    rw [M_isCamp hm1.2.2.2.1 (by omega), Option.bind_some, if_pos c0, if_neg ne10, show (0 : Int64) = lN 0 from rfl, show (1 : Int64) = lN 1 from rfl, M_in_in (by decide) (by decide) hw31 (by omega) hw2, Option.bind_some, if_neg ne10]
    show (F_X12_fillsFits n τ).bind _ = _
    rw [b1, Option.bind_some, b3]
    have lp := M_ruled35 (n := n) (w := nI w) (cs := cs) (S := S) (z := z) (σ := υ) (fun q _ hq => b2.1 q (by omega)) (z + 1) n 0 (-2) (by omega) (by omega) (by omega)
    rw [show nI (z + 1) - 1 = nI z from nI_pred _, cnF_hi (z + 1) (by omega), ← cnF_hi (cs := cs) (S := S) (z := z) 7 (by omega), ← fsU_hi (cs := cs) (S := S) (z := z) 7 (by omega), Int32.zero_add] at lp
    rw [lp, Option.bind_some]
    by_cases w0 : nI w = (0 : Int32)
    · rw [if_pos w0, if_pos w0]
    · rw [if_neg w0, if_neg w0]
end K17
