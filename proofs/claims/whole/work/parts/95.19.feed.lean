/-! The calls feed and end. -/
def btM (x : Int32) (k : Nat) : Int32 := vp_nar .byte ((x >>> (nI k &&& 31)).toInt8.toInt32)
theorem byt_nar (y : Int32) : byt (vp_nar .byte y) := by
  refine ⟨y.toInt8.toBitVec.toNat, y.toInt8.toBitVec.isLt, ?_⟩
  have e : vp_nar .byte y = y.toInt8.toInt32 := rfl
  rw [e]
  congr 1
  apply Int8.toBitVec_inj.mp
  show _ = BitVec.ofNat 8 _
  simp
theorem sh_alike (x : Int32) (k : Nat) (hk : k = 24 ∨ k = 16 ∨ k = 8 ∨ k = 0) : (((x.toUInt32 >>> ((nI k).toUInt32 &&& Int32.toUInt32 31)).toInt32).toInt8) = (x >>> (nI k &&& 31)).toInt8 := by
  apply Int8.toBitVec_inj.mp
  have e1 : ((x.toUInt32 >>> ((nI k).toUInt32 &&& Int32.toUInt32 31)).toInt32).toBitVec = x.toBitVec >>> k := by
    rcases hk with e | e | e | e <;> subst e <;> rfl
  have e2 : (x >>> (nI k &&& 31)).toBitVec = x.toBitVec.sshiftRight k := by
    rcases hk with e | e | e | e <;> subst e <;> rfl
  show BitVec.signExtend 8 ((x.toUInt32 >>> ((nI k).toUInt32 &&& Int32.toUInt32 31)).toInt32).toBitVec = BitVec.signExtend 8 (x >>> (nI k &&& 31)).toBitVec
  rw [e1, e2]
  apply BitVec.eq_of_getLsbD_eq
  intro i hi
  rw [BitVec.getLsbD_signExtend, BitVec.getLsbD_signExtend, BitVec.getLsbD_ushiftRight, BitVec.getLsbD_sshiftRight]
  have h1 : i < 32 := by omega
  have h2 : k + i < 32 := by omega
  rw [if_pos h1, if_pos h1, if_pos h2, decide_eq_true hi, decide_eq_false (show ¬ 32 ≤ i by omega)]
  rfl
section FD
variable {n : Nat}
def upB (B : Nat → Int32) (p : Nat) (v : Int32) : Nat → Int32 := fun i => if i = p then v else B i
theorem X_apnd {σ : PS} {B : Nat → Int32} {sz k : Nat} (h : TpX σ B sz) (hs : sz < 400) (x : Int32) (v : Int32) : TpX (psI (psI σ 2 sz v) 1 1 (nI (sz + 1))) (upB B sz v) (sz + 1) ∧ agr [1, 2] σ (psI (psI σ 2 sz v) 1 1 (nI (sz + 1))) := by
  obtain ⟨h1, h2, h3⟩ := h
  refine ⟨⟨?_, by rw [psI_eq, if_pos rfl], by omega⟩, agr_trans (agr_psI (by simp)) (agr_psI (by simp))⟩
  rw [psI_other (by decide)]
  funext i
  rw [psI_eq, h1]
  rfl
theorem M_apnd {σ : PS} {B : Nat → Int32} {sz : Nat} (h : TpM σ B sz) (hs : sz < 400) (v : Int32) : TpM (psI (psI σ 250 sz v) 249 1 (nI (sz + 1))) (upB B sz v) (sz + 1) ∧ agm [250] [1] σ (psI (psI σ 250 sz v) 249 1 (nI (sz + 1))) := by
  obtain ⟨h1, h2, h3⟩ := h
  refine ⟨⟨?_, by rw [psI_eq, if_pos rfl], by omega⟩, agm_trans (agm_psI (by simp) (by decide)) (agm_fld (by simp))⟩
  rw [psI_other (by decide)]
  funext i
  rw [psI_eq, h1]
  rfl
def fdB (B : Nat → Int32) (sz : Nat) (x : Int32) : Nat → Int32 := upB (upB (upB (upB B sz (btM x 24)) (sz + 1) (btM x 16)) (sz + 1 + 1) (btM x 8)) (sz + 1 + 1 + 1) (btM x 0)
theorem fdB_byt {B : Nat → Int32} (h : ∀ i, byt (B i)) (sz : Nat) (x : Int32) : ∀ i, byt (fdB B sz x i) := by
  have up : ∀ (C : Nat → Int32) (p : Nat) (k : Nat), (∀ i, byt (C i)) → ∀ i, byt (upB C p (btM x k) i) := by
    intro C p k hC i
    unfold upB
    split
    · exact byt_nar _
    · exact hC i
  exact up _ _ _ (up _ _ _ (up _ _ _ (up _ _ _ h)))
theorem X_app1 {σ : PS} {B : Nat → Int32} {sz k s : Nat} (h : TpX σ B sz) (hs : sz < 400) (x : Int32) (hk : s = 24 ∨ s = 16 ∨ s = 8 ∨ s = 0) : ∃ τ, L_X9_append_3 n (k + 1) x (nI s) σ = L_X9_append_3 n k x (nI s + (-8)) τ ∧ TpX τ (upB B sz (btM x s)) (sz + 1) ∧ agr [1, 2] σ τ := by
  have h2 := h.2.1
  have hneg : ¬ nI s < (0 : Int32) := nI_n0 (by omega)
  rw [L_X9_append_3, if_neg hneg, h2, if_neg (show ¬ (400 : Int32) ≤ nI sz from nI_ge (show sz < 400 from hs) (by decide)), nI_clamp (by omega), if_pos ⟨nI_pos' (by omega), hs⟩, sh_alike x s hk]
  have e : (psI σ 2 sz (vp_nar .byte ((x >>> (nI s &&& 31)).toInt8.toInt32))).1 1 1 = nI sz := by rw [psI_other (by decide)]; exact h2
  rw [e, nI_p1]
  obtain ⟨a, b⟩ := X_apnd (k := k) h hs x (btM x s)
  exact ⟨_, rfl, a, b⟩
theorem X_append (hn : 1000 ≤ n) {σ : PS} {B : Nat → Int32} {sz : Nat} (h : TpX σ B sz) (hs : sz + 4 ≤ 400) (x : Int32) : ∃ τ, F_X9_append n x σ = some τ ∧ TpX τ (fdB B sz x) (sz + 4) ∧ agr [1, 2] σ τ := by
  obtain ⟨k, hk⟩ : ∃ k, n = k + 1 + 1 + 1 + 1 + 1 := ⟨n - 5, by omega⟩
  obtain ⟨τ1, a1, a2, a3⟩ := X_app1 (n := n) (k := k + 1 + 1 + 1 + 1) (s := 24) h (by omega) x (Or.inl rfl)
  obtain ⟨τ2, b1, b2, b3⟩ := X_app1 (n := n) (k := k + 1 + 1 + 1) (s := 16) a2 (by omega) x (Or.inr (Or.inl rfl))
  obtain ⟨τ3, c1, c2, c3⟩ := X_app1 (n := n) (k := k + 1 + 1) (s := 8) b2 (by omega) x (Or.inr (Or.inr (Or.inl rfl)))
  obtain ⟨τ4, d1, d2, d3⟩ := X_app1 (n := n) (k := k + 1) (s := 0) c2 (by omega) x (Or.inr (Or.inr (Or.inr rfl)))
  have e : L_X9_append_3 n n x 24 σ = some τ4 := by
    have s1 : L_X9_append_3 n n x 24 σ = L_X9_append_3 n (k + 1 + 1 + 1 + 1 + 1) x (nI 24) σ := by rw [← hk]; rfl
    rw [s1, a1, show nI 24 + (-8) = nI 16 by decide, b1, show nI 16 + (-8) = nI 8 by decide, c1, show nI 8 + (-8) = nI 0 by decide, d1, L_X9_append_3, if_pos (by decide)]
  unfold F_X9_append
  rw [e]
  exact ⟨τ4, rfl, d2, agr_trans a3 (agr_trans b3 (agr_trans c3 d3))⟩
theorem M_app1 {σ : PS} {B : Nat → Int32} {sz k s : Nat} (h : TpM σ B sz) (hs : sz < 400) (x : Int32) (hk : s = 24 ∨ s = 16 ∨ s = 8 ∨ s = 0) : ∃ τ, L_X12_four_3 n (k + 1) x (nI s) σ = L_X12_four_3 n k x (nI s + (-8)) τ ∧ TpM τ (upB B sz (btM x s)) (sz + 1) ∧ agm [250] [1] σ τ := by
  have h2 := h.2.1
  have hneg : ¬ nI s < (0 : Int32) := nI_n0 (by omega)
  rw [L_X12_four_3, if_neg hneg, h2, nI_clamp (by omega), if_pos ⟨nI_pos' (by omega), hs⟩]
  have e : (psI σ 250 sz (vp_nar .byte ((x >>> (nI s &&& 31)).toInt8.toInt32))).1 249 1 = nI sz := by rw [psI_other (by decide)]; exact h2
  rw [e, nI_p1]
  obtain ⟨a, b⟩ := M_apnd h hs (btM x s)
  exact ⟨_, rfl, a, b⟩
theorem M_four (hn : 1000 ≤ n) {σ : PS} {B : Nat → Int32} {sz : Nat} (h : TpM σ B sz) (hs : sz + 4 ≤ 400) (x : Int32) : ∃ τ, F_X12_four n x σ = some τ ∧ TpM τ (fdB B sz x) (sz + 4) ∧ agm [250] [1] σ τ := by
  obtain ⟨k, hk⟩ : ∃ k, n = k + 1 + 1 + 1 + 1 + 1 := ⟨n - 5, by omega⟩
  obtain ⟨τ1, a1, a2, a3⟩ := M_app1 (n := n) (k := k + 1 + 1 + 1 + 1) (s := 24) h (by omega) x (Or.inl rfl)
  obtain ⟨τ2, b1, b2, b3⟩ := M_app1 (n := n) (k := k + 1 + 1 + 1) (s := 16) a2 (by omega) x (Or.inr (Or.inl rfl))
  obtain ⟨τ3, c1, c2, c3⟩ := M_app1 (n := n) (k := k + 1 + 1) (s := 8) b2 (by omega) x (Or.inr (Or.inr (Or.inl rfl)))
  obtain ⟨τ4, d1, d2, d3⟩ := M_app1 (n := n) (k := k + 1) (s := 0) c2 (by omega) x (Or.inr (Or.inr (Or.inr rfl)))
  have e : L_X12_four_3 n n x 24 σ = some τ4 := by
    have s1 : L_X12_four_3 n n x 24 σ = L_X12_four_3 n (k + 1 + 1 + 1 + 1 + 1) x (nI 24) σ := by rw [← hk]; rfl
    rw [s1, a1, show nI 24 + (-8) = nI 16 by decide, b1, show nI 16 + (-8) = nI 8 by decide, c1, show nI 8 + (-8) = nI 0 by decide, d1, L_X12_four_3, if_pos (by decide)]
  unfold F_X12_four
  rw [e]
  exact ⟨τ4, rfl, d2, agm_trans a3 (agm_trans b3 (agm_trans c3 d3))⟩
def fd5 (B : Nat → Int32) (sz : Nat) (a b c d e : Int32) : Nat → Int32 := fdB (fdB (fdB (fdB (fdB B sz a) (sz + 4) b) (sz + 4 + 4) c) (sz + 4 + 4 + 4) d) (sz + 4 + 4 + 4 + 4) e
theorem fd5_byt {B : Nat → Int32} (h : ∀ i, byt (B i)) (sz : Nat) (a b c d e : Int32) : ∀ i, byt (fd5 B sz a b c d e i) := fdB_byt (fdB_byt (fdB_byt (fdB_byt (fdB_byt h _ _) _ _) _ _) _ _) _ _
theorem O_feed_X (hn : 1000 ≤ n) {σ : PS} {B : Nat → Int32} {sz : Nat} (h : TpX σ B sz) (a b c d e : Int32) : ∃ τ, F_X11_feed n a b c d e σ = some (if sz + 20 ≤ 400 then nI (sz + 20) else -1, τ) ∧ TpX τ (if sz + 20 ≤ 400 then fd5 B sz a b c d e else B) (if sz + 20 ≤ 400 then sz + 20 else sz) ∧ agr [1, 2] σ τ := by
  have h3 := h.2.2
  unfold F_X11_feed F_X9_hasRoom
  have e20 : nI sz + (20 : Int32) = nI (sz + 20) := nI_add sz 20
  rw [h.2.1, e20]
  by_cases z : sz + 20 ≤ 400
  · rw [if_neg (show ¬ (400 : Int32) < nI (sz + 20) from nI_nlt (show sz + 20 ≤ 400 from z) (by decide)), Option.bind_some, if_neg ne10, if_pos z, if_pos z, if_pos z]
    obtain ⟨τ1, a1, a2, a3⟩ := X_append hn h (by omega) a
    obtain ⟨τ2, b1, b2, b3⟩ := X_append hn a2 (by omega) b
    obtain ⟨τ3, c1, c2, c3⟩ := X_append hn b2 (by omega) c
    obtain ⟨τ4, d1, d2, d3⟩ := X_append hn c2 (by omega) d
    obtain ⟨τ5, e1, e2, e3⟩ := X_append hn d2 (by omega) e
    show ∃ τ, (F_X9_append n a σ).bind _ = some _ ∧ _
    rw [a1, Option.bind_some, b1, Option.bind_some, c1, Option.bind_some, d1, Option.bind_some, e1, Option.bind_some, e2.2.1]
    exact ⟨τ5, rfl, e2, agr_trans a3 (agr_trans b3 (agr_trans c3 (agr_trans d3 e3)))⟩
  · rw [if_pos (show (400 : Int32) < nI (sz + 20) from nI_lt (show 400 < sz + 20 by omega) (by omega)), Option.bind_some, if_pos rfl, if_neg z, if_neg z, if_neg z]
    exact ⟨σ, rfl, h, agr_refl⟩
theorem O_feed_M (hn : 1000 ≤ n) {σ : PS} {B : Nat → Int32} {sz : Nat} (h : TpM σ B sz) (a b c d e : Int32) : ∃ τ, F_X12_feed n a b c d e σ = some (if sz + 20 ≤ 400 then nI (sz + 20) else -1, τ) ∧ TpM τ (if sz + 20 ≤ 400 then fd5 B sz a b c d e else B) (if sz + 20 ≤ 400 then sz + 20 else sz) ∧ agm [250] [1] σ τ := by
  have h3 := h.2.2
  unfold F_X12_feed
  have e20 : nI sz + (20 : Int32) = nI (sz + 20) := nI_add sz 20
  rw [h.2.1, e20]
  by_cases z : sz + 20 ≤ 400
  · rw [if_pos (show nI (sz + 20) ≤ (400 : Int32) from nI_le (show sz + 20 ≤ 400 from z) (by decide)), if_pos z, if_pos z, if_pos z]
    obtain ⟨τ1, a1, a2, a3⟩ := M_four hn h (by omega) a
    obtain ⟨τ2, b1, b2, b3⟩ := M_four hn a2 (by omega) b
    obtain ⟨τ3, c1, c2, c3⟩ := M_four hn b2 (by omega) c
    obtain ⟨τ4, d1, d2, d3⟩ := M_four hn c2 (by omega) d
    obtain ⟨τ5, e1, e2, e3⟩ := M_four hn d2 (by omega) e
    rw [a1, Option.bind_some, b1, Option.bind_some, c1, Option.bind_some, d1, Option.bind_some, e1, Option.bind_some, e2.2.1]
    exact ⟨τ5, rfl, e2, agm_trans a3 (agm_trans b3 (agm_trans c3 (agm_trans d3 e3)))⟩
  · rw [if_neg (show ¬ nI (sz + 20) ≤ (400 : Int32) from nI_ge (show 400 < sz + 20 by omega) (by omega)), if_neg z, if_neg z, if_neg z]
    exact ⟨σ, rfl, h, agm_refl⟩
theorem O_end_X {σ : PS} {B : Nat → Int32} {sz : Nat} (h : TpX σ B sz) (x : Int32) : (∃ k, k ≤ sz ∧ x = nI k ∧ F_X11_end n x σ = some (x, psI σ 1 1 x)) ∨ ((x < 0 ∨ nI sz < x) ∧ F_X11_end n x σ = some (-1, σ)) := by
  have h3 := h.2.2
  unfold F_X11_end
  by_cases z : x < 0
  · rw [if_pos z]; exact Or.inr ⟨Or.inl z, rfl⟩
  · obtain ⟨k, hk, e⟩ := nI_of z
    subst e
    rw [if_neg z, h.2.1]
    by_cases zk : k ≤ sz
    · rw [if_pos (nI_le zk (by omega))]; exact Or.inl ⟨k, zk, rfl, rfl⟩
    · rw [if_neg (nI_ge (by omega) (by omega))]; exact Or.inr ⟨Or.inr (nI_lt (by omega) hk), rfl⟩
theorem O_end_M {σ : PS} {B : Nat → Int32} {sz : Nat} (h : TpM σ B sz) (x : Int32) : (∀ k, k ≤ sz → x = nI k → F_X12_end n x σ = some (x, psI σ 249 1 x)) ∧ ((x < 0 ∨ nI sz < x) → F_X12_end n x σ = some (-1, σ)) := by
  have h3 := h.2.2
  refine ⟨fun k hk e => ?_, fun q => ?_⟩
  · subst e
    unfold F_X12_end
    rw [if_neg (show ¬ nI k < (0 : Int32) from nI_n0 (by omega)), h.2.1, if_pos (nI_le hk (by omega))]
  · unfold F_X12_end
    by_cases z : x < 0
    · rw [if_pos z]
    · obtain ⟨k, hk, e⟩ := nI_of z
      subst e
      rw [if_neg z, h.2.1]
      rcases q with q | q
      · exact absurd q z
      · rw [if_neg (fun w => by
          have h1 := (nI_ltI (a := sz) (b := k) (by omega) hk).mp q
          have h2 := (nI_leI (a := k) (b := sz) hk (by omega)).mp w
          omega)]
end FD
