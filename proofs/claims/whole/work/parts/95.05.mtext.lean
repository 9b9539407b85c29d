/-! The reference's leaves over a text. -/
def TM (σ : PS) (B : Nat → Int32) (sz p : Nat) (f : Int32) : Prop := σ.1 250 = B ∧ σ.1 249 1 = nI sz ∧ σ.1 249 8 = nI p ∧ σ.1 249 9 = f ∧ p ≤ sz ∧ sz ≤ 400
theorem TM_agm {σ τ : PS} {B : Nat → Int32} {sz p : Nat} {f : Int32} {T Fs : List Nat} (h : TM σ B sz p f) (ha : agm T Fs σ τ) (h0 : 250 ∉ T) (h1 : 1 ∉ Fs) (h2 : 8 ∉ Fs) (h3 : 9 ∉ Fs) : TM τ B sz p f := by
  unfold TM
  rw [(ha.1 250 h0 (by decide)).1, (ha.2 1 h1).1, (ha.2 8 h2).1, (ha.2 9 h3).1]
  exact h
theorem TM_p {σ : PS} {B : Nat → Int32} {sz p p' : Nat} {f : Int32} (h : TM σ B sz p f) (h2 : p' ≤ sz) : TM (psI σ 249 8 (nI p')) B sz p' f := by
  obtain ⟨a, b, c, d, e, g⟩ := h
  refine ⟨?_, ?_, ?_, ?_, h2, g⟩
  · rw [psI_other (by decide)]; exact a
  · rw [psI_eq, if_neg (by decide)]; exact b
  · rw [psI_eq, if_pos rfl]
  · rw [psI_eq, if_neg (by decide)]; exact d
theorem TM_f {σ : PS} {B : Nat → Int32} {sz p : Nat} {f v : Int32} (h : TM σ B sz p f) : TM (psI σ 249 9 v) B sz p v := by
  obtain ⟨a, b, c, d, e, g⟩ := h
  refine ⟨?_, ?_, ?_, ?_, e, g⟩
  · rw [psI_other (by decide)]; exact a
  · rw [psI_eq, if_neg (by decide)]; exact b
  · rw [psI_eq, if_neg (by decide)]; exact c
  · rw [psI_eq, if_pos rfl]
def pkv : List Nat → Nat → Nat
  | [], v => v
  | x :: l, v => pkv l (256 * v + x)
def rdF : Nat → Nat → List Nat
  | 0, _ => []
  | k + 1, v => if v = 0 then [] else (v % 256) :: rdF k (v / 256)
theorem rdF_0 : ∀ k, rdF k 0 = []
  | 0 => rfl
  | k + 1 => by unfold rdF; rw [if_pos rfl]
theorem rdF_pkv : ∀ (l : List Nat) (k v : Nat), (∀ x ∈ l, 97 ≤ x ∧ x ≤ 122) → rdF (l.length + k) (pkv l v) = l.reverse ++ rdF k v
  | [], k, v, h => by simp [pkv]
  | x :: l, k, v, h => by
    have hx := h x (by simp)
    unfold pkv
    rw [List.length_cons, show l.length + 1 + k = l.length + (k + 1) by omega, rdF_pkv l (k + 1) _ (fun y hy => h y (by simp [hy]))]
    rw [show rdF (k + 1) (256 * v + x) = x :: rdF k v by
      show (if 256 * v + x = 0 then [] else ((256 * v + x) % 256) :: rdF k ((256 * v + x) / 256)) = _
      rw [if_neg (by omega), show (256 * v + x) % 256 = x by omega, show (256 * v + x) / 256 = v by omega]]
    simp
theorem pkv_inj {l m : List Nat} (hl : ∀ x ∈ l, 97 ≤ x ∧ x ≤ 122) (hm : ∀ x ∈ m, 97 ≤ x ∧ x ≤ 122) (h : pkv l 0 = pkv m 0) : l = m := by
  have a := rdF_pkv l m.length 0 hl
  have b := rdF_pkv m l.length 0 hm
  rw [rdF_0, List.append_nil] at a b
  rw [h, show l.length + m.length = m.length + l.length by omega, b] at a
  exact (List.reverse_inj.mp a).symm
theorem pkv_lt : ∀ (l : List Nat) (v k : Nat), (∀ x ∈ l, 97 ≤ x ∧ x ≤ 122) → v < 256 ^ k → pkv l v < 256 ^ (k + l.length)
  | [], v, k, h, hv => by simpa [pkv] using hv
  | x :: l, v, k, h, hv => by
    have hx := h x (by simp)
    unfold pkv
    have := pkv_lt l (256 * v + x) (k + 1) (fun y hy => h y (by simp [hy])) (by rw [Nat.pow_succ]; omega)
    rw [List.length_cons, show k + (l.length + 1) = k + 1 + l.length by omega]
    exact this
section MT
variable {n : Nat} {B : Nat → Int32} {sz : Nat}
theorem M_see0 : ∀ (k p : Nat) (f : Int32) (σ : PS), TM σ B sz p f → sz < k + p → ∃ τ, L_X12_see_0 n k σ = some τ ∧ TM τ B sz (sk B sz p) f ∧ agm [] [8] σ τ
  | 0, p, f, σ, h, hk => by have := h.2.2.2.2.1; omega
  | k + 1, p, f, σ, h, hk => by
    obtain ⟨a, b, c, d, e, g⟩ := id h
    rw [L_X12_see_0, b, c]
    by_cases q : sz ≤ p
    · rw [if_pos (nI_le q (by omega)), sk_end q]
      exact ⟨σ, rfl, h, agm_refl⟩
    · rw [if_neg (nI_ge (by omega) (by omega)), nI_clamp (by omega), if_pos ⟨nI_pos' (by omega), by omega⟩, a]
      by_cases q2 : B p = 32
      · rw [if_pos q2, sk_lt (by omega), if_pos q2, nI_p1]
        obtain ⟨τ, t1, t2, t3⟩ := M_see0 k (p + 1) f _ (TM_p h (p' := p + 1) (by omega)) (by omega)
        exact ⟨τ, t1, t2, agm_trans (agm_fld (by simp)) t3⟩
      · rw [if_neg q2, sk_lt (by omega), if_neg q2]
        exact ⟨σ, rfl, h, agm_refl⟩
theorem M_see (hn : 1000 ≤ n) {p : Nat} {f : Int32} {σ : PS} (h : TM σ B sz p f) : ∃ τ, F_X12_see n σ = some (sg B sz (sk B sz p), τ) ∧ TM τ B sz (sk B sz p) f ∧ agm [] [8] σ τ := by
  have h400 := h.2.2.2.2.2
  obtain ⟨τ, t1, t2, t3⟩ := M_see0 (n := n) n p f σ h (by omega)
  have hle := t2.2.2.2.2.1
  unfold F_X12_see
  rw [t1, Option.bind_some, t2.2.1, t2.2.2.1]
  unfold sg
  by_cases q : sk B sz p < sz
  · rw [if_neg (nI_ge q (by omega)), nI_clamp (by omega), if_pos ⟨nI_pos' (by omega), by omega⟩, if_pos q, t2.1]
    exact ⟨τ, rfl, t2, t3⟩
  · rw [if_pos (nI_le (by omega) (by omega)), if_neg q]
    exact ⟨τ, rfl, t2, t3⟩
/-- behind the blanks nothing moves -/
theorem M_see' (hn : 1000 ≤ n) {p : Nat} {f : Int32} {σ : PS} (h : TM σ B sz p f) (hs : sk B sz p = p) : F_X12_see n σ = some (sg B sz p, σ) := by
  obtain ⟨a, b, c, d, e, g⟩ := id h
  obtain ⟨m, hm⟩ : ∃ m, n = m + 1 := ⟨n - 1, by omega⟩
  have h0 : L_X12_see_0 n n σ = some σ := by
    rw [hm, L_X12_see_0, b, c]
    by_cases q : sz ≤ p
    · rw [if_pos (nI_le q (by omega))]
    · rw [if_neg (nI_ge (by omega) (by omega)), nI_clamp (by omega), if_pos ⟨nI_pos' (by omega), by omega⟩, a]
      rw [sk_lt (by omega)] at hs
      by_cases q2 : B p = 32
      · rw [if_pos q2] at hs
        have := sk_ge B sz (p + 1)
        omega
      · rw [if_neg q2]
  unfold F_X12_see
  rw [h0, Option.bind_some, b, c]
  unfold sg
  by_cases q : p < sz
  · rw [if_neg (nI_ge q (by omega)), nI_clamp (by omega), if_pos ⟨nI_pos' (by omega), by omega⟩, if_pos q, a]
  · rw [if_pos (nI_le (by omega) (by omega)), if_neg q]
theorem M_isLetter {p q : Nat} {f : Int32} {σ : PS} (h : TM σ B sz p f) (hq : q ≤ sz) : F_X12_isLetter n (nI q) σ = some (if wl B sz q = [] then 0 else 1, σ) := by
  obtain ⟨a, b, c, d, e, g⟩ := id h
  unfold F_X12_isLetter
  rw [b]
  by_cases z : sz ≤ q
  · rw [if_pos (nI_le z (by omega)), wl_end z, if_pos rfl]
  · rw [if_neg (nI_ge (by omega) (by omega)), nI_clamp (by omega), if_pos ⟨nI_pos' (by omega), by omega⟩, a, wl_lt (by omega)]
    by_cases z1 : B q < 97
    · rw [if_pos z1, if_pos z1, if_pos rfl]
    rw [if_neg z1, if_neg z1]
    by_cases z2 : 122 < B q
    · rw [if_pos z2, if_pos z2, if_pos rfl]
    rw [if_neg z2, if_neg z2, if_neg (by simp)]
theorem M_isDigit {p q : Nat} {f : Int32} {σ : PS} (h : TM σ B sz p f) (hq : q ≤ sz) : F_X12_isDigit n (nI q) σ = some (if dg B sz q = 0 then 0 else 1, σ) := by
  obtain ⟨a, b, c, d, e, g⟩ := id h
  unfold F_X12_isDigit
  rw [b]
  by_cases z : sz ≤ q
  · rw [if_pos (nI_le z (by omega)), dg_end z, if_pos rfl]
  · rw [if_neg (nI_ge (by omega) (by omega)), nI_clamp (by omega), if_pos ⟨nI_pos' (by omega), by omega⟩, a, dg_lt (by omega)]
    by_cases z1 : B q < 48
    · rw [if_pos z1, if_pos z1, if_pos rfl]
    rw [if_neg z1, if_neg z1]
    by_cases z2 : 57 < B q
    · rw [if_pos z2, if_pos z2, if_pos rfl]
    rw [if_neg z2, if_neg z2, if_neg (by omega)]
theorem M_pass0 : ∀ (k p : Nat) (f : Int32) (σ : PS), TM σ B sz p f → sz < k + p → ∃ τ, L_X12_passWord_0 n k σ = some τ ∧ TM τ B sz (p + (wl B sz p).length) f ∧ agm [] [8] σ τ
  | 0, p, f, σ, h, hk => by have := h.2.2.2.2.1; omega
  | k + 1, p, f, σ, h, hk => by
    obtain ⟨a, b, c, d, e, g⟩ := id h
    rw [L_X12_passWord_0, c, M_isLetter h e, Option.bind_some]
    by_cases z : wl B sz p = []
    · simp only [z, if_true]
      exact ⟨σ, rfl, h, agm_refl⟩
    · simp only [z, if_false]
      rw [if_neg (by decide), c, nI_p1]
      have hlt : p < sz := by
        by_cases q : p < sz
        · exact q
        · exact absurd (wl_end (by omega)) z
      have hw : (wl B sz p).length = (wl B sz (p + 1)).length + 1 := by
        rw [wl_lt hlt] at z ⊢
        by_cases z1 : B p < 97
        · rw [if_pos z1] at z; exact absurd rfl z
        rw [if_neg z1] at z ⊢
        by_cases z2 : 122 < B p
        · rw [if_pos z2] at z; exact absurd rfl z
        rw [if_neg z2]; rfl
      obtain ⟨τ, t1, t2, t3⟩ := M_pass0 k (p + 1) f _ (TM_p h (p' := p + 1) (by omega)) (by omega)
      rw [hw, show p + ((wl B sz (p + 1)).length + 1) = p + 1 + (wl B sz (p + 1)).length by omega]
      exact ⟨τ, t1, t2, agm_trans (agm_fld (by simp)) t3⟩
theorem M_passWord (hn : 1000 ≤ n) {p : Nat} {f : Int32} {σ : PS} (h : TM σ B sz p f) : ∃ τ, F_X12_passWord n σ = some τ ∧ TM τ B sz (p + (wl B sz p).length) f ∧ agm [] [8] σ τ := by
  have h400 := h.2.2.2.2.2
  obtain ⟨τ, t1, t2, t3⟩ := M_pass0 (n := n) n p f σ h (by omega)
  unfold F_X12_passWord
  rw [t1]
  exact ⟨τ, rfl, t2, t3⟩
theorem M_isW10 {p : Nat} {f : Int32} {σ : PS} {x1 : Int64} (h : TM σ B sz p f) : ∀ (k j v : Nat), p + j ≤ sz → j + (wl B sz (p + j)).length = (wl B sz p).length → sz < k + (p + j) → (j ≤ 8 → v < 256 ^ j) → ∃ x3, L_X12_isWord_10 n k x1 (lN v) (nI j) σ = some (x1, x3, nI (wl B sz p).length, σ) ∧ ((wl B sz p).length < 8 → x3 = lN (pkv (wl B sz (p + j)) v))
  | 0, j, v, hj, hl, hk, hv => by omega
  | k + 1, j, v, hj, hl, hk, hv => by
    obtain ⟨a, b, c, d, e, g⟩ := id h
    rw [L_X12_isWord_10, c, nI_add, M_isLetter h hj, Option.bind_some]
    by_cases z : wl B sz (p + j) = []
    · simp only [z, if_true]
      rw [z] at hl
      simp only [List.length_nil, Nat.add_zero] at hl
      rw [← hl]
      exact ⟨_, rfl, fun _ => rfl⟩
    · simp only [z, if_false]
      rw [if_neg (by decide)]
      have hlt : p + j < sz := by
        by_cases q : p + j < sz
        · exact q
        · exact absurd (wl_end (by omega)) z
      have hh : ∃ y, B (p + j) = nI y ∧ 97 ≤ y ∧ y ≤ 122 ∧ wl B sz (p + j) = y :: wl B sz (p + j + 1) := by
        rw [wl_lt hlt] at z ⊢
        by_cases z1 : B (p + j) < 97
        · rw [if_pos z1] at z; exact absurd rfl z
        rw [if_neg z1] at z ⊢
        by_cases z2 : 122 < B (p + j)
        · rw [if_pos z2] at z; exact absurd rfl z
        rw [if_neg z2]
        have := letter_nI z1 z2
        exact ⟨_, this.1, this.2.1, this.2.2, rfl⟩
      obtain ⟨y, y1, y2, y3, y4⟩ := hh
      rw [y4, List.length_cons] at hl
      by_cases z8 : 8 ≤ j
      · rw [if_pos (show (8 : Int32) ≤ nI j from nI_le (show 8 ≤ j from z8) (by omega)), nI_1]
        obtain ⟨x3, q1, q2⟩ := M_isW10 h k (j + 1) v (by omega) (by rw [show p + (j + 1) = p + j + 1 by omega]; omega) (by omega) (fun q => by omega)
        exact ⟨x3, q1, fun q => by omega⟩
      · rw [if_neg (show ¬ (8 : Int32) ≤ nI j from nI_ge (show j < 8 by omega) (by decide)), c, nI_add, nI_clamp (by omega), if_pos ⟨nI_pos' (by omega), by omega⟩, a, y1, nI_1, nI_l (by omega)]
        have hv' := hv (by omega)
        have p8 : 256 ^ j ≤ 256 ^ 7 := Nat.pow_le_pow_right (by decide) (by omega)
        have e1 : lN v <<< ((8 : Int32).toInt64 &&& 63) = lN (v * 2 ^ 8) := wb_shl v (k := 8) (by decide)
        have e2 : v * 2 ^ 8 ||| y = 256 * v + y := by
          have := Nat.two_pow_add_eq_or_of_lt (b := y) (i := 8) (by omega) v
          rw [Nat.mul_comm v, ← this]
        rw [e1, wb_or (by omega) (by omega), e2]
        obtain ⟨x3, q1, q2⟩ := M_isW10 h k (j + 1) (256 * v + y) (by omega) (by rw [show p + (j + 1) = p + j + 1 by omega]; omega) (by omega) (fun _ => by rw [Nat.pow_succ]; omega)
        exact ⟨x3, q1, fun q => by rw [q2 q, y4]; rfl⟩
/-- the word here -/
theorem M_isWord' (hn : 1000 ≤ n) {p : Nat} {f : Int32} {σ : PS} (h : TM σ B sz p f) (hs : sk B sz p = p) {l : List Nat} {w : Int64} (hl : ∀ x ∈ l, 97 ≤ x ∧ x ≤ 122) (h0 : 0 < l.length) (h8 : l.length < 8) (hw : w = lN (pkv l 0)) : F_X12_isWord n w σ = some (if wl B sz p = l then 1 else 0, σ) := by
  obtain ⟨a, b, c, d, e, g⟩ := id h
  have hlen := wl_len (B := B) e
  unfold F_X12_isWord
  rw [M_see' hn h hs, Option.bind_some]
  obtain ⟨x3, q1, q2⟩ := M_isW10 (n := n) (x1 := w) h n 0 0 (by omega) (by rw [Nat.add_zero]; omega) (by omega) (fun _ => by decide)
  rw [Nat.add_zero] at q2
  show (L_X12_isWord_10 n n w (lN 0) (nI 0) σ).bind _ = _
  rw [q1, Option.bind_some]
  show (if nI (wl B sz p).length ≤ 0 then _ else if (8 : Int32) ≤ nI (wl B sz p).length then _ else if lg_cmp x3 w = 0 then _ else _) = _
  by_cases z0 : (wl B sz p).length = 0
  · rw [if_pos (show nI (wl B sz p).length ≤ 0 from nI_le (b := 0) (by omega) (by decide)), if_neg (fun z => by rw [z] at z0; omega)]
  rw [if_neg (show ¬ nI (wl B sz p).length ≤ 0 from nI_nle (by omega) (by omega))]
  by_cases z8 : 8 ≤ (wl B sz p).length
  · rw [if_pos (show (8 : Int32) ≤ nI (wl B sz p).length from nI_le (show 8 ≤ _ from z8) (by omega)), if_neg (fun z => by rw [z] at z8; omega)]
  rw [if_neg (show ¬ (8 : Int32) ≤ nI (wl B sz p).length from nI_ge (show _ < 8 by omega) (by decide)), q2 (by omega)]
  have p1 : pkv (wl B sz p) 0 < 2 ^ 64 := by
    have := pkv_lt (wl B sz p) 0 0 (fun x hx => wl_mem hx) (by decide)
    have h2 : 256 ^ (0 + (wl B sz p).length) ≤ 256 ^ 7 := Nat.pow_le_pow_right (by decide) (by omega)
    omega
  have p2 : pkv l 0 < 2 ^ 64 := by
    have := pkv_lt l 0 0 hl (by decide)
    have h2 : 256 ^ (0 + l.length) ≤ 256 ^ 7 := Nat.pow_le_pow_right (by decide) (by omega)
    omega
  by_cases z : wl B sz p = l
  · rw [if_pos ((lg_cmp_eq _ _).mpr (by rw [hw, z])), if_pos z]
  · rw [if_neg (fun q => z (pkv_inj (fun x hx => wl_mem hx) hl ((lN_inj p1 p2).mp (by rw [← hw]; exact (lg_cmp_eq _ _).mp q)))), if_neg z]
theorem M_isWord (hn : 1000 ≤ n) {p : Nat} {f : Int32} {σ : PS} (h : TM σ B sz p f) {l : List Nat} {w : Int64} (hl : ∀ x ∈ l, 97 ≤ x ∧ x ≤ 122) (h0 : 0 < l.length) (h8 : l.length < 8) (hw : w = lN (pkv l 0)) : ∃ τ, F_X12_isWord n w σ = some (if wl B sz (sk B sz p) = l then 1 else 0, τ) ∧ TM τ B sz (sk B sz p) f ∧ agm [] [8] σ τ := by
  obtain ⟨τ, t1, t2, t3⟩ := M_see hn h
  have hs := sk_idem (B := B) h.2.2.2.2.1
  have r := M_isWord' hn t2 hs hl h0 h8 hw
  unfold F_X12_isWord at r ⊢
  rw [M_see' hn t2 hs, Option.bind_some] at r
  rw [t1, Option.bind_some]
  exact ⟨τ, r, t2, t3⟩
theorem M_fails0 {p w k : Nat} {σ : PS} (h : TM σ B sz p 0) : ∃ τ, F_X12_fails n (nI k) (nI w) σ = some (0, τ) ∧ TM τ B sz p (nI (1 + 8 * w + k)) ∧ agm [] [9] σ τ := by
  unfold F_X12_fails
  rw [h.2.2.2.1, if_pos rfl]
  show ∃ τ, some ((0 : Int32), psI σ 249 9 (nI 1 + nI 8 * nI w + nI k)) = _ ∧ _
  rw [nI_mul, nI_add, nI_add]
  exact ⟨_, rfl, TM_f h, agm_fld (by simp)⟩
theorem M_num34 {q : Nat} {lo hi : Int32} : ∀ (k j : Nat) (σ : PS), TM σ B sz (q + j) 0 → j ≤ dg B sz q → j + dg B sz (q + j) = dg B sz q → sz < k + (q + j) → ∃ τ, L_X12_numberHere_34 n k lo hi (nI q) (nI (dvA B q (min j 5))) σ = some (lo, hi, nI q, nI (dvA B q (min (dg B sz q) 5)), τ) ∧ TM τ B sz (q + dg B sz q) 0 ∧ agm [] [8] σ τ
  | 0, j, σ, h, hj, hd, hk => by have := h.2.2.2.2.1; omega
  | k + 1, j, σ, h, hj, hd, hk => by
    obtain ⟨a, b, c, d, e, g⟩ := id h
    rw [L_X12_numberHere_34, c, M_isDigit h e, Option.bind_some]
    by_cases z : dg B sz (q + j) = 0
    · simp only [z, if_true]
      rw [← hd, z, Nat.add_zero]
      exact ⟨σ, rfl, h, agm_refl⟩
    simp only [z, if_false]
    rw [if_neg (by decide)]
    have hlt : q + j < sz := by
      by_cases q1 : q + j < sz
      · exact q1
      · exact absurd (dg_end (by omega)) z
    have hh : ¬ B (q + j) < 48 ∧ ¬ 57 < B (q + j) ∧ dg B sz (q + j) = dg B sz (q + j + 1) + 1 := by
      rw [dg_lt hlt] at z ⊢
      by_cases z1 : B (q + j) < 48
      · rw [if_pos z1] at z; exact absurd rfl z
      rw [if_neg z1] at z ⊢
      by_cases z2 : 57 < B (q + j)
      · rw [if_pos z2] at z; exact absurd rfl z
      rw [if_neg z2]
      exact ⟨z1, z2, rfl⟩
    obtain ⟨z1, z2, z3⟩ := hh
    rw [c, nI_sub (by omega), nI_p1]
    by_cases z5 : 5 ≤ j
    · rw [if_pos (show (5 : Int32) ≤ nI (q + j - q) from nI_le (show 5 ≤ q + j - q by omega) (by omega)), show min j 5 = min (j + 1) 5 by omega]
      obtain ⟨τ, t1, t2, t3⟩ := M_num34 k (j + 1) _ (TM_p h (p' := q + j + 1) (by omega)) (by omega) (by rw [show q + (j + 1) = q + j + 1 by omega]; omega) (by omega)
      exact ⟨τ, t1, t2, agm_trans (agm_fld (by simp)) t3⟩
    · rw [if_neg (show ¬ (5 : Int32) ≤ nI (q + j - q) from nI_ge (show q + j - q < 5 by omega) (by decide)), nI_clamp (by omega), if_pos ⟨nI_pos' (by omega), by omega⟩, a]
      obtain ⟨e1, e2, e3⟩ := digit_nI z1 z2
      have e4 : 10 * nI (dvA B q (min j 5)) + B (q + j) - 48 = nI (dvA B q (min (j + 1) 5)) := by
        rw [show min j 5 = j by omega, show min (j + 1) 5 = j + 1 by omega, e1]
        show nI 10 * nI (dvA B q j) + nI (B (q + j)).toNatClampNeg - nI 48 = _
        rw [nI_mul, nI_add, nI_sub (by omega), Nat.mul_comm]
        rfl
      rw [e4]
      obtain ⟨τ, t1, t2, t3⟩ := M_num34 k (j + 1) _ (TM_p h (p' := q + j + 1) (by omega)) (by omega) (by rw [show q + (j + 1) = q + j + 1 by omega]; omega) (by omega)
      exact ⟨τ, t1, t2, agm_trans (agm_fld (by simp)) t3⟩
theorem M_number (hn : 1000 ≤ n) {p : Nat} {σ : PS} (h : TM σ B sz p 0) {lo hi : Nat} (hlo : lo < 2 ^ 31) (hhi : hi < 2 ^ 31) : ∃ τ, F_X12_numberHere n (nI lo) (nI hi) σ = some (if nF B sz (sk B sz p) lo hi = 0 then 1 else 0, τ) ∧ TM τ B sz (sk B sz p + dg B sz (sk B sz p)) (nI (nF B sz (sk B sz p) lo hi)) ∧ (nF B sz (sk B sz p) lo hi = 0 → τ.1 249 10 = nI (dvA B (sk B sz p) (min (dg B sz (sk B sz p)) 5))) ∧ agm [] [8, 9, 10] σ τ := by
  have h400 := h.2.2.2.2.2
  obtain ⟨τ, t1, t2, t3⟩ := M_see hn h
  have t3' : agm [] [8, 9, 10] σ τ := agm_mono t3 (by simp) (by simp)
  unfold F_X12_numberHere
  rw [t1, Option.bind_some]
  show ∃ υ, (F_X12_isDigit n (τ.1 249 8) τ).bind _ = some _ ∧ _
  generalize sk B sz p = q at t2 ⊢
  rw [t2.2.2.1, M_isDigit t2 t2.2.2.2.2.1, Option.bind_some]
  have hle := t2.2.2.2.2.1
  have hv5 := dvA5 (B := B) (sz := sz) (q := q)
  have hd := dg_le (B := B) hle
  by_cases z0 : dg B sz q = 0
  · have hN : nF B sz q lo hi = 1 + 8 * q := by unfold nF; rw [if_pos z0]
    rw [if_pos z0, if_pos rfl, hN, if_neg (by omega), z0, Nat.add_zero]
    obtain ⟨w, w1, w2, w3⟩ := M_fails0 (n := n) (w := q) (k := 0) t2
    show ∃ w, (F_X12_fails n (nI 0) (τ.1 249 8) τ).bind _ = some _ ∧ _
    rw [t2.2.2.1, w1, Option.bind_some, if_pos (Or.inl rfl)]
    exact ⟨w, rfl, w2, fun q1 => by omega, agm_trans t3' (agm_mono w3 (by simp) (by simp))⟩
  · rw [if_neg z0, if_neg ne10]
    show ∃ w, (L_X12_numberHere_34 n n (nI lo) (nI hi) (τ.1 249 8) (nI 0) τ).bind _ = some _ ∧ _
    rw [t2.2.2.1]
    obtain ⟨υ, u1, u2, u3⟩ := M_num34 (n := n) (B := B) (sz := sz) (q := q) (lo := nI lo) (hi := nI hi) n 0 τ t2 (by omega) (by rw [Nat.add_zero]; omega) (by omega)
    show ∃ υ, (L_X12_numberHere_34 n n (nI lo) (nI hi) (nI q) (nI (dvA B q (min 0 5))) τ).bind _ = some _ ∧ _
    rw [u1, Option.bind_some]
    generalize hv : dvA B q (min (dg B sz q) 5) = v at hv5
    show ∃ w, (if (5 : Int32) < (psI υ 249 10 (nI v)).1 249 8 - nI q then (F_X12_fails n (nI 1) (nI q) (psI υ 249 10 (nI v))).bind _ else (F_X12_in n (nI v).toInt64 (nI lo).toInt64 (nI hi).toInt64 (psI υ 249 10 (nI v))).bind _) = some _ ∧ _
    have u4 : TM (psI υ 249 10 (nI v)) B sz (q + dg B sz q) 0 := TM_agm u2 (agm_fld (T := []) (Fs := [10]) (by simp)) (by simp) (by decide) (by decide) (by decide)
    have u5 : agm [] [8, 9, 10] σ (psI υ 249 10 (nI v)) := agm_trans t3' (agm_trans (agm_mono u3 (by simp) (by simp)) (agm_fld (by simp)))
    have bad : ¬ (dg B sz q ≤ 5 ∧ lo ≤ v ∧ v ≤ hi) → ∃ w, ((F_X12_fails n (nI 1) (nI q) (psI υ 249 10 (nI v))).bind (fun q14 => (if q14.1 = 0 then some ((0 : Int32), q14.2) else some ((1 : Int32), q14.2)))) = some (if nF B sz q lo hi = 0 then 1 else 0, w) ∧ TM w B sz (q + dg B sz q) (nI (nF B sz q lo hi)) ∧ (nF B sz q lo hi = 0 → w.1 249 10 = nI v) ∧ agm [] [8, 9, 10] σ w := by
      intro hb
      have hN : nF B sz q lo hi = 1 + 8 * q + 1 := by unfold nF; rw [if_neg z0, hv, if_neg hb]; omega
      obtain ⟨w, w1, w2, w3⟩ := M_fails0 (n := n) (w := q) (k := 1) u4
      rw [w1, Option.bind_some, if_pos rfl, hN, if_neg (by omega)]
      exact ⟨w, rfl, w2, fun q1 => by omega, agm_trans u5 (agm_mono w3 (by simp) (by simp))⟩
    rw [u4.2.2.1, nI_sub (by omega), show q + dg B sz q - q = dg B sz q by omega]
    by_cases z5 : dg B sz q ≤ 5
    · rw [if_neg (show ¬ (5 : Int32) < nI (dg B sz q) from nI_nlt (show dg B sz q ≤ 5 from z5) (by decide)), nI_l hlo, nI_l hhi, M_in (by omega) hlo hhi, Option.bind_some]
      by_cases zz : lo ≤ v ∧ v ≤ hi
      · have hN : nF B sz q lo hi = 0 := by unfold nF; rw [if_neg z0, hv, if_pos ⟨z5, zz⟩]
        rw [if_pos zz, if_neg ne10, hN, if_pos rfl]
        exact ⟨_, rfl, u4, fun _ => by rw [psI_eq, if_pos rfl], u5⟩
      · rw [if_neg zz, if_pos rfl]
        exact bad (fun q1 => zz q1.2)
    · rw [if_pos (show (5 : Int32) < nI (dg B sz q) from nI_lt (show 5 < dg B sz q by omega) (by omega))]
      exact bad (fun q1 => z5 q1.1)
end MT
