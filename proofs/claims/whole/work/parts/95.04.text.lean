/-! A text of bytes B, sz of them: blanks, words, numbers; both sides' leaves. -/
theorem ne10 : ¬ (1 : Int32) = 0 := by decide
theorem nI_p1 {p : Nat} : nI p + (1 : Int32) = nI (p + 1) := nI_add p 1
def bkK (B : Nat → Int32) : Nat → Nat → Nat
  | 0, p => p
  | k + 1, p => if B p = 32 then bkK B k (p + 1) else p
def sk (B : Nat → Int32) (sz p : Nat) : Nat := bkK B (sz - p) p
def sg (B : Nat → Int32) (sz p : Nat) : Int32 := if p < sz then B p &&& 255 else -1
def isL (x : Int32) : Prop := ¬ x < 97 ∧ ¬ 122 < x
def isG (x : Int32) : Prop := ¬ x < 48 ∧ ¬ 57 < x
def lcK (B : Nat → Int32) : Nat → Nat → List Nat
  | 0, _ => []
  | k + 1, p => if B p < 97 then [] else if 122 < B p then [] else (B p).toNatClampNeg :: lcK B k (p + 1)
def wl (B : Nat → Int32) (sz p : Nat) : List Nat := lcK B (sz - p) p
def dgK (B : Nat → Int32) : Nat → Nat → Nat
  | 0, _ => 0
  | k + 1, p => if B p < 48 then 0 else if 57 < B p then 0 else dgK B k (p + 1) + 1
def dg (B : Nat → Int32) (sz p : Nat) : Nat := dgK B (sz - p) p
def dvA (B : Nat → Int32) (q : Nat) : Nat → Nat
  | 0 => 0
  | c + 1 => dvA B q c * 10 + (B (q + c)).toNatClampNeg - 48
theorem szs {sz p : Nat} (h : p < sz) : sz - p = (sz - (p + 1)) + 1 := by omega
theorem sk_lt {B : Nat → Int32} {sz p : Nat} (h : p < sz) : sk B sz p = if B p = 32 then sk B sz (p + 1) else p := by
  unfold sk; rw [szs h]; rfl
theorem sk_end {B : Nat → Int32} {sz p : Nat} (h : sz ≤ p) : sk B sz p = p := by
  unfold sk; rw [show sz - p = 0 by omega]; rfl
theorem bkK_ge (B : Nat → Int32) : ∀ k p, p ≤ bkK B k p ∧ bkK B k p ≤ p + k
  | 0, p => ⟨Nat.le_refl _, Nat.le_refl _⟩
  | k + 1, p => by
    unfold bkK
    have := bkK_ge B k (p + 1)
    split <;> omega
theorem sk_ge (B : Nat → Int32) (sz p : Nat) : p ≤ sk B sz p := (bkK_ge B _ p).1
theorem sk_le {B : Nat → Int32} {sz p : Nat} (h : p ≤ sz) : sk B sz p ≤ sz := by
  have := (bkK_ge B (sz - p) p).2
  unfold sk; omega
theorem bkK_no (B : Nat → Int32) : ∀ k p, bkK B k p < p + k → ¬ B (bkK B k p) = 32
  | 0, p, h => by have := (bkK_ge B 0 p).1; omega
  | k + 1, p, h => by
    unfold bkK at h ⊢
    by_cases e : B p = 32
    · rw [if_pos e] at h ⊢; exact bkK_no B k (p + 1) (by omega)
    · rw [if_neg e]; exact e
theorem sk_idem {B : Nat → Int32} {sz p : Nat} (h : p ≤ sz) : sk B sz (sk B sz p) = sk B sz p := by
  by_cases e : sk B sz p < sz
  · rw [sk_lt e]
    exact if_neg (bkK_no B (sz - p) p (by unfold sk at e; omega))
  · exact sk_end (by omega)
theorem wl_lt {B : Nat → Int32} {sz p : Nat} (h : p < sz) : wl B sz p = if B p < 97 then [] else if 122 < B p then [] else (B p).toNatClampNeg :: wl B sz (p + 1) := by
  unfold wl; rw [szs h]; rfl
theorem wl_end {B : Nat → Int32} {sz p : Nat} (h : sz ≤ p) : wl B sz p = [] := by
  unfold wl; rw [show sz - p = 0 by omega]; rfl
theorem dg_lt {B : Nat → Int32} {sz p : Nat} (h : p < sz) : dg B sz p = if B p < 48 then 0 else if 57 < B p then 0 else dg B sz (p + 1) + 1 := by
  unfold dg; rw [szs h]; rfl
theorem dg_end {B : Nat → Int32} {sz p : Nat} (h : sz ≤ p) : dg B sz p = 0 := by
  unfold dg; rw [show sz - p = 0 by omega]; rfl
theorem lcK_len (B : Nat → Int32) : ∀ k p, (lcK B k p).length ≤ k
  | 0, p => Nat.le_refl _
  | k + 1, p => by
    unfold lcK
    have := lcK_len B k (p + 1)
    split
    · simp
    · split
      · simp
      · simp; omega
theorem wl_len {B : Nat → Int32} {sz p : Nat} (h : p ≤ sz) : p + (wl B sz p).length ≤ sz := by
  have := lcK_len B (sz - p) p
  unfold wl; omega
theorem dgK_le (B : Nat → Int32) : ∀ k p, dgK B k p ≤ k
  | 0, p => Nat.le_refl _
  | k + 1, p => by
    unfold dgK
    have := dgK_le B k (p + 1)
    split
    · omega
    · split <;> omega
theorem dg_le {B : Nat → Int32} {sz p : Nat} (h : p ≤ sz) : p + dg B sz p ≤ sz := by
  have := dgK_le B (sz - p) p
  unfold dg; omega
theorem lt_lit {x : Int32} {k : Nat} (hk : k < 2 ^ 31) (h : ¬ x < nI k) : ∃ b, b < 2 ^ 31 ∧ k ≤ b ∧ x = nI b := by
  obtain ⟨j, hj, e⟩ := nI_of (x := x) (fun q => h (by
    have h1 : x.toInt < (0 : Int32).toInt := Int32.lt_iff_toInt_lt.mp q
    have h2 : (0 : Int32).toInt = 0 := by decide
    rw [Int32.lt_iff_toInt_lt, nI_toInt hk]; omega))
  subst e
  exact ⟨j, hj, Nat.le_of_not_lt (fun q => h (nI_lt q hk)), rfl⟩
theorem letter_nI {x : Int32} (h1 : ¬ x < 97) (h2 : ¬ 122 < x) : x = nI x.toNatClampNeg ∧ 97 ≤ x.toNatClampNeg ∧ x.toNatClampNeg ≤ 122 := by
  obtain ⟨b, hb, hk, e⟩ := lt_lit (x := x) (k := 97) (by decide) h1
  subst e
  rw [nI_clamp hb]
  exact ⟨rfl, hk, Nat.le_of_not_lt (fun q => h2 (nI_lt q hb))⟩
theorem digit_nI {x : Int32} (h1 : ¬ x < 48) (h2 : ¬ 57 < x) : x = nI x.toNatClampNeg ∧ 48 ≤ x.toNatClampNeg ∧ x.toNatClampNeg ≤ 57 := by
  obtain ⟨b, hb, hk, e⟩ := lt_lit (x := x) (k := 48) (by decide) h1
  subst e
  rw [nI_clamp hb]
  exact ⟨rfl, hk, Nat.le_of_not_lt (fun q => h2 (nI_lt q hb))⟩
theorem lcK_get (B : Nat → Int32) : ∀ k p i, i < (lcK B k p).length → B (p + i) = nI ((lcK B k p).getD i 0) ∧ 97 ≤ (lcK B k p).getD i 0 ∧ (lcK B k p).getD i 0 ≤ 122
  | 0, p, i, h => by simp [lcK] at h
  | k + 1, p, i, h => by
    unfold lcK at h ⊢
    by_cases e1 : B p < 97
    · rw [if_pos e1] at h; simp at h
    rw [if_neg e1] at h ⊢
    by_cases e2 : 122 < B p
    · rw [if_pos e2] at h; simp at h
    rw [if_neg e2] at h ⊢
    cases i with
    | zero => exact letter_nI e1 e2
    | succ i =>
      have := lcK_get B k (p + 1) i (by simpa using h)
      rw [show p + (i + 1) = p + 1 + i by omega]
      simpa using this
theorem wl_get {B : Nat → Int32} {sz p i : Nat} (h : i < (wl B sz p).length) : B (p + i) = nI ((wl B sz p).getD i 0) := (lcK_get B _ p i h).1
theorem wl_mem {B : Nat → Int32} {sz p x : Nat} (h : x ∈ wl B sz p) : 97 ≤ x ∧ x ≤ 122 := by
  obtain ⟨i, hi, e⟩ := List.mem_iff_getElem.mp h
  have := (lcK_get B (sz - p) p i hi).2
  have hi' : i < (lcK B (sz - p) p).length := hi
  rw [List.getD_eq_getElem?_getD, List.getElem?_eq_getElem hi', Option.getD_some, show (lcK B (sz - p) p)[i] = x from e] at this
  exact this
theorem dgK_get (B : Nat → Int32) : ∀ k p i, i < dgK B k p → ¬ B (p + i) < 48 ∧ ¬ 57 < B (p + i)
  | 0, p, i, h => by simp [dgK] at h
  | k + 1, p, i, h => by
    unfold dgK at h
    by_cases e1 : B p < 48
    · rw [if_pos e1] at h; omega
    rw [if_neg e1] at h
    by_cases e2 : 57 < B p
    · rw [if_pos e2] at h; omega
    rw [if_neg e2] at h
    cases i with
    | zero => exact ⟨e1, e2⟩
    | succ i =>
      rw [show p + (i + 1) = p + 1 + i by omega]
      exact dgK_get B k (p + 1) i (by omega)
theorem dvA_lt {B : Nat → Int32} {sz q : Nat} : ∀ c, c ≤ dg B sz q → dvA B q c < 10 ^ c
  | 0, _ => by show 0 < 1; decide
  | c + 1, h => by
    have h1 := dvA_lt (B := B) (sz := sz) (q := q) c (by omega)
    have h2 := dgK_get B (sz - q) q c (by unfold dg at h; omega)
    have h3 := digit_nI h2.1 h2.2
    unfold dvA
    have : 10 ^ (c + 1) = 10 ^ c * 10 := Nat.pow_succ 10 c
    omega
/-- the class's tape while it is read -/
def TX (σ : PS) (B : Nat → Int32) (sz p s : Nat) (f : Int32) : Prop := σ.1 2 = B ∧ σ.1 1 1 = nI sz ∧ σ.1 1 2 = nI p ∧ σ.1 1 3 = nI s ∧ σ.1 1 5 = f ∧ s ≤ p ∧ p ≤ sz ∧ sz ≤ 400
theorem TX_agr {σ τ : PS} {B : Nat → Int32} {sz p s : Nat} {f : Int32} {T : List Nat} (h : TX σ B sz p s f) (ha : agr T σ τ) (h1 : 1 ∉ T) (h2 : 2 ∉ T) : TX τ B sz p s f := by
  unfold TX
  rw [(ha 1 h1).1, (ha 2 h2).1]
  exact h
theorem TX_p {σ : PS} {B : Nat → Int32} {sz p s p' : Nat} {f : Int32} (h : TX σ B sz p s f) (h1 : s ≤ p') (h2 : p' ≤ sz) : TX (psI σ 1 2 (nI p')) B sz p' s f := by
  obtain ⟨a, b, c, d, e, g, i, j⟩ := h
  refine ⟨?_, ?_, ?_, ?_, ?_, h1, h2, j⟩
  · rw [psI_other (by decide)]; exact a
  · rw [psI_eq, if_neg (by decide)]; exact b
  · rw [psI_eq, if_pos rfl]
  · rw [psI_eq, if_neg (by decide)]; exact d
  · rw [psI_eq, if_neg (by decide)]; exact e
theorem TX_s {σ : PS} {B : Nat → Int32} {sz p s s' : Nat} {f : Int32} (h : TX σ B sz p s f) (h1 : s' ≤ p) : TX (psI σ 1 3 (nI s')) B sz p s' f := by
  obtain ⟨a, b, c, d, e, g, i, j⟩ := h
  refine ⟨?_, ?_, ?_, ?_, ?_, h1, i, j⟩
  · rw [psI_other (by decide)]; exact a
  · rw [psI_eq, if_neg (by decide)]; exact b
  · rw [psI_eq, if_neg (by decide)]; exact c
  · rw [psI_eq, if_pos rfl]
  · rw [psI_eq, if_neg (by decide)]; exact e
theorem TX_v {σ : PS} {B : Nat → Int32} {sz p s : Nat} {f v : Int32} (h : TX σ B sz p s f) : TX (psI σ 1 4 v) B sz p s f := by
  obtain ⟨a, b, c, d, e, g, i, j⟩ := h
  refine ⟨?_, ?_, ?_, ?_, ?_, g, i, j⟩
  · rw [psI_other (by decide)]; exact a
  · rw [psI_eq, if_neg (by decide)]; exact b
  · rw [psI_eq, if_neg (by decide)]; exact c
  · rw [psI_eq, if_neg (by decide)]; exact d
  · rw [psI_eq, if_neg (by decide)]; exact e
theorem TX_f {σ : PS} {B : Nat → Int32} {sz p s : Nat} {f v : Int32} (h : TX σ B sz p s f) : TX (psI σ 1 5 v) B sz p s v := by
  obtain ⟨a, b, c, d, e, g, i, j⟩ := h
  refine ⟨?_, ?_, ?_, ?_, ?_, g, i, j⟩
  · rw [psI_other (by decide)]; exact a
  · rw [psI_eq, if_neg (by decide)]; exact b
  · rw [psI_eq, if_neg (by decide)]; exact c
  · rw [psI_eq, if_neg (by decide)]; exact d
  · rw [psI_eq, if_pos rfl]
section XT
variable {n : Nat} {B : Nat → Int32} {sz : Nat}
theorem X_peek0 : ∀ (k p s : Nat) (f : Int32) (σ : PS), TX σ B sz p s f → sz < k + p → ∃ τ, L_X9_peek_0 n k σ = some τ ∧ TX τ B sz (sk B sz p) s f ∧ τ.1 1 4 = σ.1 1 4 ∧ agr [1] σ τ
  | 0, p, s, f, σ, h, hk => by have := h.2.2.2.2.2.2.1; omega
  | k + 1, p, s, f, σ, h, hk => by
    obtain ⟨a, b, c, d, e, g, i, j⟩ := id h
    rw [L_X9_peek_0, b, c]
    by_cases q : sz ≤ p
    · rw [if_pos (nI_le q (by omega)), sk_end q]
      exact ⟨σ, rfl, h, rfl, agr_refl⟩
    · rw [if_neg (nI_ge (by omega) (by omega)), nI_clamp (by omega), if_pos ⟨nI_pos' (by omega), by omega⟩, a]
      by_cases q2 : B p = 32
      · rw [if_pos q2, sk_lt (by omega), if_pos q2, nI_p1]
        obtain ⟨τ, t1, t2, t3, t4⟩ := X_peek0 k (p + 1) s f _ (TX_p h (p' := p + 1) (by omega) (by omega)) (by omega)
        exact ⟨τ, t1, t2, t3.trans (by rw [psI_eq, if_neg (by decide)]), agr_trans (agr_psI (by simp)) t4⟩
      · rw [if_neg q2, sk_lt (by omega), if_neg q2]
        exact ⟨σ, rfl, h, rfl, agr_refl⟩
theorem X_peek (hn : 1000 ≤ n) {p s : Nat} {f : Int32} {σ : PS} (h : TX σ B sz p s f) : ∃ τ, F_X9_peek n σ = some (sg B sz (sk B sz p), τ) ∧ TX τ B sz (sk B sz p) s f ∧ τ.1 1 4 = σ.1 1 4 ∧ agr [1] σ τ := by
  have h400 := h.2.2.2.2.2.2.2
  obtain ⟨τ, t1, t2, t3, t4⟩ := X_peek0 (n := n) n p s f σ h (by omega)
  have hle := t2.2.2.2.2.2.2.1
  unfold F_X9_peek
  rw [t1, Option.bind_some, t2.2.1, t2.2.2.1]
  unfold sg
  by_cases q : sk B sz p < sz
  · rw [if_neg (nI_ge q (by omega)), nI_clamp (by omega), if_pos ⟨nI_pos' (by omega), by omega⟩, if_pos q, t2.1]
    exact ⟨τ, rfl, t2, t3, t4⟩
  · rw [if_pos (nI_le (by omega) (by omega)), if_neg q]
    exact ⟨τ, rfl, t2, t3, t4⟩
theorem X_take13 : ∀ (k p s : Nat) (f : Int32) (σ : PS), TX σ B sz p s f → sz < k + p → ∃ τ, L_X9_takeWord_13 n k σ = some τ ∧ TX τ B sz (p + (wl B sz p).length) s f ∧ τ.1 1 4 = σ.1 1 4 ∧ agr [1] σ τ
  | 0, p, s, f, σ, h, hk => by have := h.2.2.2.2.2.2.1; omega
  | k + 1, p, s, f, σ, h, hk => by
    obtain ⟨a, b, c, d, e, g, i, j⟩ := id h
    rw [L_X9_takeWord_13, b, c]
    by_cases q : sz ≤ p
    · rw [if_pos (nI_le q (by omega)), wl_end q]
      exact ⟨σ, rfl, h, rfl, agr_refl⟩
    · rw [if_neg (nI_ge (by omega) (by omega)), nI_clamp (by omega), if_pos ⟨nI_pos' (by omega), by omega⟩, a, wl_lt (by omega)]
      by_cases q2 : B p < 97
      · rw [if_pos q2, if_pos q2]
        exact ⟨σ, rfl, h, rfl, agr_refl⟩
      rw [if_neg q2, if_neg q2]
      by_cases q3 : 122 < B p
      · rw [if_pos q3, if_pos q3]
        exact ⟨σ, rfl, h, rfl, agr_refl⟩
      rw [if_neg q3, if_neg q3, nI_p1]
      obtain ⟨τ, t1, t2, t3, t4⟩ := X_take13 k (p + 1) s f _ (TX_p h (p' := p + 1) (by omega) (by omega)) (by omega)
      rw [List.length_cons, show p + ((wl B sz (p + 1)).length + 1) = p + 1 + (wl B sz (p + 1)).length by omega]
      exact ⟨τ, t1, t2, t3.trans (by rw [psI_eq, if_neg (by decide)]), agr_trans (agr_psI (by simp)) t4⟩
/-- a word is taken -/
theorem X_takeWord (hn : 1000 ≤ n) {p s : Nat} {f : Int32} {σ : PS} (h : TX σ B sz p s f) : ∃ τ, F_X9_takeWord n σ = some τ ∧ TX τ B sz (sk B sz p + (wl B sz (sk B sz p)).length) (sk B sz p) f ∧ τ.1 1 4 = σ.1 1 4 ∧ agr [1] σ τ := by
  have h400 := h.2.2.2.2.2.2.2
  obtain ⟨τ, t1, t2, t3, t4⟩ := X_peek hn h
  unfold F_X9_takeWord
  rw [t1, Option.bind_some]
  show ∃ υ, (L_X9_takeWord_13 n n (psI τ 1 3 (τ.1 1 2))).bind _ = some υ ∧ _
  rw [t2.2.2.1]
  obtain ⟨υ, u1, u2, u3, u4⟩ := X_take13 (n := n) n _ _ f _ (TX_s t2 (s' := sk B sz p) (Nat.le_refl _)) (by omega)
  rw [u1]
  exact ⟨υ, rfl, u2, u3.trans ((by rw [psI_eq, if_neg (by decide)] : (psI τ 1 3 (nI (sk B sz p))).1 1 4 = τ.1 1 4).trans t3), agr_trans t4 (agr_trans (agr_psI (by simp)) u4)⟩
def wS (a : Nat) : List Nat := [[99, 97, 109, 112], [116, 101, 110, 116], [98, 117, 115, 104], [103, 111], [105, 102], [110, 111, 116], [97, 110, 100], [111, 114], [99, 101, 108, 108], [114, 111, 119], [99, 111, 108, 117, 109, 110], [116, 101, 110, 116, 115], [110, 101, 114, 118, 101], [98, 101, 101, 110], [110, 101, 97, 114], [98, 117, 115, 104, 101, 115], [98, 105, 116, 115], [97, 115, 107, 101, 100], [115, 116, 101, 112]].getD a []
theorem wS_chr : ∀ a, a < 19 → ∀ j, j < (wS a).length → pschr a (nI j) = nI ((wS a).getD j 0) := by decide +kernel
theorem wS_plen : ∀ a, a < 19 → pslen a >>> (0 &&& 31) = nI (wS a).length ∧ pLen.getD a 0 = (wS a).length ∧ (wS a).length < 8 ∧ 0 < (wS a).length := by decide +kernel
theorem wS_mem : ∀ a, a < 19 → ∀ x ∈ wS a, 97 ≤ x ∧ x ≤ 122 := by decide +kernel
theorem wl_ext {l m : List Nat} (h : l.length = m.length) (hh : ∀ i, i < l.length → l.getD i 0 = m.getD i 0) : l = m := by
  apply List.ext_getElem h
  intro i h1 h2
  have := hh i h1
  rw [List.getD_eq_getElem?_getD, List.getD_eq_getElem?_getD, List.getElem?_eq_getElem h1, List.getElem?_eq_getElem h2] at this
  exact this
theorem X_wIs20 {a : Nat} (ha : a < 19) {q : Nat} {f : Int32} {σ : PS} (h : TX σ B sz (q + (wl B sz q).length) q f) (hl : (wl B sz q).length = (wS a).length) : ∀ k j : Nat, j ≤ (wS a).length → (wS a).length < k + j → (∀ i, i < j → (wl B sz q).getD i 0 = (wS a).getD i 0) → L_X9_wordIs_20 n a k (nI j) σ = some (if wl B sz q = wS a then 1 else 0, σ)
  | 0, j, hj, hk, _ => by omega
  | k + 1, j, hj, hk, hh => by
    obtain ⟨c1, c2, c3, c4⟩ := wS_plen a ha
    obtain ⟨t1, t2, t3, t4, t5, t6, t7, t8⟩ := id h
    rw [L_X9_wordIs_20, c1, c2]
    by_cases e : (wS a).length ≤ j
    · rw [if_pos (nI_le e (by omega)), if_pos (wl_ext hl (fun i hi => hh i (by omega)))]
    · rw [if_neg (nI_ge (by omega) (by omega)), t4, nI_add, nI_clamp (by omega), nI_clamp (by omega), if_pos ⟨nI_pos' (by omega), by omega⟩, if_pos ⟨nI_pos' (by omega), by omega⟩, t1, wl_get (show j < (wl B sz q).length by omega), wS_chr a ha j (by omega)]
      have b1 : (wl B sz q).getD j 0 ≤ 122 := (lcK_get B (sz - q) q j (show j < (lcK B (sz - q) q).length by have : (lcK B (sz - q) q).length = (wl B sz q).length := rfl; omega)).2.2
      have b2 : (wS a).getD j 0 ≤ 122 := (wS_mem a ha _ (by rw [List.getD_eq_getElem?_getD, List.getElem?_eq_getElem (show j < (wS a).length by omega)]; exact List.getElem_mem _)).2
      by_cases e2 : (wl B sz q).getD j 0 = (wS a).getD j 0
      · rw [if_pos (by rw [e2]), nI_1]
        exact X_wIs20 ha h hl k (j + 1) (by omega) (by omega) (fun i hi => by
          by_cases z : i = j
          · rw [z]; exact e2
          · exact hh i (by omega))
      · rw [if_neg (fun z => e2 (nI_inj (by omega) (by omega) z)), if_neg (fun z => e2 (by rw [z]))]
theorem X_wordIs (hn : 1000 ≤ n) {a : Nat} (ha : a < 19) {q : Nat} {f : Int32} {σ : PS} (h : TX σ B sz (q + (wl B sz q).length) q f) : F_X9_wordIs n a σ = some (if wl B sz q = wS a then 1 else 0, σ) := by
  obtain ⟨c1, c2, c3, c4⟩ := wS_plen a ha
  obtain ⟨t1, t2, t3, t4, t5, t6, t7, t8⟩ := id h
  unfold F_X9_wordIs
  rw [t3, t4, nI_sub (by omega), show q + (wl B sz q).length - q = (wl B sz q).length by omega, c1]
  by_cases e : (wl B sz q).length = (wS a).length
  · rw [if_pos (by rw [e]), show (0 : Int32) = nI 0 from rfl, X_wIs20 ha h e n 0 (by omega) (by omega) (fun i hi => by omega), Option.bind_some]
    by_cases z : wl B sz q = wS a
    · rw [if_pos z, if_pos z]; rfl
    · rw [if_neg z, if_neg z]; rfl
  · rw [if_neg (fun z => e (nI_inj (by omega) (by omega) z)), if_neg (fun z => e (by rw [z]))]
theorem X_putBack {p s : Nat} {f : Int32} {σ : PS} (h : TX σ B sz p s f) : ∃ τ, F_X9_putWordBack n σ = some τ ∧ TX τ B sz s s f ∧ τ.1 1 4 = σ.1 1 4 ∧ agr [1] σ τ := by
  unfold F_X9_putWordBack
  rw [h.2.2.2.1]
  exact ⟨_, rfl, TX_p h (Nat.le_refl _) (by have := h.2.2.2.2.2.1; have := h.2.2.2.2.2.2.1; omega), by rw [psI_eq, if_neg (by decide)], agr_psI (by simp)⟩
theorem X_fail0 {p s w k : Nat} {σ : PS} (h : TX σ B sz p s 0) : ∃ τ, F_X9_fail n (nI w) (nI k) σ = some τ ∧ TX τ B sz p s (nI (1 + 8 * w + k)) ∧ τ.1 1 4 = σ.1 1 4 ∧ agr [1] σ τ := by
  unfold F_X9_fail
  rw [h.2.2.2.2.1, if_pos rfl, nI_lit, nI_lit, nI_mul, nI_add, nI_add]
  exact ⟨_, rfl, TX_f h, by rw [psI_eq, if_neg (by decide)], agr_psI (by simp)⟩
theorem X_fail1 {p s : Nat} {w k f : Int32} {σ : PS} (h : TX σ B sz p s f) (hf : ¬ f = 0) : F_X9_fail n w k σ = some σ := by
  unfold F_X9_fail
  rw [h.2.2.2.2.1, if_neg hf]
theorem X_num18 {q : Nat} {lo hi : Int32} : ∀ (k j : Nat) (σ : PS), TX σ B sz (q + j) q 0 → σ.1 1 4 = nI (dvA B q (min j 5)) → j ≤ dg B sz q → j + dg B sz (q + j) = dg B sz q → sz < k + (q + j) → ∃ τ, L_X9_takeNumber_18 n k lo hi σ = some (lo, hi, τ) ∧ TX τ B sz (q + dg B sz q) q 0 ∧ τ.1 1 4 = nI (dvA B q (min (dg B sz q) 5)) ∧ agr [1] σ τ
  | 0, j, σ, h, hv, hj, hd, hk => by have := h.2.2.2.2.2.2.1; omega
  | k + 1, j, σ, h, hv, hj, hd, hk => by
    obtain ⟨a, b, c, d, e, g, i, jj⟩ := id h
    rw [L_X9_takeNumber_18, b, c]
    by_cases z : sz ≤ q + j
    · rw [dg_end z] at hd
      rw [if_pos (nI_le z (by omega)), ← hd]
      exact ⟨σ, rfl, h, hv, agr_refl⟩
    rw [if_neg (nI_ge (by omega) (by omega)), nI_clamp (by omega), if_pos ⟨nI_pos' (by omega), by omega⟩, a]
    rw [dg_lt (by omega)] at hd
    by_cases z1 : B (q + j) < 48
    · rw [if_pos z1] at hd ⊢
      rw [← hd]
      exact ⟨σ, rfl, h, hv, agr_refl⟩
    rw [if_neg z1] at hd ⊢
    by_cases z2 : 57 < B (q + j)
    · rw [if_pos z2] at hd ⊢
      rw [← hd]
      exact ⟨σ, rfl, h, hv, agr_refl⟩
    rw [if_neg z2] at hd ⊢
    rw [d, nI_sub (by omega), nI_p1]
    by_cases z5 : 5 ≤ j
    · rw [if_pos (show (5 : Int32) ≤ nI (q + j - q) from nI_le (show 5 ≤ q + j - q by omega) (by omega))]
      obtain ⟨τ, t1, t2, t3, t4⟩ := X_num18 k (j + 1) _ (TX_p h (p' := q + j + 1) (by omega) (by omega)) (by rw [psI_eq, if_neg (by decide), hv, show min j 5 = min (j + 1) 5 by omega]) (by omega) (by rw [show q + (j + 1) = q + j + 1 by omega]; omega) (by omega)
      exact ⟨τ, t1, t2, t3, agr_trans (agr_psI (by simp)) t4⟩
    · rw [if_neg (show ¬ (5 : Int32) ≤ nI (q + j - q) from nI_ge (show q + j - q < 5 by omega) (by decide))]
      obtain ⟨e1, e2, e3⟩ := digit_nI z1 z2
      have e4 : nI (dvA B q (min j 5)) * 10 + B (q + j) - 48 = nI (dvA B q (min (j + 1) 5)) := by
        rw [show min j 5 = j by omega, show min (j + 1) 5 = j + 1 by omega, e1]
        show nI (dvA B q j) * nI 10 + nI (B (q + j)).toNatClampNeg - nI 48 = _
        rw [nI_mul, nI_add, nI_sub (by omega)]
        rfl
      have e5 : (psI σ 1 4 (nI (dvA B q (min (j + 1) 5)))).1 1 2 = nI (q + j) := by rw [psI_eq, if_neg (by decide)]; exact c
      rw [hv, e4, e5, nI_p1]
      obtain ⟨τ, t1, t2, t3, t4⟩ := X_num18 k (j + 1) _ (TX_p (TX_v h (v := nI (dvA B q (min (j + 1) 5)))) (p' := q + j + 1) (by omega) (by omega)) (by rw [psI_eq, if_neg (by decide), psI_eq, if_pos rfl]) (by omega) (by rw [show q + (j + 1) = q + j + 1 by omega]; omega) (by omega)
      exact ⟨τ, t1, t2, t3, agr_trans (agr_psI (by simp)) (agr_trans (agr_psI (by simp)) t4)⟩
/-- the fault of a number -/
def nF (B : Nat → Int32) (sz q lo hi : Nat) : Nat := if dg B sz q = 0 then 1 + 8 * q else if dg B sz q ≤ 5 ∧ lo ≤ dvA B q (min (dg B sz q) 5) ∧ dvA B q (min (dg B sz q) 5) ≤ hi then 0 else 2 + 8 * q
theorem dvA5 {B : Nat → Int32} {sz q : Nat} : dvA B q (min (dg B sz q) 5) < 100000 := by
  have := dvA_lt (B := B) (sz := sz) (q := q) (min (dg B sz q) 5) (Nat.min_le_left _ _)
  have h2 : 10 ^ (min (dg B sz q) 5) ≤ 10 ^ 5 := Nat.pow_le_pow_right (by decide) (Nat.min_le_right _ _)
  omega
theorem X_number (hn : 1000 ≤ n) {p s : Nat} {σ : PS} (h : TX σ B sz p s 0) {lo hi : Nat} (hlo : lo < 2 ^ 31) (hhi : hi < 2 ^ 31) : ∃ τ, F_X9_takeNumber n (nI lo) (nI hi) σ = some (if nF B sz (sk B sz p) lo hi = 0 then 1 else 0, τ) ∧ TX τ B sz (sk B sz p + dg B sz (sk B sz p)) (sk B sz p) (nI (nF B sz (sk B sz p) lo hi)) ∧ τ.1 1 4 = nI (dvA B (sk B sz p) (min (dg B sz (sk B sz p)) 5)) ∧ agr [1] σ τ := by
  have h400 := h.2.2.2.2.2.2.2
  obtain ⟨τ, t1, t2, t3, t4⟩ := X_peek hn h
  unfold F_X9_takeNumber
  rw [t1, Option.bind_some]
  show ∃ υ, (L_X9_takeNumber_18 n n (nI lo) (nI hi) (psI (psI τ 1 3 (τ.1 1 2)) 1 4 (0 : Int32))).bind _ = some _ ∧ _
  rw [t2.2.2.1]
  generalize sk B sz p = q at t2 ⊢
  have t2' : TX τ B sz q s 0 := t2
  obtain ⟨υ, u1, u2, u3, u4⟩ := X_num18 (n := n) (B := B) (sz := sz) (q := q) (lo := nI lo) (hi := nI hi) n 0 (psI (psI τ 1 3 (nI q)) 1 4 (0 : Int32)) (TX_v (TX_s t2' (s' := q) (Nat.le_refl _))) (by rw [psI_eq, if_pos rfl]; rfl) (by omega) (by rw [Nat.add_zero]; omega) (by omega)
  have u5 : agr [1] σ υ := agr_trans t4 (agr_trans (agr_psI (by simp)) (agr_trans (agr_psI (by simp)) u4))
  rw [u1, Option.bind_some]
  obtain ⟨a, b, c, d, e, g, i, j⟩ := id u2
  have hv5 := dvA5 (B := B) (sz := sz) (q := q)
  show ∃ w, (if υ.1 1 2 = υ.1 1 3 then _ else if (5 : Int32) < υ.1 1 2 - υ.1 1 3 then _ else if υ.1 1 4 < nI lo then _ else if υ.1 1 4 ≤ nI hi then _ else _) = some _ ∧ _
  rw [c, d, u3, nI_sub (by omega), show q + dg B sz q - q = dg B sz q by omega]
  by_cases z0 : dg B sz q = 0
  · have hN : nF B sz q lo hi = 1 + 8 * q := by unfold nF; rw [if_pos z0]
    rw [if_pos (by rw [z0]; rfl), hN, if_neg (by omega)]
    obtain ⟨w, w1, w2, w3, w4⟩ := X_fail0 (n := n) (w := q) (k := 0) u2
    show ∃ w, (F_X9_fail n (nI q) (nI 0) υ).bind _ = some _ ∧ _
    rw [w1, Option.bind_some, w2.2.2.2.2.1, if_neg (nI_ne0 (by omega) (by omega))]
    exact ⟨w, rfl, w2, w3.trans u3, agr_trans u5 w4⟩
  rw [if_neg (fun q1 => z0 (by have := nI_inj (by omega) (by omega) q1; omega))]
  have bad : ¬ (dg B sz q ≤ 5 ∧ lo ≤ dvA B q (min (dg B sz q) 5) ∧ dvA B q (min (dg B sz q) 5) ≤ hi) → ∃ w, ((F_X9_fail n (nI q) (nI 1) υ).bind (fun q12 => (if (q12.1 1 5) = 0 then some ((1 : Int32), q12) else some ((0 : Int32), q12)))) = some (if nF B sz q lo hi = 0 then 1 else 0, w) ∧ TX w B sz (q + dg B sz q) q (nI (nF B sz q lo hi)) ∧ w.1 1 4 = nI (dvA B q (min (dg B sz q) 5)) ∧ agr [1] σ w := by
    intro hb
    have hN : nF B sz q lo hi = 1 + 8 * q + 1 := by unfold nF; rw [if_neg z0, if_neg hb]; omega
    obtain ⟨w, w1, w2, w3, w4⟩ := X_fail0 (n := n) (w := q) (k := 1) u2
    rw [w1, Option.bind_some, w2.2.2.2.2.1, if_neg (nI_ne0 (by omega) (by omega)), hN, if_neg (by omega)]
    exact ⟨w, rfl, w2, w3.trans u3, agr_trans u5 w4⟩
  by_cases z5 : dg B sz q ≤ 5
  · rw [if_neg (show ¬ (5 : Int32) < nI (dg B sz q) from nI_nlt (show dg B sz q ≤ 5 from z5) (by decide))]
    by_cases zl : lo ≤ dvA B q (min (dg B sz q) 5)
    · rw [if_neg (nI_nlt zl (by omega))]
      by_cases zh : dvA B q (min (dg B sz q) 5) ≤ hi
      · have hN : nF B sz q lo hi = 0 := by unfold nF; rw [if_neg z0, if_pos ⟨z5, zl, zh⟩]
        rw [if_pos (nI_le zh hhi), e, if_pos rfl, hN, if_pos rfl]
        exact ⟨υ, rfl, u2, u3, u5⟩
      · rw [if_neg (nI_ge (by omega) (by omega))]
        exact bad (fun q1 => zh q1.2.2)
    · rw [if_pos (nI_lt (by omega) (by omega))]
      exact bad (fun q1 => zl q1.2.1)
  · rw [if_pos (show (5 : Int32) < nI (dg B sz q) from nI_lt (show 5 < dg B sz q by omega) (by omega))]
    exact bad (fun q1 => z5 q1.1)
end XT
