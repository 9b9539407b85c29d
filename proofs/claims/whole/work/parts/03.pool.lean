/-! The pooled picture of the heap behind the constructors: a cell is named by its place in the order of making. -/
abbrev PS : Type := (Nat → Nat → Int32) × (Nat → Nat → Int64)
def psI (σ : PS) (i k : Nat) (v : Int32) : PS := (fun a b => if a = i ∧ b = k then v else σ.1 a b, σ.2)
def psJ (σ : PS) (i k : Nat) (v : Int64) : PS := (σ.1, fun a b => if a = i ∧ b = k then v else σ.2 a b)
abbrev pNN : Nat := 277
def pkL : List Nat := [10, 8, 20, 1, 4, 21, 21, 3, 26, 21, 21, 21, 21, 21, 21, 21, 23, 22, 5, 9, 21, 21, 21, 21, 21, 9, 21, 21, 21, 21, 21, 21, 21, 25, 5, 9, 21, 21, 21, 21, 21, 9, 21, 21, 21, 21, 21, 21, 21, 5, 9, 21, 21, 21, 21, 21, 9, 21, 21, 21, 21, 21, 21, 21, 5, 9, 21, 21, 21, 21, 21, 9, 21, 21, 21, 21, 21, 21, 21, 5, 9, 21, 21, 21, 21, 21, 9, 21, 21, 21, 21, 21, 21, 21, 0, 24, 9, 21, 21, 21, 21, 21, 9, 21, 21, 21, 21, 21, 9, 21, 21, 21, 21, 21, 9, 21, 21, 21, 21, 21, 9, 21, 21, 21, 21, 21, 9, 21, 21, 21, 21, 21, 9, 21, 21, 21, 21, 21, 9, 21, 21, 21, 21, 21, 9, 21, 21, 21, 21, 21, 9, 21, 21, 21, 21, 21, 9, 21, 21, 21, 21, 21, 9, 21, 21, 21, 21, 21, 9, 21, 21, 21, 21, 21, 9, 21, 21, 21, 21, 21, 9, 21, 21, 21, 21, 21, 9, 21, 21, 21, 21, 21, 9, 21, 21, 21, 21, 21, 9, 21, 21, 21, 21, 21, 9, 21, 21, 21, 21, 21, 9, 21, 21, 21, 21, 21, 2, 9, 21, 21, 21, 21, 21, 21, 7, 9, 21, 21, 21, 21, 21, 27, 21, 21, 21, 21, 21, 21, 21, 23, 6, 21, 9, 21, 21, 21, 21, 21, 22, 11, 20, 21, 21, 21, 21, 21, 21, 22, 22, 21, 21, 21, 21, 21, 21, 23, 21, 21, 21, 21, 21, 23, 21, 21, 21, 21, 23]
def pnL : List Nat := [0, 0, 400, 0, 0, 400, 33, 0, 6, 400, 400, 400, 400, 400, 400, 6, 6, 60, 0, 0, 6, 6, 6, 6, 36, 0, 6, 6, 6, 6, 36, 10, 10, 4, 0, 0, 6, 6, 6, 6, 36, 0, 6, 6, 6, 6, 36, 10, 10, 0, 0, 6, 6, 6, 6, 36, 0, 6, 6, 6, 6, 36, 10, 10, 0, 0, 6, 6, 6, 6, 36, 0, 6, 6, 6, 6, 36, 10, 10, 0, 0, 6, 6, 6, 6, 36, 0, 6, 6, 6, 6, 36, 10, 10, 0, 20, 0, 6, 6, 6, 6, 36, 0, 6, 6, 6, 6, 36, 0, 6, 6, 6, 6, 36, 0, 6, 6, 6, 6, 36, 0, 6, 6, 6, 6, 36, 0, 6, 6, 6, 6, 36, 0, 6, 6, 6, 6, 36, 0, 6, 6, 6, 6, 36, 0, 6, 6, 6, 6, 36, 0, 6, 6, 6, 6, 36, 0, 6, 6, 6, 6, 36, 0, 6, 6, 6, 6, 36, 0, 6, 6, 6, 6, 36, 0, 6, 6, 6, 6, 36, 0, 6, 6, 6, 6, 36, 0, 6, 6, 6, 6, 36, 0, 6, 6, 6, 6, 36, 0, 6, 6, 6, 6, 36, 0, 6, 6, 6, 6, 36, 0, 6, 6, 6, 6, 36, 0, 0, 6, 6, 6, 6, 36, 66, 0, 0, 6, 6, 6, 6, 36, 7, 61, 61, 61, 61, 61, 61, 61, 7, 0, 3, 0, 6, 6, 6, 6, 36, 37, 0, 400, 2400, 7, 288, 6, 158, 400, 64, 11, 179, 36, 36, 1980, 99, 4, 4, 5, 5, 5, 5, 66, 7, 427, 716, 4, 4, 4]
def pk (i : Nat) : Nat := pkL.getD i 99
def pn (i : Nat) : Nat := pnL.getD i 0
def pe (ad : Nat → Nat) (ca : Nat → ClassId) (σ : PS) (i : Nat) : va_E := match pk i with
  | 0 => .inr (0, [.int (σ.1 i 0), .ref (ad (95)), .int (σ.1 i 2)])
  | 1 => .inr (1, [.ref (ad (1))])
  | 2 => .inr (2, [.ref (ad (217)), .ref (ad (7)), .ref (ad (223)), .int (σ.1 i 3), .int (σ.1 i 4), .int (σ.1 i 5), .long (σ.2 i 6)])
  | 3 => .inr (3, [.int (σ.1 i 0), .ref (ad (8)), .ref (ad (15)), .ref (ad (16)), .ref (ad (17)), .int (σ.1 i 5), .int (σ.1 i 6)])
  | 4 => .inr (4, [.ref (ad (5)), .int (σ.1 i 1), .ref (ad (1)), .ref (ad (6)), .int (σ.1 i 4), .int (σ.1 i 5), .int (σ.1 i 6), .int (σ.1 i 7)])
  | 5 => .inr (5, [.ref (ad (i + 1)), .ref (ad (i + 7)), .ref (ad (i + 13)), .ref (ad (i + 14)), .int (σ.1 i 4), .int (σ.1 i 5), .int (σ.1 i 6), .int (σ.1 i 7)])
  | 6 => .inr (6, [.int (σ.1 i 0), .ref (ad (241)), .int (σ.1 i 2), .int (σ.1 i 3), .ref (ad (242)), .ref (ad (248))])
  | 7 => .inr (7, [.int (σ.1 i 0), .int (σ.1 i 1), .ref (ad (7)), .ref (ad (225)), .ref (ad (231)), .ref (ad (239))])
  | 8 => .inr (8, [.ref (ad (2)), .int (σ.1 i 1), .int (σ.1 i 2), .int (σ.1 i 3), .int (σ.1 i 4), .int (σ.1 i 5)])
  | 9 => .inr (9, [.int (σ.1 i 0), .int (σ.1 i 1), .int (σ.1 i 2), .int (σ.1 i 3), .int (σ.1 i 4), .int (σ.1 i 5), .long (σ.2 i 6), .ref (ad (i + 1)), .ref (ad (i + 2)), .ref (ad (i + 3)), .ref (ad (i + 4)), .ref (ad (i + 5))])
  | 10 => .inr (10, [.ref (ad (1)), .ref (ad (3)), .ref (ad (4)), .ref (ad (7)), .ref (ad (18)), .ref (ad (33)), .ref (ad (94)), .ref (ad (216)), .ref (ad (224)), .ref (ad (240))])
  | 11 => .inr (11, [.ref (ad (250)), .int (σ.1 i 1), .int (σ.1 i 2), .ref (ad (251)), .ref (ad (252)), .ref (ad (253)), .ref (ad (254)), .ref (ad (255)), .int (σ.1 i 8), .int (σ.1 i 9), .int (σ.1 i 10), .int (σ.1 i 11), .int (σ.1 i 12), .int (σ.1 i 13), .int (σ.1 i 14), .ref (ad (256)), .int (σ.1 i 16), .ref (ad (257)), .int (σ.1 i 18), .ref (ad (258)), .ref (ad (259)), .int (σ.1 i 21), .int (σ.1 i 22), .ref (ad (260)), .ref (ad (261)), .ref (ad (262)), .int (σ.1 i 26), .ref (ad (263)), .ref (ad (264)), .ref (ad (265)), .ref (ad (266)), .ref (ad (267)), .ref (ad (268)), .ref (ad (269)), .int (σ.1 i 34), .ref (ad (270)), .ref (ad (271)), .ref (ad (272)), .long (σ.2 i 38), .ref (ad (273)), .ref (ad (274)), .ref (ad (275)), .ref (ad (276))])
  | 20 => .inl (ca 0, pn i, .inl (σ.1 i))
  | 21 => .inl (ca 1, pn i, .inl (σ.1 i))
  | 22 => .inl (ca 2, pn i, .inr (.inl (σ.2 i)))
  | 23 => .inl (ca 3, pn i, .inl (σ.1 i))
  | 24 => .inl (ca 4, pn i, .inr (.inr (.inr (.inr (fun j => some (ad (96 + 6 * j)))))))
  | 25 => .inl (ca 5, pn i, .inr (.inr (.inr (.inr (fun j => some (ad (34 + 15 * j)))))))
  | 26 => .inl (ca 6, pn i, .inr (.inr (.inr (.inr (fun j => some (ad (9 + j)))))))
  | 27 => .inl (ca 6, pn i, .inr (.inr (.inr (.inr (fun j => some (ad (232 + j)))))))
  | _ => .inr (0, [])
abbrev pty (ca : Nat → ClassId) : List (ClassId × FieldType) := [(ca 0, .byte), (ca 1, .int), (ca 2, .long), (ca 3, .boolean), (ca 4, .object "AskedCamp$World"), (ca 5, .object "AskedCamp$Scene"), (ca 6, .array .int)]
def pWS (ad : Nat → Nat) (ca : Nat → ClassId) (σ : PS) : va_W := (List.range pNN).map (fun i => (ad i, pe ad ca σ i))
def pAD (ad : Nat → Nat) : Nat → Prop := fun q => ∃ i, i < pNN ∧ q = ad i
def pInj (ad : Nat → Nat) : Prop := ∀ i j, i < pNN → j < pNN → ad i = ad j → i = j
def pis (i k : Nat) : Prop := i < pNN ∧ pk i = k
def pia (i k n : Nat) : Prop := i < pNN ∧ pk i = k ∧ pn i = n
section POOL
variable {ad : Nat → Nat} {ca : Nat → ClassId} {σ σ' : PS} {i j k : Nat}
theorem pe_congr (h1 : σ'.1 j = σ.1 j) (h2 : σ'.2 j = σ.2 j) : pe ad ca σ' j = pe ad ca σ j := by
  unfold pe
  rw [h1, h2]
theorem pWS_len : (pWS ad ca σ).length = pNN := by simp [pWS]
theorem pWS_get (h : i < pNN) : (pWS ad ca σ)[i]? = some (ad i, pe ad ca σ i) := by
  unfold pWS
  rw [List.getElem?_map, List.getElem?_range h]
  rfl
theorem pWS_lt {q : Nat × va_E} (h : (pWS ad ca σ)[i]? = some q) : i < pNN := by
  have h1 := (List.getElem?_eq_some_iff.mp h).1
  rwa [pWS_len] at h1
theorem pWS_D (hJ : pInj ad) : va_D (pAD ad) (pWS ad ca σ) := by
  constructor
  · intro a b p q ha hb hpq
    have h1 := pWS_lt ha
    have h2 := pWS_lt hb
    rw [pWS_get h1] at ha
    rw [pWS_get h2] at hb
    cases ha
    cases hb
    exact hJ a b h1 h2 hpq
  · intro a q ha
    have h1 := pWS_lt ha
    rw [pWS_get h1] at ha
    cases ha
    exact ⟨a, h1, rfl⟩
theorem pWS_set {e : va_E} (hi : i < pNN) (he : pe ad ca σ' i = e) (h : ∀ j, j ≠ i → σ'.1 j = σ.1 j ∧ σ'.2 j = σ.2 j) : (pWS ad ca σ).set i (ad i, e) = pWS ad ca σ' := by
  apply List.ext_getElem?
  intro a
  by_cases hk : a = i
  · subst hk
    rw [List.getElem?_set_self (by rw [pWS_len]; exact hi), pWS_get hi, he]
  · rw [List.getElem?_set_ne (Ne.symm hk)]
    by_cases ha : a < pNN
    · rw [pWS_get ha, pWS_get ha, pe_congr (h a hk).1 (h a hk).2]
    · rw [List.getElem?_eq_none (by rw [pWS_len]; omega), List.getElem?_eq_none (by rw [pWS_len]; omega)]
theorem psI_ne {v : Int32} (h : j ≠ i) : (psI σ i k v).1 j = σ.1 j ∧ (psI σ i k v).2 j = σ.2 j := ⟨funext fun b => if_neg (fun q => h q.1), rfl⟩
theorem psJ_ne {v : Int64} (h : j ≠ i) : (psJ σ i k v).1 j = σ.1 j ∧ (psJ σ i k v).2 j = σ.2 j := ⟨rfl, funext fun b => if_neg (fun q => h q.1)⟩
theorem psI_row {v : Int32} : (psI σ i k v).1 i = upd (σ.1 i) k v := by
  funext b
  simp [psI, upd]
theorem psJ_row {v : Int64} : (psJ σ i k v).2 i = vp_updL (σ.2 i) k v := by
  funext b
  simp [psJ, vp_updL]
theorem pis_of {n : Nat} (h : pia i k n) : pis i k := ⟨h.1, h.2.1⟩
end POOL
