/-! Numbers: int values as natural numbers (nI), and small negative ones. -/
theorem nI_lit (k : Nat) : (@OfNat.ofNat Int32 k Int32.instOfNat) = nI k := rfl
def m1 : Int32 := -1
def m2 : Int32 := -2
def m3 : Int32 := -3
theorem neg1_m : -(nI 1) = m1 := rfl
theorem neg2_m : -(nI 2) = m2 := rfl
theorem neg3_m : -(nI 3) = m3 := rfl
theorem nI_bv (n : Nat) : (nI n).toBitVec = BitVec.ofNat 32 n := rfl
theorem nI_ofbv {x : Int32} {n : Nat} (h : x.toBitVec = BitVec.ofNat 32 n) : x = nI n := by
  apply Int32.toBitVec_inj.mp
  rw [h, nI_bv]
theorem nI_mul (a b : Nat) : nI a * nI b = nI (a * b) := by
  apply nI_ofbv
  rw [Int32.toBitVec_mul, nI_bv, nI_bv, BitVec.ofNat_mul_ofNat]
theorem nI_sub {a b : Nat} (h : b ≤ a) : nI a - nI b = nI (a - b) := by
  have e : nI a = nI (a - b) + nI b := by rw [nI_add, Nat.sub_add_cancel h]
  rw [e]
  apply Int32.toBitVec_inj.mp
  simp
theorem nI_div {a b : Nat} (ha : a < 2 ^ 31) (hb : b < 2 ^ 31) : nI a / nI b = nI (a / b) := by
  apply Int32.toInt_inj.mp
  have h2 : a / b < 2 ^ 31 := Nat.lt_of_le_of_lt (Nat.div_le_self a b) ha
  rw [Int32.toInt_div, nI_toInt ha, nI_toInt hb, nI_toInt h2, ← Int.ofNat_tdiv]
  have h0 : (0 : Int) ≤ ((a / b : Nat) : Int) := Int.natCast_nonneg _
  have h3 : ((a / b : Nat) : Int) < 2 ^ 31 := by exact_mod_cast h2
  generalize ((a / b : Nat) : Int) = z at h0 h3 ⊢
  rw [Int.bmod_eq_of_le (by omega) (by omega)]
theorem nI_rem {a b : Nat} (ha : a < 2 ^ 31) (hb : b < 2 ^ 31) : nI a - nI a / nI b * nI b = nI (a % b) := by
  rw [nI_div ha hb, nI_mul, nI_sub (by exact Nat.div_mul_le_self a b)]
  congr 1
  have := Nat.div_add_mod a b
  have e : a / b * b = b * (a / b) := Nat.mul_comm _ _
  omega
theorem m1_lt : m1 < 0 := by decide
theorem m1_lt0 : m1 < nI 0 := by decide
theorem m1_nle0 : ¬ nI 0 ≤ m1 := by decide
theorem nI_n0 {a : Nat} (h : a < 2 ^ 31) : ¬ nI a < nI 0 := nI_pos h
theorem nI_nz {a : Nat} (h0 : 0 < a) (h : a < 2 ^ 31) : ¬ nI a = nI 0 := nI_ne0 h0 h
theorem m1_nle : ¬ 0 ≤ m1 := by decide
theorem m1_ne {n : Nat} (h : n < 2 ^ 31) : ¬ nI n = m1 := fun e => by
  have h1 := congrArg Int32.toInt e
  rw [nI_toInt h] at h1
  have h2 : m1.toInt = -1 := by decide
  omega
theorem m1_ne' {n : Nat} (h : n < 2 ^ 31) : ¬ m1 = nI n := fun e => m1_ne h e.symm
theorem nI_inj {a b : Nat} (ha : a < 2 ^ 31) (hb : b < 2 ^ 31) (h : nI a = nI b) : a = b := (nI_eq ha hb).mp h
theorem nI_ge0 {n : Nat} (h : n < 2 ^ 31) : (nI 0 ≤ nI n) ↔ True := ⟨fun _ => trivial, fun _ => nI_le (Nat.zero_le n) h⟩
theorem nI_and (a b : Nat) : nI a &&& nI b = nI (a &&& b) := by
  apply nI_ofbv
  rw [Int32.toBitVec_and, nI_bv, nI_bv]
  apply BitVec.eq_of_toNat_eq
  rw [BitVec.toNat_and, BitVec.toNat_ofNat, BitVec.toNat_ofNat, BitVec.toNat_ofNat, Nat.and_mod_two_pow]
theorem nI_or (a b : Nat) : nI a ||| nI b = nI (a ||| b) := by
  apply nI_ofbv
  rw [Int32.toBitVec_or, nI_bv, nI_bv]
  apply BitVec.eq_of_toNat_eq
  rw [BitVec.toNat_or, BitVec.toNat_ofNat, BitVec.toNat_ofNat, BitVec.toNat_ofNat, Nat.or_mod_two_pow]
/-- no row outside T changes -/
def agr (T : List Nat) (σ τ : PS) : Prop := ∀ j, j ∉ T → τ.1 j = σ.1 j ∧ τ.2 j = σ.2 j
theorem agr_refl {T : List Nat} {σ : PS} : agr T σ σ := fun _ _ => ⟨rfl, rfl⟩
theorem agr_trans {T : List Nat} {a b c : PS} (h1 : agr T a b) (h2 : agr T b c) : agr T a c := fun j hj => ⟨(h2 j hj).1.trans (h1 j hj).1, (h2 j hj).2.trans (h1 j hj).2⟩
theorem agr_mono {T U : List Nat} {a b : PS} (h : agr T a b) (hs : ∀ j ∈ T, j ∈ U) : agr U a b := fun j hj => h j (fun q => hj (hs j q))
theorem agr_psI {T : List Nat} {σ : PS} {i k : Nat} {v : Int32} (h : i ∈ T) : agr T σ (psI σ i k v) := fun j hj => psI_ne (fun e => hj (e ▸ h))
theorem agr_psJ {T : List Nat} {σ : PS} {i k : Nat} {v : Int64} (h : i ∈ T) : agr T σ (psJ σ i k v) := fun j hj => psJ_ne (fun e => hj (e ▸ h))
theorem psI_eq {σ : PS} {i k : Nat} {v : Int32} (b : Nat) : (psI σ i k v).1 i b = if b = k then v else σ.1 i b := by simp [psI]
theorem psI_other {σ : PS} {i j k : Nat} {v : Int32} (h : j ≠ i) : (psI σ i k v).1 j = σ.1 j := (psI_ne h).1
theorem psI_J {σ : PS} {i k : Nat} {v : Int32} : (psI σ i k v).2 = σ.2 := rfl
def un (S : Nat → Nat) (k v : Nat) : Nat → Nat := fun j => if j = k then v else S j
theorem un_eq (S : Nat → Nat) (k v : Nat) : un S k v k = v := if_pos rfl
theorem un_ne (S : Nat → Nat) {k j : Nat} (v : Nat) (h : j ≠ k) : un S k v j = S j := if_neg h
/-- a row of ints that are natural numbers -/
def rowN (σ : PS) (i : Nat) (S : Nat → Nat) : Prop := σ.1 i = fun k => nI (S k)
theorem rowN_get {σ : PS} {i : Nat} {S : Nat → Nat} (h : rowN σ i S) (k : Nat) : σ.1 i k = nI (S k) := congrFun h k
theorem rowN_set {σ : PS} {i k v : Nat} {S : Nat → Nat} (h : rowN σ i S) : rowN (psI σ i k (nI v)) i (un S k v) := by
  funext b
  rw [psI_eq, rowN_get h]
  unfold un
  by_cases e : b = k <;> simp [e]
theorem rowN_agr {T : List Nat} {σ τ : PS} {i : Nat} {S : Nat → Nat} (h : rowN σ i S) (ha : agr T σ τ) (hi : i ∉ T) : rowN τ i S := (ha i hi).1.trans h
theorem rowN_other {σ : PS} {i j k : Nat} {v : Int32} {S : Nat → Nat} (h : rowN σ i S) (hn : i ≠ j) : rowN (psI σ j k v) i S := (psI_other hn).trans h
