/-! How many bits are set. -/
def popK (m : Nat) : Nat → Nat
  | 0 => 0
  | k + 1 => popK m k + m / 2 ^ k % 2
theorem popK_low (m : Nat) : popK m 8 = popK (m % 256) 8 := by
  simp only [popK]
  omega
theorem popK_split (m : Nat) : ∀ k, popK m (8 + k) = popK (m % 256) 8 + popK (m / 256) k
  | 0 => by rw [Nat.add_zero, popK_low]; rfl
  | k + 1 => by
    have h1 : popK m (8 + (k + 1)) = popK m (8 + k) + m / 2 ^ (8 + k) % 2 := rfl
    have h2 : popK (m / 256) (k + 1) = popK (m / 256) k + m / 256 / 2 ^ k % 2 := rfl
    have h3 : m / 2 ^ (8 + k) = m / 256 / 2 ^ k := by rw [Nat.pow_add, Nat.div_div_eq_div_mul]
    rw [h1, h2, h3, popK_split m k]
    omega
theorem and_split {a c : Nat} (x y : Nat) (ha : a < 256) (hc : c < 256) : (a + 256 * x) &&& (c + 256 * y) = (a &&& c) + 256 * (x &&& y) := by
  have hac : a &&& c < 2 ^ 8 := Nat.and_lt_two_pow _ hc
  apply Nat.eq_of_testBit_eq
  intro j
  rw [Nat.add_comm a, Nat.add_comm c, Nat.add_comm (a &&& c), Nat.testBit_and]
  rw [show 256 = 2 ^ 8 from rfl]
  rw [Nat.testBit_two_pow_mul_add _ (show a < 2 ^ 8 from ha), Nat.testBit_two_pow_mul_add _ (show c < 2 ^ 8 from hc), Nat.testBit_two_pow_mul_add _ hac]
  split
  · rw [Nat.testBit_and]
  · rw [Nat.testBit_and]
def f1 (b : Nat) : Nat := b - (b / 2 &&& 0x55)
def f2 (b : Nat) : Nat := (b &&& 0x33) + (b / 4 &&& 0x33)
def f3 (b : Nat) : Nat := (b + b / 16) &&& 15
theorem fs_ok : ∀ b, b < 256 → f3 (f2 (f1 b)) = popK b 8 ∧ f2 (f1 b) % 16 ≤ 4 ∧ f2 (f1 b) ≤ 0x44 ∧ f1 b < 256 := by decide +kernel
theorem m1_ok : ∀ b, b < 256 → ∀ e, e < 2 → (b / 2 + 128 * e) &&& 0x55 = b / 2 &&& 0x55 := by decide +kernel
theorem m2_ok : ∀ b, b < 256 → ∀ e, e < 4 → (b / 4 + 64 * e) &&& 0x33 = b / 4 &&& 0x33 := by decide +kernel
theorem m3_ok : ∀ b, b < 69 → ∀ e, e < 5 → (b + b / 16 + 16 * e) &&& 15 = f3 b := by decide +kernel
theorem by1 {b : Nat} (hb : b < 256) (h M : Nat) : (b + 256 * h) - ((b + 256 * h) / 2 &&& (0x55 + 256 * M)) = f1 b + 256 * (h - (h / 2 &&& M)) := by
  have e : (b + 256 * h) / 2 = (b / 2 + 128 * (h % 2)) + 256 * (h / 2) := by omega
  rw [e, and_split _ _ (by omega) (by decide), m1_ok b hb _ (by omega)]
  unfold f1
  have h1 : b / 2 &&& 0x55 ≤ b / 2 := Nat.and_le_left
  have h2 : h / 2 &&& M ≤ h / 2 := Nat.and_le_left
  omega
theorem by2 {b : Nat} (hb : b < 256) (h M : Nat) : ((b + 256 * h) &&& (0x33 + 256 * M)) + ((b + 256 * h) / 4 &&& (0x33 + 256 * M)) = f2 b + 256 * ((h &&& M) + (h / 4 &&& M)) := by
  have e : (b + 256 * h) / 4 = (b / 4 + 64 * (h % 4)) + 256 * (h / 4) := by omega
  rw [e, and_split _ _ hb (by decide), and_split _ _ (by omega) (by decide), m2_ok b hb _ (by omega)]
  unfold f2
  omega
theorem by3 {b : Nat} (hb : b ≤ 0x44) (h M : Nat) (hh : h % 16 ≤ 4) : ((b + 256 * h) + (b + 256 * h) / 16) &&& (15 + 256 * M) = f3 b + 256 * ((h + h / 16) &&& M) := by
  have e : (b + 256 * h) + (b + 256 * h) / 16 = (b + b / 16 + 16 * (h % 16)) + 256 * (h + h / 16) := by omega
  rw [e, and_split _ _ (by omega) (by decide), m3_ok b (by omega) _ (by omega)]
def X1 (m : Nat) : Nat := m - (m / 2 ^ 1 &&& 0x5555555555555555)
def X2 (m : Nat) : Nat := (X1 m &&& 0x3333333333333333) + (X1 m / 2 ^ 2 &&& 0x3333333333333333)
def X3 (m : Nat) : Nat := (X2 m + X2 m / 2 ^ 4) &&& 0x0F0F0F0F0F0F0F0F
theorem X3_is {b0 b1 b2 b3 b4 : Nat} (h0 : b0 < 256) (h1 : b1 < 256) (h2 : b2 < 256) (h3 : b3 < 256) (h4 : b4 < 256) : X1 (b0 + 256 * (b1 + 256 * (b2 + 256 * (b3 + 256 * b4)))) < 2 ^ 40 ∧ X2 (b0 + 256 * (b1 + 256 * (b2 + 256 * (b3 + 256 * b4)))) < 2 ^ 40 ∧ X3 (b0 + 256 * (b1 + 256 * (b2 + 256 * (b3 + 256 * b4)))) = popK b0 8 + 256 * (popK b1 8 + 256 * (popK b2 8 + 256 * (popK b3 8 + 256 * popK b4 8))) := by
  have a1 : X1 (b0 + 256 * (b1 + 256 * (b2 + 256 * (b3 + 256 * b4)))) = f1 b0 + 256 * (f1 b1 + 256 * (f1 b2 + 256 * (f1 b3 + 256 * f1 b4))) := by
    unfold X1
    rw [show (0x5555555555555555 : Nat) = 0x55 + 256 * (0x55 + 256 * (0x55 + 256 * (0x55 + 256 * (0x55 + 256 * 0x555555)))) from rfl, Nat.pow_one]
    rw [by1 h0, by1 h1, by1 h2, by1 h3]
    have := by1 h4 0 0x555555
    rw [Nat.mul_zero, Nat.add_zero] at this
    rw [this]
    simp
  obtain ⟨p0, q0, r0, s0⟩ := fs_ok b0 h0
  obtain ⟨p1, q1, r1, s1⟩ := fs_ok b1 h1
  obtain ⟨p2, q2, r2, s2⟩ := fs_ok b2 h2
  obtain ⟨p3, q3, r3, s3⟩ := fs_ok b3 h3
  obtain ⟨p4, q4, r4, s4⟩ := fs_ok b4 h4
  have a2 : X2 (b0 + 256 * (b1 + 256 * (b2 + 256 * (b3 + 256 * b4)))) = f2 (f1 b0) + 256 * (f2 (f1 b1) + 256 * (f2 (f1 b2) + 256 * (f2 (f1 b3) + 256 * f2 (f1 b4)))) := by
    unfold X2
    rw [a1, show (0x3333333333333333 : Nat) = 0x33 + 256 * (0x33 + 256 * (0x33 + 256 * (0x33 + 256 * (0x33 + 256 * 0x333333)))) from rfl, show (2 : Nat) ^ 2 = 4 from rfl]
    rw [by2 s0, by2 s1, by2 s2, by2 s3]
    have := by2 s4 0 0x333333
    rw [Nat.mul_zero, Nat.add_zero] at this
    rw [this]
    simp
  have a3 : X3 (b0 + 256 * (b1 + 256 * (b2 + 256 * (b3 + 256 * b4)))) = f3 (f2 (f1 b0)) + 256 * (f3 (f2 (f1 b1)) + 256 * (f3 (f2 (f1 b2)) + 256 * (f3 (f2 (f1 b3)) + 256 * f3 (f2 (f1 b4))))) := by
    unfold X3
    rw [a2, show (0x0F0F0F0F0F0F0F0F : Nat) = 15 + 256 * (15 + 256 * (15 + 256 * (15 + 256 * (15 + 256 * 0x0F0F0F)))) from rfl, show (2 : Nat) ^ 4 = 16 from rfl]
    rw [by3 r0 _ _ (by omega), by3 r1 _ _ (by omega), by3 r2 _ _ (by omega), by3 r3 _ _ (by omega)]
    have := by3 r4 0 0x0F0F0F (by decide)
    rw [Nat.mul_zero, Nat.add_zero] at this
    rw [this]
    simp
  refine ⟨by rw [a1]; omega, by rw [a2]; omega, ?_⟩
  rw [a3, p0, p1, p2, p3, p4]
theorem popK_le (m : Nat) : ∀ k, popK m k ≤ k
  | 0 => Nat.le_refl _
  | k + 1 => by
    have := popK_le m k
    have : popK m (k + 1) = popK m k + m / 2 ^ k % 2 := rfl
    omega
theorem nI_i127 (a : Nat) : nI a &&& 127 = nI (a % 128) := by
  rw [show (127 : Int32) = nI 127 from rfl, nI_and, show (127 : Nat) = 2 ^ 7 - 1 from rfl, Nat.and_two_pow_sub_one_eq_mod]
theorem sum5 {p0 p1 p2 p3 p4 x3 x4 x5 : Nat} (g0 : p0 ≤ 8) (g1 : p1 ≤ 8) (g2 : p2 ≤ 8) (g3 : p3 ≤ 8) (g4 : p4 ≤ 8) (e3 : x3 = p0 + 256 * (p1 + 256 * (p2 + 256 * (p3 + 256 * p4)))) (h4 : x3 + x3 / 256 = x4) (h5 : x4 + x4 / 65536 = x5) : (x5 + x5 / 4294967296) % 128 = p0 + (p1 + (p2 + (p3 + p4))) := by
  have t4 : x4 = (p0 + p1) + 256 * ((p1 + p2) + 256 * ((p2 + p3) + 256 * ((p3 + p4) + 256 * p4))) := by omega
  clear h4 e3
  have t5 : x5 = (p0 + p1 + p2 + p3) + 256 * ((p1 + p2 + p3 + p4) + 256 * ((p2 + p3 + p4) + 256 * ((p3 + p4) + 256 * p4))) := by omega
  clear h5 t4
  have t6 : x5 / 4294967296 = p4 := by omega
  rw [t6, t5]
  clear t6 t5
  omega
theorem J_bitCount {n m : Nat} {σ : PS} (hm : m < 2 ^ 40) : F_J13_bitCount_95d88 n (lN m) σ = some (nI (popK m 40), σ) := by
  have hm5 : m = m % 256 + 256 * (m / 256 % 256 + 256 * (m / 256 / 256 % 256 + 256 * (m / 256 / 256 / 256 % 256 + 256 * (m / 256 / 256 / 256 / 256)))) := by omega
  obtain ⟨l1, l2, e3⟩ := X3_is (b0 := m % 256) (b1 := m / 256 % 256) (b2 := m / 256 / 256 % 256) (b3 := m / 256 / 256 / 256 % 256) (b4 := m / 256 / 256 / 256 / 256) (by omega) (by omega) (by omega) (by omega) (by omega)
  rw [← hm5] at l1 l2 e3
  have hp : popK m 40 = popK (m % 256) 8 + (popK (m / 256 % 256) 8 + (popK (m / 256 / 256 % 256) 8 + (popK (m / 256 / 256 / 256 % 256) 8 + popK (m / 256 / 256 / 256 / 256) 8))) := by
    rw [show 40 = 8 + 32 from rfl, popK_split, show 32 = 8 + 24 from rfl, popK_split, show 24 = 8 + 16 from rfl, popK_split, show 16 = 8 + 8 from rfl, popK_split]
  have g0 := popK_le (m % 256) 8
  have g1 := popK_le (m / 256 % 256) 8
  have g2 := popK_le (m / 256 / 256 % 256) 8
  have g3 := popK_le (m / 256 / 256 / 256 % 256) 8
  have g4 := popK_le (m / 256 / 256 / 256 / 256) 8
  generalize popK (m % 256) 8 = p0 at *
  generalize popK (m / 256 % 256) 8 = p1 at *
  generalize popK (m / 256 / 256 % 256) 8 = p2 at *
  generalize popK (m / 256 / 256 / 256 % 256) 8 = p3 at *
  generalize popK (m / 256 / 256 / 256 / 256) 8 = p4 at *
  clear hm5
  unfold F_J13_bitCount_95d88
  have s1 : lN m - ((((lN m).toUInt64 >>> ((1 : Int32).toInt64.toUInt64 &&& Int64.toUInt64 63)).toInt64) &&& (6148914691236517205 : Int64)) = lN (X1 m) := by
    rw [show (1 : Int32) = nI 1 from rfl, wb_shr (by omega) (by decide), show (6148914691236517205 : Int64) = lN 0x5555555555555555 from rfl, wb_and (by omega) (by decide)]
    have : m / 2 ^ 1 &&& 0x5555555555555555 ≤ m / 2 ^ 1 := Nat.and_le_left
    rw [lN_sub (by omega)]
    rfl
  rw [s1]
  have s2 : (lN (X1 m) &&& (3689348814741910323 : Int64)) + ((((lN (X1 m)).toUInt64 >>> ((2 : Int32).toInt64.toUInt64 &&& Int64.toUInt64 63)).toInt64) &&& (3689348814741910323 : Int64)) = lN (X2 m) := by
    rw [show (2 : Int32) = nI 2 from rfl, wb_shr (by omega) (by decide), show (3689348814741910323 : Int64) = lN 0x3333333333333333 from rfl, wb_and (by omega) (by decide), wb_and (by omega) (by decide), lN_add]
    rfl
  rw [s2]
  have s3 : (lN (X2 m) + (((lN (X2 m)).toUInt64 >>> ((4 : Int32).toInt64.toUInt64 &&& Int64.toUInt64 63)).toInt64)) &&& (1085102592571150095 : Int64) = lN (X3 m) := by
    rw [show (4 : Int32) = nI 4 from rfl, wb_shr (by omega) (by decide), show (1085102592571150095 : Int64) = lN 0x0F0F0F0F0F0F0F0F from rfl, lN_add, wb_and (by omega) (by decide)]
    rfl
  rw [s3]
  have l3 : X3 m < 2 ^ 40 := by rw [e3]; omega
  have s4 : lN (X3 m) + (((lN (X3 m)).toUInt64 >>> ((8 : Int32).toInt64.toUInt64 &&& Int64.toUInt64 63)).toInt64) = lN (X3 m + X3 m / 256) := by
    rw [show (8 : Int32) = nI 8 from rfl, wb_shr (by omega) (by decide), lN_add]
  rw [s4]
  generalize hx4 : X3 m + X3 m / 256 = x4
  have s5 : lN x4 + (((lN x4).toUInt64 >>> ((16 : Int32).toInt64.toUInt64 &&& Int64.toUInt64 63)).toInt64) = lN (x4 + x4 / 65536) := by
    rw [show (16 : Int32) = nI 16 from rfl, wb_shr (by omega) (by decide), lN_add]
  rw [s5]
  generalize hx5 : x4 + x4 / 65536 = x5
  have s6 : lN x5 + (((lN x5).toUInt64 >>> ((32 : Int32).toInt64.toUInt64 &&& Int64.toUInt64 63)).toInt64) = lN (x5 + x5 / 4294967296) := by
    rw [show (32 : Int32) = nI 32 from rfl, wb_shr (by omega) (by decide), lN_add]
  rw [s6, lN_i, nI_i127, sum5 g0 g1 g2 g3 g4 e3 hx4 hx5, hp]
theorem J_bitCount6 : ∀ x, x < 64 → ∀ (n : Nat) (σ : PS), F_J6_bitCount_0f7a4 n (nI x) σ = some (nI (pcn x), σ) := by
  intro x hx n σ
  unfold F_J6_bitCount_0f7a4
  congr 1
  congr 1
  revert x
  decide +kernel
