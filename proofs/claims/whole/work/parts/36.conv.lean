def s0 : PS := iz_X12_init (zr (iz_X11_init (zr (fun _ _ => 0, fun _ _ => 0) 0)) 249)
def r0 : RF := ir_X12_init (zf (ir_X11_init (zf (fun _ _ => false) 0)) 249)
section CONV
variable {D : va_G} {B : Nat} {ca : Nat → ClassId} {H : Heap} {k : Nat}
theorem cv_0 (hk : pk k = 0) (hlt : k < pNN) (hat : va_at D vwCl (pad B k, pg B ca s0 r0 k) H) : va_at D vwCl (pad B k, pe (pad B) ca s0 k) H := by
  rw [pg_c0 hk] at hat
  rw [pe_0 hk]
  have key : ∀ k, k < pNN → pk k = 0 → ∀ q ∈ [1], r0 k q = true := by decide +kernel
  have r1 := key k hlt hk 1 (by decide)
  simp only [r1, if_true, va_rf] at hat
  exact hat
theorem cv_1 (hk : pk k = 1) (hlt : k < pNN) (hat : va_at D vwCl (pad B k, pg B ca s0 r0 k) H) : va_at D vwCl (pad B k, pe (pad B) ca s0 k) H := by
  rw [pg_c1 hk] at hat
  rw [pe_1 hk]
  have key : ∀ k, k < pNN → pk k = 1 → ∀ q ∈ [0], r0 k q = true := by decide +kernel
  have r0 := key k hlt hk 0 (by decide)
  simp only [r0, if_true, va_rf] at hat
  exact hat
theorem cv_2 (hk : pk k = 2) (hlt : k < pNN) (hat : va_at D vwCl (pad B k, pg B ca s0 r0 k) H) : va_at D vwCl (pad B k, pe (pad B) ca s0 k) H := by
  rw [pg_c2 hk] at hat
  rw [pe_2 hk]
  have key : ∀ k, k < pNN → pk k = 2 → ∀ q ∈ [0, 1, 2], r0 k q = true := by decide +kernel
  have r0 := key k hlt hk 0 (by decide)
  have r1 := key k hlt hk 1 (by decide)
  have r2 := key k hlt hk 2 (by decide)
  simp only [r0, r1, r2, if_true, va_rf] at hat
  exact hat
theorem cv_3 (hk : pk k = 3) (hlt : k < pNN) (hat : va_at D vwCl (pad B k, pg B ca s0 r0 k) H) : va_at D vwCl (pad B k, pe (pad B) ca s0 k) H := by
  rw [pg_c3 hk] at hat
  rw [pe_3 hk]
  have key : ∀ k, k < pNN → pk k = 3 → ∀ q ∈ [1, 2, 3, 4], r0 k q = true := by decide +kernel
  have r1 := key k hlt hk 1 (by decide)
  have r2 := key k hlt hk 2 (by decide)
  have r3 := key k hlt hk 3 (by decide)
  have r4 := key k hlt hk 4 (by decide)
  simp only [r1, r2, r3, r4, if_true, va_rf] at hat
  exact hat
theorem cv_4 (hk : pk k = 4) (hlt : k < pNN) (hat : va_at D vwCl (pad B k, pg B ca s0 r0 k) H) : va_at D vwCl (pad B k, pe (pad B) ca s0 k) H := by
  rw [pg_c4 hk] at hat
  rw [pe_4 hk]
  have key : ∀ k, k < pNN → pk k = 4 → ∀ q ∈ [0, 2, 3], r0 k q = true := by decide +kernel
  have r0 := key k hlt hk 0 (by decide)
  have r2 := key k hlt hk 2 (by decide)
  have r3 := key k hlt hk 3 (by decide)
  simp only [r0, r2, r3, if_true, va_rf] at hat
  exact hat
theorem cv_5 (hk : pk k = 5) (hlt : k < pNN) (hat : va_at D vwCl (pad B k, pg B ca s0 r0 k) H) : va_at D vwCl (pad B k, pe (pad B) ca s0 k) H := by
  rw [pg_c5 hk] at hat
  rw [pe_5 hk]
  have key : ∀ k, k < pNN → pk k = 5 → ∀ q ∈ [0, 1, 2, 3], r0 k q = true := by decide +kernel
  have r0 := key k hlt hk 0 (by decide)
  have r1 := key k hlt hk 1 (by decide)
  have r2 := key k hlt hk 2 (by decide)
  have r3 := key k hlt hk 3 (by decide)
  simp only [r0, r1, r2, r3, if_true, va_rf] at hat
  exact hat
theorem cv_6 (hk : pk k = 6) (hlt : k < pNN) (hat : va_at D vwCl (pad B k, pg B ca s0 r0 k) H) : va_at D vwCl (pad B k, pe (pad B) ca s0 k) H := by
  rw [pg_c6 hk] at hat
  rw [pe_6 hk]
  have key : ∀ k, k < pNN → pk k = 6 → ∀ q ∈ [1, 4, 5], r0 k q = true := by decide +kernel
  have r1 := key k hlt hk 1 (by decide)
  have r4 := key k hlt hk 4 (by decide)
  have r5 := key k hlt hk 5 (by decide)
  simp only [r1, r4, r5, if_true, va_rf] at hat
  exact hat
theorem cv_7 (hk : pk k = 7) (hlt : k < pNN) (hat : va_at D vwCl (pad B k, pg B ca s0 r0 k) H) : va_at D vwCl (pad B k, pe (pad B) ca s0 k) H := by
  rw [pg_c7 hk] at hat
  rw [pe_7 hk]
  have key : ∀ k, k < pNN → pk k = 7 → ∀ q ∈ [2, 3, 4, 5], r0 k q = true := by decide +kernel
  have r2 := key k hlt hk 2 (by decide)
  have r3 := key k hlt hk 3 (by decide)
  have r4 := key k hlt hk 4 (by decide)
  have r5 := key k hlt hk 5 (by decide)
  simp only [r2, r3, r4, r5, if_true, va_rf] at hat
  exact hat
theorem cv_8 (hk : pk k = 8) (hlt : k < pNN) (hat : va_at D vwCl (pad B k, pg B ca s0 r0 k) H) : va_at D vwCl (pad B k, pe (pad B) ca s0 k) H := by
  rw [pg_c8 hk] at hat
  rw [pe_8 hk]
  have key : ∀ k, k < pNN → pk k = 8 → ∀ q ∈ [0], r0 k q = true := by decide +kernel
  have r0 := key k hlt hk 0 (by decide)
  simp only [r0, if_true, va_rf] at hat
  exact hat
theorem cv_9 (hk : pk k = 9) (hlt : k < pNN) (hat : va_at D vwCl (pad B k, pg B ca s0 r0 k) H) : va_at D vwCl (pad B k, pe (pad B) ca s0 k) H := by
  rw [pg_c9 hk] at hat
  rw [pe_9 hk]
  have key : ∀ k, k < pNN → pk k = 9 → ∀ q ∈ [7, 8, 9, 10, 11], r0 k q = true := by decide +kernel
  have r7 := key k hlt hk 7 (by decide)
  have r8 := key k hlt hk 8 (by decide)
  have r9 := key k hlt hk 9 (by decide)
  have r10 := key k hlt hk 10 (by decide)
  have r11 := key k hlt hk 11 (by decide)
  simp only [r7, r8, r9, r10, r11, if_true, va_rf] at hat
  exact hat
theorem cv_10 (hk : pk k = 10) (hlt : k < pNN) (hat : va_at D vwCl (pad B k, pg B ca s0 r0 k) H) : va_at D vwCl (pad B k, pe (pad B) ca s0 k) H := by
  rw [pg_c10 hk] at hat
  rw [pe_10 hk]
  have key : ∀ k, k < pNN → pk k = 10 → ∀ q ∈ [0, 1, 2, 3, 4, 5, 6, 7, 8, 9], r0 k q = true := by decide +kernel
  have r0 := key k hlt hk 0 (by decide)
  have r1 := key k hlt hk 1 (by decide)
  have r2 := key k hlt hk 2 (by decide)
  have r3 := key k hlt hk 3 (by decide)
  have r4 := key k hlt hk 4 (by decide)
  have r5 := key k hlt hk 5 (by decide)
  have r6 := key k hlt hk 6 (by decide)
  have r7 := key k hlt hk 7 (by decide)
  have r8 := key k hlt hk 8 (by decide)
  have r9 := key k hlt hk 9 (by decide)
  simp only [r0, r1, r2, r3, r4, r5, r6, r7, r8, r9, if_true, va_rf] at hat
  exact hat
theorem cv_11 (hk : pk k = 11) (hlt : k < pNN) (hat : va_at D vwCl (pad B k, pg B ca s0 r0 k) H) : va_at D vwCl (pad B k, pe (pad B) ca s0 k) H := by
  rw [pg_c11 hk] at hat
  rw [pe_11 hk]
  have key : ∀ k, k < pNN → pk k = 11 → ∀ q ∈ [0, 3, 4, 5, 6, 7, 15, 17, 19, 20, 23, 24, 25, 27, 28, 29, 30, 31, 32, 33, 35, 36, 37, 39, 40, 41, 42], r0 k q = true := by decide +kernel
  have r0 := key k hlt hk 0 (by decide)
  have r3 := key k hlt hk 3 (by decide)
  have r4 := key k hlt hk 4 (by decide)
  have r5 := key k hlt hk 5 (by decide)
  have r6 := key k hlt hk 6 (by decide)
  have r7 := key k hlt hk 7 (by decide)
  have r15 := key k hlt hk 15 (by decide)
  have r17 := key k hlt hk 17 (by decide)
  have r19 := key k hlt hk 19 (by decide)
  have r20 := key k hlt hk 20 (by decide)
  have r23 := key k hlt hk 23 (by decide)
  have r24 := key k hlt hk 24 (by decide)
  have r25 := key k hlt hk 25 (by decide)
  have r27 := key k hlt hk 27 (by decide)
  have r28 := key k hlt hk 28 (by decide)
  have r29 := key k hlt hk 29 (by decide)
  have r30 := key k hlt hk 30 (by decide)
  have r31 := key k hlt hk 31 (by decide)
  have r32 := key k hlt hk 32 (by decide)
  have r33 := key k hlt hk 33 (by decide)
  have r35 := key k hlt hk 35 (by decide)
  have r36 := key k hlt hk 36 (by decide)
  have r37 := key k hlt hk 37 (by decide)
  have r39 := key k hlt hk 39 (by decide)
  have r40 := key k hlt hk 40 (by decide)
  have r41 := key k hlt hk 41 (by decide)
  have r42 := key k hlt hk 42 (by decide)
  simp only [r0, r3, r4, r5, r6, r7, r15, r17, r19, r20, r23, r24, r25, r27, r28, r29, r30, r31, r32, r33, r35, r36, r37, r39, r40, r41, r42, if_true, va_rf] at hat
  exact hat
theorem cv_20 (hk : pk k = 20) (hat : va_at D vwCl (pad B k, pg B ca s0 r0 k) H) : va_at D vwCl (pad B k, pe (pad B) ca s0 k) H := by
  simp only [pg, hk] at hat
  simp only [pe, hk]
  exact hat
theorem cv_21 (hk : pk k = 21) (hat : va_at D vwCl (pad B k, pg B ca s0 r0 k) H) : va_at D vwCl (pad B k, pe (pad B) ca s0 k) H := by
  simp only [pg, hk] at hat
  simp only [pe, hk]
  exact hat
theorem cv_22 (hk : pk k = 22) (hat : va_at D vwCl (pad B k, pg B ca s0 r0 k) H) : va_at D vwCl (pad B k, pe (pad B) ca s0 k) H := by
  simp only [pg, hk] at hat
  simp only [pe, hk]
  exact hat
theorem cv_23 (hk : pk k = 23) (hat : va_at D vwCl (pad B k, pg B ca s0 r0 k) H) : va_at D vwCl (pad B k, pe (pad B) ca s0 k) H := by
  simp only [pg, hk] at hat
  simp only [pe, hk]
  exact hat
theorem arrV_cg {c : ClassId} {N : Nat} {f g : Nat → Value} (h : ∀ j, j < N → f j = g j) : arrV c N f = arrV c N g := by
  unfold arrV
  congr 1
  apply Array.ext
  · simp
  · intro i h1 h2
    simp at h1
    simp [h i h1]
theorem cv_24 (hk : pk k = 24) (hlt : k < pNN) (hat : va_at D vwCl (pad B k, pg B ca s0 r0 k) H) : va_at D vwCl (pad B k, pe (pad B) ca s0 k) H := by
  simp only [pg, hk] at hat
  simp only [pe, hk]
  have key : ∀ k, k < pNN → pk k = 24 → ∀ j, j < pn k → r0 k j = true := by decide +kernel
  have e : H[pad B k]? = some (vp_cell (ca 4) (pn k, .inr (.inr (.inr (.inr (fun j => if r0 k j then some (B + (96 + 6 * j)) else none)))))) := hat
  show H[pad B k]? = some (vp_cell (ca 4) (pn k, .inr (.inr (.inr (.inr (fun j => some (pad B (96 + 6 * j))))))))
  rw [e, vp_cell_q, vp_cell_q]
  congr 1
  exact arrV_cg fun j hj => by rw [key k hlt hk j hj]; rfl
theorem cv_25 (hk : pk k = 25) (hlt : k < pNN) (hat : va_at D vwCl (pad B k, pg B ca s0 r0 k) H) : va_at D vwCl (pad B k, pe (pad B) ca s0 k) H := by
  simp only [pg, hk] at hat
  simp only [pe, hk]
  have key : ∀ k, k < pNN → pk k = 25 → ∀ j, j < pn k → r0 k j = true := by decide +kernel
  have e : H[pad B k]? = some (vp_cell (ca 5) (pn k, .inr (.inr (.inr (.inr (fun j => if r0 k j then some (B + (34 + 15 * j)) else none)))))) := hat
  show H[pad B k]? = some (vp_cell (ca 5) (pn k, .inr (.inr (.inr (.inr (fun j => some (pad B (34 + 15 * j))))))))
  rw [e, vp_cell_q, vp_cell_q]
  congr 1
  exact arrV_cg fun j hj => by rw [key k hlt hk j hj]; rfl
theorem cv_26 (hk : pk k = 26) (hlt : k < pNN) (hat : va_at D vwCl (pad B k, pg B ca s0 r0 k) H) : va_at D vwCl (pad B k, pe (pad B) ca s0 k) H := by
  simp only [pg, hk] at hat
  simp only [pe, hk]
  have key : ∀ k, k < pNN → pk k = 26 → ∀ j, j < pn k → r0 k j = true := by decide +kernel
  have e : H[pad B k]? = some (vp_cell (ca 6) (pn k, .inr (.inr (.inr (.inr (fun j => if r0 k j then some (B + (9 + j)) else none)))))) := hat
  show H[pad B k]? = some (vp_cell (ca 6) (pn k, .inr (.inr (.inr (.inr (fun j => some (pad B (9 + j))))))))
  rw [e, vp_cell_q, vp_cell_q]
  congr 1
  exact arrV_cg fun j hj => by rw [key k hlt hk j hj]; rfl
theorem cv_27 (hk : pk k = 27) (hlt : k < pNN) (hat : va_at D vwCl (pad B k, pg B ca s0 r0 k) H) : va_at D vwCl (pad B k, pe (pad B) ca s0 k) H := by
  simp only [pg, hk] at hat
  simp only [pe, hk]
  have key : ∀ k, k < pNN → pk k = 27 → ∀ j, j < pn k → r0 k j = true := by decide +kernel
  have e : H[pad B k]? = some (vp_cell (ca 6) (pn k, .inr (.inr (.inr (.inr (fun j => if r0 k j then some (B + (232 + j)) else none)))))) := hat
  show H[pad B k]? = some (vp_cell (ca 6) (pn k, .inr (.inr (.inr (.inr (fun j => some (pad B (232 + j))))))))
  rw [e, vp_cell_q, vp_cell_q]
  congr 1
  exact arrV_cg fun j hj => by rw [key k hlt hk j hj]; rfl
theorem pk_all : ∀ k, k < pNN → pk k = 0 ∨ pk k = 1 ∨ pk k = 2 ∨ pk k = 3 ∨ pk k = 4 ∨ pk k = 5 ∨ pk k = 6 ∨ pk k = 7 ∨ pk k = 8 ∨ pk k = 9 ∨ pk k = 10 ∨ pk k = 11 ∨ pk k = 20 ∨ pk k = 21 ∨ pk k = 22 ∨ pk k = 23 ∨ pk k = 24 ∨ pk k = 25 ∨ pk k = 26 ∨ pk k = 27 := by decide +kernel
theorem conv (hP : va_P D vwCl (pWG pNN B ca s0 r0) H) : va_P D vwCl (pWS (pad B) ca s0) H := by
  intro k q hk
  have hlt := pWS_lt hk
  rw [pWS_get hlt] at hk
  cases hk
  have hat := hP k _ (pWG_get hlt)
  rcases pk_all k hlt with h | h | h | h | h | h | h | h | h | h | h | h | h | h | h | h | h | h | h | h
  · exact cv_0 h hlt hat
  · exact cv_1 h hlt hat
  · exact cv_2 h hlt hat
  · exact cv_3 h hlt hat
  · exact cv_4 h hlt hat
  · exact cv_5 h hlt hat
  · exact cv_6 h hlt hat
  · exact cv_7 h hlt hat
  · exact cv_8 h hlt hat
  · exact cv_9 h hlt hat
  · exact cv_10 h hlt hat
  · exact cv_11 h hlt hat
  · exact cv_20 h hat
  · exact cv_21 h hat
  · exact cv_22 h hat
  · exact cv_23 h hat
  · exact cv_24 h hlt hat
  · exact cv_25 h hlt hat
  · exact cv_26 h hlt hat
  · exact cv_27 h hlt hat
end CONV
theorem pInj_pad (B : Nat) : pInj (pad B) := fun i j _ _ h => by unfold pad at h; omega
