/-! What holds between two calls, on both sides. -/
abbrev IMG : Type := (Nat → Nat) × Int32 × Int32
def scX (σ : PS) (i : Nat) (S : Nat → Nat) (fo x : Int32) : Prop := RX σ (i + 7) S ∧ RX σ (i + 1) (begS S) ∧ σ.1 i 4 = nI (S 178) ∧ σ.1 i 5 = fo ∧ σ.1 i 6 = x ∧ ∀ j, j < S 178 → σ.1 (i + 13) j = nI (S (158 + 2 * j)) ∧ σ.1 (i + 14) j = nI (S (158 + 2 * j + 1))
def imX (σ : PS) (im : Nat → Option IMG) : Prop := ∀ k, k < 4 → (im k = none → σ.1 (34 + 15 * k) 7 = 0) ∧ ∀ s, im k = some s → σ.1 (34 + 15 * k) 7 = 1 ∧ scX σ (34 + 15 * k) s.1 s.2.1 s.2.2
def imM (σ : PS) (im : Nat → Option IMG) : Prop := ∀ k, k < 4 → (im k = none → σ.1 276 k = 0) ∧ ∀ s, im k = some s → σ.1 276 k = 1 ∧ σ.1 274 k = s.2.1 ∧ σ.1 275 k = s.2.2 ∧ ∀ i, i < 179 → σ.1 273 (179 * k + i) = nI (s.1 i)
def IX (σ : PS) (B : Nat → Int32) (sz z : Nat) (cs : Nat → List CL) (S : Nat → Nat) (h p : Nat) (H : Nat → Nat → Nat) (fo x : Int32) (im : Nat → Option IMG) : Prop := TpX σ B sz ∧ σ.1 7 0 = nI z ∧ (∀ r, r < z → stX σ r (cs r)) ∧ scX σ 18 S fo x ∧ hX σ h p H ∧ imX σ im
def IM (σ : PS) (B : Nat → Int32) (sz z : Nat) (cs : Nat → List CL) (S : Nat → Nat) (h : Nat) (H : Nat → Nat → Nat) (fo x : Int32) (im : Nat → Option IMG) : Prop := TpM σ B sz ∧ σ.1 249 2 = nI z ∧ (∀ r, r < z → stM σ r (cs r)) ∧ rowN σ 259 S ∧ σ.1 249 21 = fo ∧ σ.1 249 22 = x ∧ hM σ h H ∧ imM σ im
def okC (S : Nat → Nat) : Prop := S 0 = 1 ∧ okW S (S 10 + 2) ∧ okW (begS S) 2 ∧ S 10 ≤ 999 ∧ S 178 ≤ 10 ∧ (∀ j, j < S 178 → S (158 + 2 * j) ≤ 60 ∧ S (158 + 2 * j + 1) < S 1 * S 1) ∧ ∀ x, 179 ≤ x → S x = 0
def okS (S : Nat → Nat) : Prop := (∀ i, S i = 0) ∨ okC S
def vF2 (z : Nat) (fo : Int32) : Prop := fo = -1 ∨ ∃ r, r < z ∧ fo = nI r
def okG (B : Nat → Int32) (z : Nat) (S : Nat → Nat) (h : Nat) (H : Nat → Nat → Nat) (fo x : Int32) (im : Nat → Option IMG) : Prop := (∀ i, byt (B i)) ∧ z ≤ 6 ∧ okS S ∧ vF2 z fo ∧ 0 ≤ x ∧ (h ≠ 0 → S 0 = 1) ∧ (∀ j, j < h → lk S (H j) ∧ okW (H j) (H j 10 + 2) ∧ H j 10 ≤ 999) ∧ ∀ k, k < 4 → ∀ s, im k = some s → okS s.1 ∧ vF2 z s.2.1 ∧ 0 ≤ s.2.2
def Inv (σ : PS) : Prop := ∃ (B : Nat → Int32) (sz z : Nat) (cs : Nat → List CL) (S : Nat → Nat) (h p : Nat) (H : Nat → Nat → Nat) (fo x : Int32) (im : Nat → Option IMG), okG B z S h H fo x im ∧ IX σ B sz z cs S h p H fo x im ∧ IM σ B sz z cs S h H fo x im
/-- both calls answer alike -/
def Kok (F1 F2 : PS → Option (Int32 × PS)) (σ : PS) : Prop := ∃ v τ1 τ2, F1 σ = some (v, τ1) ∧ F2 τ1 = some (v, τ2) ∧ Inv τ2
def loA (σ τ : PS) : Prop := ∀ j, j < 249 → τ.1 j = σ.1 j ∧ τ.2 j = σ.2 j
def hiA (σ τ : PS) : Prop := ∀ j, 249 ≤ j → τ.1 j = σ.1 j ∧ τ.2 j = σ.2 j
theorem loA_agm {σ τ : PS} {T Fs : List Nat} (h : agm T Fs σ τ) (hT : ∀ j, j ∈ T → 249 ≤ j) : loA σ τ := fun j hj => h.1 j (fun q => by have := hT j q; omega) (by omega)
theorem hiA_agr {σ τ : PS} {T : List Nat} (h : agr T σ τ) (hT : ∀ j, j ∈ T → j < 249) : hiA σ τ := fun j hj => h j (fun q => by have := hT j q; omega)
theorem hiA_agx {σ τ : PS} {T : List Nat} (h : agx T σ τ) (hT : ∀ j, j ∈ T → j < 249) : hiA σ τ := fun j hj => h.1 j (fun q => by have := hT j q; omega) (by omega) (by omega)
theorem RX_rows {σ τ : PS} {i : Nat} {S : Nat → Nat} (h : RX σ i S) (hh : ∀ j, i ≤ j → j ≤ i + 5 → τ.1 j = σ.1 j ∧ τ.2 j = σ.2 j) : RX τ i S := by
  unfold RX
  rw [(hh i (by omega) (by omega)).1, (hh i (by omega) (by omega)).2, (hh (i + 1) (by omega) (by omega)).1, (hh (i + 2) (by omega) (by omega)).1, (hh (i + 3) (by omega) (by omega)).1, (hh (i + 4) (by omega) (by omega)).1, (hh (i + 5) (by omega) (by omega)).1]
  exact h
theorem scX_rows {σ τ : PS} {i : Nat} {S : Nat → Nat} {fo x : Int32} (h : scX σ i S fo x) (hh : ∀ j, i ≤ j → j ≤ i + 14 → τ.1 j = σ.1 j ∧ τ.2 j = σ.2 j) : scX τ i S fo x := by
  obtain ⟨a, b, c, d, e, f⟩ := h
  refine ⟨RX_rows a (fun j h1 h2 => hh j (by omega) (by omega)), RX_rows b (fun j h1 h2 => hh j (by omega) (by omega)), ?_, ?_, ?_, fun j hj => ?_⟩
  · rw [(hh i (by omega) (by omega)).1]; exact c
  · rw [(hh i (by omega) (by omega)).1]; exact d
  · rw [(hh i (by omega) (by omega)).1]; exact e
  · rw [(hh (i + 13) (by omega) (by omega)).1, (hh (i + 14) (by omega) (by omega)).1]; exact f j hj
theorem imX_rows {σ τ : PS} {im : Nat → Option IMG} (h : imX σ im) (hh : ∀ j, 34 ≤ j → j < 94 → τ.1 j = σ.1 j ∧ τ.2 j = σ.2 j) : imX τ im := by
  intro k hk
  obtain ⟨a, b⟩ := h k hk
  refine ⟨fun q => by rw [(hh (34 + 15 * k) (by omega) (by omega)).1]; exact a q, fun s hs => ?_⟩
  obtain ⟨c, d⟩ := b s hs
  exact ⟨by rw [(hh (34 + 15 * k) (by omega) (by omega)).1]; exact c, scX_rows d (fun j h1 h2 => hh j (by omega) (by omega))⟩
theorem hX_rows {σ τ : PS} {h p : Nat} {H : Nat → Nat → Nat} (hh : hX σ h p H) (hr : ∀ j, 94 ≤ j → j < 216 → τ.1 j = σ.1 j ∧ τ.2 j = σ.2 j) : hX τ h p H := by
  obtain ⟨a, b, c, d, e⟩ := hh
  refine ⟨a, b, by rw [(hr 94 (by omega) (by omega)).1]; exact c, by rw [(hr 94 (by omega) (by omega)).1]; exact d, fun k hk => RX_rows (e k hk) (fun j h1 h2 => ?_)⟩
  have := Nat.mod_lt (p + 19 - k) (show 0 < 20 by decide)
  exact hr j (by omega) (by omega)
theorem stX_rows {σ τ : PS} {r : Nat} {cs : List CL} (h : stX σ r cs) (hr : r < 6) (hh : ∀ j, 8 ≤ j → j < 17 → τ.1 j = σ.1 j) : stX τ r cs := by
  unfold stX
  rw [hh 15 (by omega) (by omega), hh (9 + r) (by omega) (by omega), hh 16 (by omega) (by omega)]
  exact h
/-- the class's state is the same but for what is scratch -/
def sX (σ τ : PS) : Prop := (∀ j, j < 216 → j ≠ 1 → j ≠ 3 → j ≠ 4 → j ≠ 5 → j ≠ 6 → j ≠ 7 → j ≠ 17 → τ.1 j = σ.1 j ∧ τ.2 j = σ.2 j) ∧ τ.1 7 0 = σ.1 7 0 ∧ τ.1 1 1 = σ.1 1 1 ∧ hiA σ τ
theorem sX_refl {σ : PS} : sX σ σ := ⟨fun _ _ _ _ _ _ _ _ _ => ⟨rfl, rfl⟩, rfl, rfl, fun _ _ => ⟨rfl, rfl⟩⟩
theorem sX_agx {σ τ : PS} {T : List Nat} (h : agx T σ τ) (hT : ∀ j, j ∈ T → 216 ≤ j ∧ j < 249) : sX σ τ := by
  refine ⟨fun j hj _ _ _ _ _ h7 h17 => h.1 j (fun q => by have := hT j q; omega) h7 h17, h.2, ?_, hiA_agx h (fun j hj => (hT j hj).2)⟩
  rw [(h.1 1 (fun q => by have := hT 1 q; omega) (by decide) (by decide)).1]
theorem sX_agr {σ τ : PS} {T : List Nat} (h : agr T σ τ) (hT : ∀ j, j ∈ T → 216 ≤ j ∧ j < 249) : sX σ τ := by
  refine ⟨fun j hj _ _ _ _ _ _ _ => h j (fun q => by have := hT j q; omega), ?_, ?_, hiA_agr h (fun j hj => (hT j hj).2)⟩
  · rw [(h 7 (fun q => by have := hT 7 q; omega)).1]
  · rw [(h 1 (fun q => by have := hT 1 q; omega)).1]
theorem sX_trans {a b c : PS} (h1 : sX a b) (h2 : sX b c) : sX a c := ⟨fun j hj q1 q2 q3 q4 q5 q6 q7 => ⟨(h2.1 j hj q1 q2 q3 q4 q5 q6 q7).1.trans (h1.1 j hj q1 q2 q3 q4 q5 q6 q7).1, (h2.1 j hj q1 q2 q3 q4 q5 q6 q7).2.trans (h1.1 j hj q1 q2 q3 q4 q5 q6 q7).2⟩, h2.2.1.trans h1.2.1, h2.2.2.1.trans h1.2.2.1, fun j hj => ⟨(h2.2.2.2 j hj).1.trans (h1.2.2.2 j hj).1, (h2.2.2.2 j hj).2.trans (h1.2.2.2 j hj).2⟩⟩
section IV
variable {B : Nat → Int32} {sz z h p : Nat} {cs : Nat → List CL} {S : Nat → Nat} {H : Nat → Nat → Nat} {fo x : Int32} {im : Nat → Option IMG} {σ τ : PS}
theorem IX_sX (hi : IX σ B sz z cs S h p H fo x im) (hz : z ≤ 6) (ha : sX σ τ) : IX τ B sz z cs S h p H fo x im := by
  obtain ⟨⟨a1, a2, a3⟩, b, c, d, e, f⟩ := hi
  obtain ⟨s1, s2, s3, s4⟩ := ha
  have hh : ∀ j, 18 ≤ j → j < 216 → τ.1 j = σ.1 j ∧ τ.2 j = σ.2 j := fun j h1 h2 => s1 j h2 (by omega) (by omega) (by omega) (by omega) (by omega) (by omega) (by omega)
  refine ⟨⟨?_, by rw [s3]; exact a2, a3⟩, by rw [s2]; exact b, fun r hr => stX_rows (c r hr) (by omega) (fun j h1 h2 => (s1 j (by omega) (by omega) (by omega) (by omega) (by omega) (by omega) (by omega) (by omega)).1), scX_rows d (fun j h1 h2 => hh j (by omega) (by omega)), hX_rows e (fun j h1 h2 => hh j (by omega) (by omega)), imX_rows f (fun j h1 h2 => hh j (by omega) (by omega))⟩
  rw [(s1 2 (by decide) (by decide) (by decide) (by decide) (by decide) (by decide) (by decide) (by decide)).1]; exact a1
theorem IX_lo (hi : IX σ B sz z cs S h p H fo x im) (hz : z ≤ 6) (ha : loA σ τ) : IX τ B sz z cs S h p H fo x im := by
  obtain ⟨⟨a1, a2, a3⟩, b, c, d, e, f⟩ := hi
  exact ⟨⟨by rw [(ha 2 (by decide)).1]; exact a1, by rw [(ha 1 (by decide)).1]; exact a2, a3⟩, by rw [(ha 7 (by decide)).1]; exact b, fun r hr => stX_rows (c r hr) (by omega) (fun j h1 h2 => (ha j (by omega)).1), scX_rows d (fun j h1 h2 => ha j (by omega)), hX_rows e (fun j h1 h2 => ha j (by omega)), imX_rows f (fun j h1 h2 => ha j (by omega))⟩
theorem IM_hi (hi : IM σ B sz z cs S h H fo x im) (ha : hiA σ τ) : IM τ B sz z cs S h H fo x im := by
  obtain ⟨⟨a1, a2, a3⟩, b, c, d, e, f, g, i⟩ := hi
  have h249 := (ha 249 (by omega)).1
  refine ⟨⟨by rw [(ha 250 (by omega)).1]; exact a1, by rw [h249]; exact a2, a3⟩, by rw [h249]; exact b, fun r hr => ?_, ?_, by rw [h249]; exact e, by rw [h249]; exact f, ?_, ?_⟩
  · have := c r hr
    unfold stM at this ⊢
    rw [(ha 253 (by omega)).1, (ha 251 (by omega)).1, (ha 254 (by omega)).1]
    exact this
  · exact (ha 259 (by omega)).1.trans d
  · obtain ⟨g1, g2, g3⟩ := g
    exact ⟨g1, by rw [h249]; exact g2, fun j hj k hk => by rw [(ha 262 (by omega)).1]; exact g3 j hj k hk⟩
  · unfold imM
    rw [(ha 276 (by omega)).1, (ha 274 (by omega)).1, (ha 275 (by omega)).1, (ha 273 (by omega)).1]
    exact i
/-- the reference's state is the same but for what is scratch -/
def sM (σ τ : PS) : Prop := loA σ τ ∧ (∀ j, j = 250 ∨ j = 251 ∨ j = 253 ∨ j = 254 ∨ j = 259 ∨ j = 262 ∨ j = 273 ∨ j = 274 ∨ j = 275 ∨ j = 276 → τ.1 j = σ.1 j) ∧ ∀ k, k = 1 ∨ k = 2 ∨ k = 21 ∨ k = 22 ∨ k = 26 → τ.1 249 k = σ.1 249 k
theorem IM_sM (hi : IM σ B sz z cs S h H fo x im) (ha : sM σ τ) : IM τ B sz z cs S h H fo x im := by
  obtain ⟨⟨a1, a2, a3⟩, b, c, d, e, f, g, i⟩ := hi
  obtain ⟨s0, s1, s2⟩ := ha
  refine ⟨⟨by rw [s1 250 (by omega)]; exact a1, by rw [s2 1 (by omega)]; exact a2, a3⟩, by rw [s2 2 (by omega)]; exact b, fun r hr => ?_, ?_, by rw [s2 21 (by omega)]; exact e, by rw [s2 22 (by omega)]; exact f, ?_, ?_⟩
  · have := c r hr
    unfold stM at this ⊢
    rw [s1 253 (by omega), s1 251 (by omega), s1 254 (by omega)]
    exact this
  · exact (s1 259 (by omega)).trans d
  · obtain ⟨g1, g2, g3⟩ := g
    exact ⟨g1, by rw [s2 26 (by omega)]; exact g2, fun j hj k hk => by rw [s1 262 (by omega)]; exact g3 j hj k hk⟩
  · unfold imM
    rw [s1 276 (by omega), s1 274 (by omega), s1 275 (by omega), s1 273 (by omega)]
    exact i
theorem sM_agm {T Fs : List Nat} (h : agm T Fs σ τ) (hT : ∀ j, j ∈ T → j = 252 ∨ (255 ≤ j ∧ j < 259) ∨ j = 260 ∨ j = 261 ∨ (263 ≤ j ∧ j < 273)) (hF : ∀ k, k ∈ Fs → k ≠ 1 ∧ k ≠ 2 ∧ k ≠ 21 ∧ k ≠ 22 ∧ k ≠ 26) : sM σ τ :=
  ⟨loA_agm h (fun j hj => by have := hT j hj; omega), fun j hj => (h.1 j (fun q => by have := hT j q; omega) (by omega)).1, fun k hk => (h.2 k (fun q => by have := hF k q; omega)).1⟩
/-- with the row of what is said laid back -/
theorem sM_row {T Fs : List Nat} {S' : Nat → Nat} (h : agm T Fs σ τ) (h1 : rowN σ 259 S') (h2 : rowN τ 259 S') (hT : ∀ j, j ∈ T → j = 252 ∨ (255 ≤ j ∧ j < 262) ∨ (263 ≤ j ∧ j < 273)) (hF : ∀ k, k ∈ Fs → k ≠ 1 ∧ k ≠ 2 ∧ k ≠ 21 ∧ k ≠ 22 ∧ k ≠ 26) : sM σ τ := by
  refine ⟨loA_agm h (fun j hj => by have := hT j hj; omega), fun j hj => ?_, fun k hk => (h.2 k (fun q => by have := hF k q; omega)).1⟩
  by_cases e : j = 259
  · rw [e]; exact Eq.trans h2 h1.symm
  · exact (h.1 j (fun q => by have := hT j q; omega) (by omega)).1
theorem sM_refl : sM σ σ := ⟨fun _ _ => ⟨rfl, rfl⟩, fun _ _ => rfl, fun _ _ => rfl⟩
/-- a call that asks only -/
theorem K_ask {F1 F2 : PS → Option (Int32 × PS)} (hg : okG B z S h H fo x im) (hx : IX σ B sz z cs S h p H fo x im) (hm : IM σ B sz z cs S h H fo x im) (v : Int32) (h1 : ∃ τ, F1 σ = some (v, τ) ∧ sX σ τ) (h2 : ∀ τ, IM τ B sz z cs S h H fo x im → ∃ υ, F2 τ = some (v, υ) ∧ sM τ υ) : Kok F1 F2 σ := by
  obtain ⟨τ1, a1, a2⟩ := h1
  have hm1 := IM_hi hm a2.2.2.2
  obtain ⟨τ2, b1, b2⟩ := h2 τ1 hm1
  exact ⟨v, τ1, τ2, a1, b1, B, sz, z, cs, S, h, p, H, fo, x, im, hg, IX_lo (IX_sX hx hg.2.1 a2) hg.2.1 b2.1, IM_sM hm1 b2⟩
/-- a call that changes -/
theorem K_do {F1 F2 : PS → Option (Int32 × PS)} {B' : Nat → Int32} {sz' z' h' p' : Nat} {cs' : Nat → List CL} {S' : Nat → Nat} {H' : Nat → Nat → Nat} {fo' x' : Int32} {im' : Nat → Option IMG} (hg : okG B' z' S' h' H' fo' x' im') (hm : IM σ B sz z cs S h H fo x im) (v : Int32) (h1 : ∃ τ, F1 σ = some (v, τ) ∧ IX τ B' sz' z' cs' S' h' p' H' fo' x' im' ∧ hiA σ τ) (h2 : ∀ τ, IM τ B sz z cs S h H fo x im → ∃ υ, F2 τ = some (v, υ) ∧ IM υ B' sz' z' cs' S' h' H' fo' x' im' ∧ loA τ υ) : Kok F1 F2 σ := by
  obtain ⟨τ1, a1, a2, a3⟩ := h1
  obtain ⟨τ2, b1, b2, b3⟩ := h2 τ1 (IM_hi hm a3)
  exact ⟨v, τ1, τ2, a1, b1, B', sz', z', cs', S', h', p', H', fo', x', im', hg, IX_lo a2 hg.2.1 b3, b2⟩
/-- the rule in force -/
noncomputable def ruO (cs : Nat → List CL) (fo : Int32) : RU := if fo = -1 then none else some (fun w => fC w (cs fo.toNatClampNeg))
theorem fo_X {n : Nat} (hn : 1000 ≤ n) (hi : IX σ B sz z cs S h p H fo x im) (hz : z ≤ 6) (hv : vF2 z fo) : foX n σ (ruO cs fo) fo := by
  unfold ruO
  rcases hv with e | ⟨r, hr, e⟩
  · rw [if_pos e]; exact e
  · subst e
    rw [if_neg (show ¬ nI r = -1 from m1_ne (by omega)), nI_clamp (by omega)]
    exact ⟨r, z, hr, hz, hi.2.1, rfl, X_ruX hn (by omega) (hi.2.2.1 r hr)⟩
theorem fo_M {n : Nat} (hn : 1000 ≤ n) (hi : IM σ B sz z cs S h H fo x im) (hz : z ≤ 6) (hv : vF2 z fo) : foM n σ (ruO cs fo) := by
  unfold ruO
  have h21 := hi.2.2.2.2.1
  rcases hv with e | ⟨r, hr, e⟩
  · rw [if_pos e]
    show σ.1 249 21 = m1
    rw [h21]; exact e
  · subst e
    rw [if_neg (show ¬ nI r = -1 from m1_ne (by omega)), nI_clamp (by omega)]
    exact ⟨r, by omega, h21, M_ruM (by omega) hn (hi.2.2.1 r hr)⟩
end IV
