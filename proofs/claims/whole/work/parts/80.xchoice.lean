/-! Ways from cells beside each other; the choice by ways out instead of by cells. -/
theorem dW_ok {S : Nat → Nat} (h1 : 2 ≤ S 1) (h2 : S 1 ≤ 6) (hbu : ∀ c, c < 36 → S (37 + c) < 2 ^ 31) {fr : Nat} (hf : fr < S 1 * S 1) : isD (S 1) (fun c => S (37 + c)) fr (dW (S 1) (fun c => S (37 + c)) fr) := by
  obtain ⟨_, _, _, h, _⟩ := M_measures (n := 100) (σ := ((fun j k => if j = 259 then nI (S k) else 0, fun _ _ => 0) : PS)) (Nat.le_refl _) (by funext k; simp) h1 h2 hbu hf
  exact h
theorem tri1 {sd : Nat} {bu : Nat → Nat} {a v : Nat} {Da Dv : Nat → Nat} (h36 : sd * sd ≤ 36) (ha : isD sd bu a Da) (hv : isD sd bu v Dv) (hal : a < sd * sd) {d : Nat} (hd : d < 4) (hn : nb sd a d = v) (h9 : v ≠ 99) (hf : bu v = 0) : ∀ k x, x < sd * sd → Dv x ≠ 99 → Dv x = k → Da x ≠ 99 ∧ Da x ≤ k + 1 := by
  intro k
  induction k with
  | zero =>
    intro x hx hx9 hk
    have e : x = v := by
      apply Classical.byContradiction
      intro hne
      obtain ⟨_, _, _, _, _, _, _, e⟩ := hv.2.1 x hx hne hx9
      omega
    subst e
    have := ha.2.2.1 a d hal hd (by rw [ha.1]; decide) (by rw [hn]; exact h9) (by rw [hn]; exact hf)
    rw [hn, ha.1] at this
    exact this
  | succ k ih =>
    intro x hx hx9 hk
    have hne : x ≠ v := fun q => by rw [q, hv.1] at hk; omega
    obtain ⟨hb, u, e, hu, he, hnu, hu9, hDe⟩ := hv.2.1 x hx hne hx9
    obtain ⟨a1, a2⟩ := ih u hu hu9 (by omega)
    have := ha.2.2.1 u e hu he a1 (by rw [hnu]; omega) (by rw [hnu]; exact hb)
    rw [hnu] at this
    exact ⟨this.1, by omega⟩
theorem tri2 {sd : Nat} {bu : Nat → Nat} {a : Nat} {Da : Nat → Nat} (h36 : sd * sd ≤ 36) (hal : a < sd * sd) (ha : isD sd bu a Da) (D : Nat → Nat → Nat) (hD : ∀ v, v < sd * sd → isD sd bu v (D v)) : ∀ k x, x < sd * sd → Da x = k + 1 → k ≠ 98 → ∃ d, d < 4 ∧ nb sd a d ≠ 99 ∧ bu (nb sd a d) = 0 ∧ D (nb sd a d) x ≠ 99 ∧ D (nb sd a d) x ≤ k := by
  intro k
  induction k with
  | zero =>
    intro x hx hk _
    have hne : x ≠ a := fun q => by rw [q, ha.1] at hk; omega
    obtain ⟨hb, u, d, hu, hd, hn, hu9, hDe⟩ := ha.2.1 x hx hne (by omega)
    have e : u = a := by
      apply Classical.byContradiction
      intro q
      obtain ⟨_, _, _, _, _, _, _, e⟩ := ha.2.1 u hu q hu9
      omega
    subst e
    refine ⟨d, hd, by rw [hn]; omega, by rw [hn]; exact hb, ?_, ?_⟩
    · rw [hn, (hD x hx).1]; decide
    · rw [hn, (hD x hx).1]; exact Nat.le_refl _
  | succ k ih =>
    intro x hx hk h98
    have hne : x ≠ a := fun q => by rw [q, ha.1] at hk; omega
    have hx9 : Da x ≠ 99 := by omega
    have := ha.2.2.2 x hx hx9
    obtain ⟨hb, u, e, hu, he, hnu, hu9, hDe⟩ := ha.2.1 x hx hne hx9
    obtain ⟨d, hd, hn, hb', h9', hle⟩ := ih u hu (by omega) (by omega)
    have hl : nb sd a d < sd * sd := nb_lt hal hn
    have := (hD _ hl).2.2.1 u e hu he h9' (by rw [hnu]; omega) (by rw [hnu]; exact hb)
    rw [hnu] at this
    exact ⟨d, hd, hn, hb', this.1, by omega⟩
/-- nearest: none, or how far the nearest is -/
theorem nrK_char {S D : Nat → Nat} (hD : ∀ t, t < S 2 → D (S (13 + 4 * t)) < 100) : ∀ k, k ≤ S 2 → (nrK S D k = 99 ∧ ∀ t, t < k → S (13 + 4 * t + 2) = 0 → D (S (13 + 4 * t)) = 99) ∨ (nrK S D k < 99 ∧ (∃ t, t < k ∧ S (13 + 4 * t + 2) = 0 ∧ D (S (13 + 4 * t)) = nrK S D k) ∧ ∀ t, t < k → S (13 + 4 * t + 2) = 0 → nrK S D k ≤ D (S (13 + 4 * t)))
  | 0, _ => Or.inl ⟨rfl, fun t ht => by omega⟩
  | k + 1, hk => by
    have hd := hD k (by omega)
    have ih := nrK_char hD k (by omega)
    have hK : nrK S D (k + 1) = if S (13 + 4 * k + 2) = 0 then (if nrK S D k ≤ D (S (13 + 4 * k)) then nrK S D k else D (S (13 + 4 * k))) else nrK S D k := rfl
    rw [hK]
    by_cases e : S (13 + 4 * k + 2) = 0
    · rw [if_pos e]
      by_cases l : nrK S D k ≤ D (S (13 + 4 * k))
      · rw [if_pos l]
        rcases ih with ⟨a, b⟩ | ⟨a, ⟨t, t1, t2, t3⟩, b⟩
        · left
          refine ⟨a, fun t ht h0 => ?_⟩
          by_cases q : t = k
          · subst q; omega
          · exact b t (by omega) h0
        · right
          refine ⟨a, ⟨t, by omega, t2, t3⟩, fun u hu h0 => ?_⟩
          by_cases q : u = k
          · subst q; exact l
          · exact b u (by omega) h0
      · rw [if_neg l]
        right
        have hle := nrK_le S D k
        refine ⟨by omega, ⟨k, by omega, e, rfl⟩, fun u hu h0 => ?_⟩
        by_cases q : u = k
        · subst q; exact Nat.le_refl _
        · rcases ih with ⟨a, b⟩ | ⟨a, _, b⟩
          · have := b u (by omega) h0; omega
          · have := b u (by omega) h0; omega
    · rw [if_neg e]
      rcases ih with ⟨a, b⟩ | ⟨a, ⟨t, t1, t2, t3⟩, b⟩
      · left
        refine ⟨a, fun t ht h0 => ?_⟩
        by_cases q : t = k
        · subst q; exact absurd h0 e
        · exact b t (by omega) h0
      · right
        refine ⟨a, ⟨t, by omega, t2, t3⟩, fun u hu h0 => ?_⟩
        by_cases q : u = k
        · subst q; exact absurd h0 e
        · exact b u (by omega) h0
/-- one cell more is looked at -/
noncomputable def stp (S : Nat → Nat) (ru : RU) (near : Nat) (acc : Nat × Int64) (c : Nat) : Nat × Int64 := if acc.2 < vv S ru near c then (c, vv S ru near c) else acc
/-- of the ways out, in the order of their cells, those to cells below k -/
noncomputable def xfK (S : Nat → Nat) (ru : RU) (near k : Nat) : Nat × Int64 :=
  let a0 : Nat × Int64 := (S 11, 0)
  let a1 := if ps S (S 11) 2 < k then stp S ru near a0 (ps S (S 11) 2) else a0
  let a2 := if ps S (S 11) 0 < k then stp S ru near a1 (ps S (S 11) 0) else a1
  let a3 := if ps S (S 11) 1 < k then stp S ru near a2 (ps S (S 11) 1) else a2
  if ps S (S 11) 3 < k then stp S ru near a3 (ps S (S 11) 3) else a3
theorem ps_cases (S : Nat → Nat) (c d : Nat) : ps S c d = 99 ∨ (ps S c d = nb (S 1) c d ∧ nb (S 1) c d ≠ 99 ∧ S (37 + nb (S 1) c d) = 0) := by
  unfold ps
  by_cases e : nb (S 1) c d = 99
  · rw [if_pos e]; exact Or.inl rfl
  · rw [if_neg e]
    by_cases b : S (37 + nb (S 1) c d) = 0
    · rw [if_pos b]; exact Or.inr ⟨rfl, e, b⟩
    · rw [if_neg b]; exact Or.inl rfl
theorem nb_ord {sd c : Nat} (h1 : 2 ≤ sd) : (nb sd c 2 = 99 ∨ nb sd c 2 + sd = c) ∧ (nb sd c 0 = 99 ∨ nb sd c 0 + 1 = c) ∧ (nb sd c 1 = 99 ∨ nb sd c 1 = c + 1) ∧ (nb sd c 3 = 99 ∨ nb sd c 3 = c + sd) := by
  have n0 : nb sd c 0 = if c % sd = 0 then 99 else c - 1 := rfl
  have n1 : nb sd c 1 = if c % sd = sd - 1 then 99 else c + 1 := rfl
  have n2 : nb sd c 2 = if c < sd then 99 else c - sd := rfl
  have n3 : nb sd c 3 = if c + sd < sd * sd then c + sd else 99 := rfl
  have hz : c % sd ≤ c := Nat.mod_le _ _
  refine ⟨?_, ?_, ?_, ?_⟩
  · rw [n2]; split <;> omega
  · rw [n0]; split <;> omega
  · rw [n1]; split <;> omega
  · rw [n3]; split <;> omega
theorem chK_xf {S : Nat → Nat} {ru : RU} {near : Nat} (h1 : 2 ≤ S 1) : ∀ k, k ≤ 36 → chK S ru near k = xfK S ru near k
  | 0, _ => by simp [chK, xfK]
  | k + 1, hk => by
    have ih := chK_xf (S := S) (ru := ru) (near := near) h1 k (by omega)
    have hK : chK S ru near (k + 1) = if besB (S 1) (S 11) k = true ∧ S (37 + k) = 0 ∧ (chK S ru near k).2 < vv S ru near k then (k, vv S ru near k) else chK S ru near k := rfl
    rw [hK, ih]
    obtain ⟨o2, o0, o1, o3⟩ := nb_ord (c := S 11) h1
    have c0 := ps_cases S (S 11) 0
    have c1 := ps_cases S (S 11) 1
    have c2 := ps_cases S (S 11) 2
    have c3 := ps_cases S (S 11) 3
    have hin : (besB (S 1) (S 11) k = true ∧ S (37 + k) = 0) ↔ (ps S (S 11) 0 = k ∨ ps S (S 11) 1 = k ∨ ps S (S 11) 2 = k ∨ ps S (S 11) 3 = k) := by
      rw [besB_iff]
      unfold bes
      constructor
      · rintro ⟨h, hb⟩
        rcases h with h | h | h | h
        · left; unfold ps; rw [h, if_neg (by omega), if_pos hb]
        · right; left; unfold ps; rw [h, if_neg (by omega), if_pos hb]
        · right; right; left; unfold ps; rw [h, if_neg (by omega), if_pos hb]
        · right; right; right; unfold ps; rw [h, if_neg (by omega), if_pos hb]
      · rintro (h | h | h | h)
        · rcases c0 with q | ⟨q1, q2, q3⟩
          · omega
          · rw [← q1, h] at q3; exact ⟨Or.inl (by omega), q3⟩
        · rcases c1 with q | ⟨q1, q2, q3⟩
          · omega
          · rw [← q1, h] at q3; exact ⟨Or.inr (Or.inl (by omega)), q3⟩
        · rcases c2 with q | ⟨q1, q2, q3⟩
          · omega
          · rw [← q1, h] at q3; exact ⟨Or.inr (Or.inr (Or.inl (by omega))), q3⟩
        · rcases c3 with q | ⟨q1, q2, q3⟩
          · omega
          · rw [← q1, h] at q3; exact ⟨Or.inr (Or.inr (Or.inr (by omega))), q3⟩
    have e0 : ps S (S 11) 0 = 99 ∨ ps S (S 11) 0 + 1 = S 11 := by omega
    have e1 : ps S (S 11) 1 = 99 ∨ ps S (S 11) 1 = S 11 + 1 := by omega
    have e2 : ps S (S 11) 2 = 99 ∨ ps S (S 11) 2 + S 1 = S 11 := by omega
    have e3 : ps S (S 11) 3 = 99 ∨ ps S (S 11) 3 = S 11 + S 1 := by omega
    clear c0 c1 c2 c3 o0 o1 o2 o3
    have hstp : ∀ acc : Nat × Int64, stp S ru near acc k = if acc.2 < vv S ru near k then (k, vv S ru near k) else acc := fun _ => rfl
    by_cases hp : besB (S 1) (S 11) k = true ∧ S (37 + k) = 0
    · have hL : (if besB (S 1) (S 11) k = true ∧ S (37 + k) = 0 ∧ (xfK S ru near k).2 < vv S ru near k then (k, vv S ru near k) else xfK S ru near k) = stp S ru near (xfK S ru near k) k := by
        rw [hstp]
        by_cases z : (xfK S ru near k).2 < vv S ru near k
        · rw [if_pos ⟨hp.1, hp.2, z⟩, if_pos z]
        · rw [if_neg (fun q => z q.2.2), if_neg z]
      rw [hL]
      unfold xfK
      rcases hin.mp hp with h | h | h | h
      · rw [h]
        simp only [show ¬ k < k by omega, show k < k + 1 by omega, if_true, if_false, show ¬ ps S (S 11) 1 < k by omega, show ¬ ps S (S 11) 1 < k + 1 by omega, show ¬ ps S (S 11) 3 < k by omega, show ¬ ps S (S 11) 3 < k + 1 by omega]
        by_cases q : ps S (S 11) 2 < k
        · simp only [q, show ps S (S 11) 2 < k + 1 by omega, if_true]
        · simp only [q, show ¬ ps S (S 11) 2 < k + 1 by omega, if_false]
      · rw [h]
        simp only [show ¬ k < k by omega, show k < k + 1 by omega, if_true, if_false, show ¬ ps S (S 11) 3 < k by omega, show ¬ ps S (S 11) 3 < k + 1 by omega]
        by_cases q : ps S (S 11) 2 < k
        · by_cases q' : ps S (S 11) 0 < k
          · simp only [q, q', show ps S (S 11) 2 < k + 1 by omega, show ps S (S 11) 0 < k + 1 by omega, if_true]
          · simp only [q, q', show ps S (S 11) 2 < k + 1 by omega, show ¬ ps S (S 11) 0 < k + 1 by omega, if_true, if_false]
        · by_cases q' : ps S (S 11) 0 < k
          · simp only [q, q', show ¬ ps S (S 11) 2 < k + 1 by omega, show ps S (S 11) 0 < k + 1 by omega, if_true, if_false]
          · simp only [q, q', show ¬ ps S (S 11) 2 < k + 1 by omega, show ¬ ps S (S 11) 0 < k + 1 by omega, if_false]
      · rw [h]
        simp only [show ¬ k < k by omega, show k < k + 1 by omega, if_true, if_false, show ¬ ps S (S 11) 0 < k by omega, show ¬ ps S (S 11) 0 < k + 1 by omega, show ¬ ps S (S 11) 1 < k by omega, show ¬ ps S (S 11) 1 < k + 1 by omega, show ¬ ps S (S 11) 3 < k by omega, show ¬ ps S (S 11) 3 < k + 1 by omega]
      · rw [h]
        simp only [show ¬ k < k by omega, show k < k + 1 by omega, if_true, if_false]
        have w : ∀ x, x < k + 1 ↔ (x < k ∨ x = k) := fun x => by omega
        have z2 : ps S (S 11) 2 < k + 1 ↔ ps S (S 11) 2 < k := by omega
        have z0 : ps S (S 11) 0 < k + 1 ↔ ps S (S 11) 0 < k := by omega
        have z1 : ps S (S 11) 1 < k + 1 ↔ ps S (S 11) 1 < k := by omega
        simp only [z2, z0, z1]
    · rw [if_neg (fun q => hp ⟨q.1, q.2.1⟩)]
      have hno : ¬ (ps S (S 11) 0 = k ∨ ps S (S 11) 1 = k ∨ ps S (S 11) 2 = k ∨ ps S (S 11) 3 = k) := fun q => hp (hin.mpr q)
      clear hin hp
      unfold xfK
      have z2 : ps S (S 11) 2 < k + 1 ↔ ps S (S 11) 2 < k := by omega
      have z0 : ps S (S 11) 0 < k + 1 ↔ ps S (S 11) 0 < k := by omega
      have z1 : ps S (S 11) 1 < k + 1 ↔ ps S (S 11) 1 < k := by omega
      have z3 : ps S (S 11) 3 < k + 1 ↔ ps S (S 11) 3 < k := by omega
      simp only [z2, z0, z1, z3]
