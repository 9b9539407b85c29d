section OF
variable {n : Nat}
theorem X_has {σ : PS} {z : Nat} (h : σ.1 7 0 = nI z) (x : Int32) : F_X4_has n x σ = some (isI z x, σ) := by
  unfold F_X4_has isI
  rw [h]
  split
  · rfl
  · split <;> rfl
theorem M_isRule {σ : PS} {z : Nat} (h : σ.1 249 2 = nI z) (x : Int32) : F_X12_isRule n x σ = some (isI z x, σ) := by
  unfold F_X12_isRule isI
  rw [h]
  split
  · rfl
  · split <;> rfl
/-- a rule is put in force: what is answered, what is in force then -/
def frA (z : Nat) (fo x : Int32) : Int32 := if x = -1 then fo else if isI z x = 0 then -2 else fo
def frF (z : Nat) (fo x : Int32) : Int32 := if x = -1 then x else if isI z x = 0 then fo else x
theorem O_force_X {σ : PS} {z : Nat} {fo : Int32} (h : σ.1 7 0 = nI z) (hf : σ.1 18 5 = fo) (x : Int32) : ∃ τ, F_X11_force n x σ = some (frA z fo x, τ) ∧ τ.1 18 5 = frF z fo x ∧ (τ = σ ∨ τ = psI σ 18 5 x) := by
  unfold F_X11_force frA frF
  by_cases e : x = -1
  · simp only [e, if_true]
    exact ⟨_, by rw [hf], by rw [psI_eq, if_pos rfl], Or.inr rfl⟩
  · simp only [e, if_false]
    rw [X_has h, Option.bind_some]
    by_cases q : isI z x = 0
    · simp only [q, if_true]
      exact ⟨σ, rfl, hf, Or.inl rfl⟩
    · simp only [q, if_false]
      exact ⟨_, by rw [hf], by rw [psI_eq, if_pos rfl], Or.inr rfl⟩
theorem O_force_M {σ : PS} {z : Nat} {fo : Int32} (h : σ.1 249 2 = nI z) (hf : σ.1 249 21 = fo) (x : Int32) : ∃ τ, F_X12_force n x σ = some (frA z fo x, τ) ∧ τ.1 249 21 = frF z fo x ∧ (τ = σ ∨ τ = psI σ 249 21 x) := by
  unfold F_X12_force frA frF
  by_cases e : x = -1
  · simp only [e, if_true]
    exact ⟨_, by rw [hf], by rw [psI_eq, if_pos rfl], Or.inr rfl⟩
  · simp only [e, if_false]
    rw [M_isRule h, Option.bind_some]
    by_cases q : isI z x = 0
    · simp only [q, if_true]
      exact ⟨σ, rfl, hf, Or.inl rfl⟩
    · simp only [q, if_false]
      exact ⟨_, by rw [hf], by rw [psI_eq, if_pos rfl], Or.inr rfl⟩
theorem O_seed_X {σ : PS} {s : Int32} (hf : σ.1 18 6 = s) (x : Int32) : F_X11_seed n x σ = some (if 0 ≤ x then (s, psI σ 18 6 x) else (-1, σ)) := by
  unfold F_X11_seed
  rw [hf]
  split <;> rfl
theorem O_seed_M {σ : PS} {s : Int32} (hf : σ.1 249 22 = s) (x : Int32) : F_X12_seed n x σ = some (if 0 ≤ x then (s, psI σ 249 22 x) else (-1, σ)) := by
  unfold F_X12_seed
  rw [hf]
  split <;> rfl
end OF
