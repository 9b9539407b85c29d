/-! Distances: what they are, that they are one, and that the reference's queue finds them. -/
theorem nb_lt {sd c d : Nat} (hc : c < sd * sd) (h : nb sd c d ≠ 99) : nb sd c d < sd * sd := by
  unfold nb at h ⊢
  generalize hq : sd * sd = q at *
  by_cases e0 : d = 0
  · simp only [e0, if_true] at h ⊢
    by_cases e : c % sd = 0
    · simp [e] at h
    · simp only [e, if_false]; omega
  · simp only [e0, if_false] at h ⊢
    by_cases e1 : d = 1
    · simp only [e1, if_true] at h ⊢
      by_cases e : c % sd = sd - 1
      · simp [e] at h
      · simp only [e, if_false]
        have hm := Nat.div_add_mod c sd
        by_cases hs : sd = 0
        · subst hs; simp at hq; omega
        · have h0 : c % sd < sd := Nat.mod_lt _ (by omega)
          have h1 : c / sd < sd := by
            apply Nat.div_lt_of_lt_mul
            omega
          have h2 : sd * (c / sd) + sd ≤ q := by
            have := Nat.mul_le_mul_left sd (show c / sd + 1 ≤ sd by omega)
            rw [Nat.mul_add, Nat.mul_one] at this
            omega
          omega
    · simp only [e1, if_false] at h ⊢
      by_cases e2 : d = 2
      · simp only [e2, if_true] at h ⊢
        by_cases e : c < sd
        · simp [e] at h
        · simp only [e, if_false]; omega
      · simp only [e2, if_false] at h ⊢
        by_cases e : c + sd < q
        · simp only [e, if_true]
        · simp [e] at h
/-- w is the way to each cell from fr (99: none), bu: a bush is there -/
def isD (sd : Nat) (bu : Nat → Nat) (fr : Nat) (w : Nat → Nat) : Prop :=
  w fr = 0 ∧ (∀ v, v < sd * sd → v ≠ fr → w v ≠ 99 → bu v = 0 ∧ ∃ u d, u < sd * sd ∧ d < 4 ∧ nb sd u d = v ∧ w u ≠ 99 ∧ w v = w u + 1) ∧
  (∀ u d, u < sd * sd → d < 4 → w u ≠ 99 → nb sd u d ≠ 99 → bu (nb sd u d) = 0 → w (nb sd u d) ≠ 99 ∧ w (nb sd u d) ≤ w u + 1) ∧ ∀ v, v < sd * sd → w v ≠ 99 → w v < 36
theorem isD_le {sd : Nat} {bu : Nat → Nat} {fr : Nat} {w w' : Nat → Nat} (h36 : sd * sd ≤ 36) (h : isD sd bu fr w) (h' : isD sd bu fr w') : ∀ k v, v < sd * sd → w v = k → k ≠ 99 → w' v ≠ 99 ∧ w' v ≤ k := by
  intro k
  induction k with
  | zero =>
    intro v hv hw _
    by_cases e : v = fr
    · subst e; rw [h'.1]; exact ⟨by decide, Nat.le_refl _⟩
    · obtain ⟨_, u, d, _, _, _, _, hk⟩ := h.2.1 v hv e (by omega)
      omega
  | succ k ih =>
    intro v hv hw hk
    by_cases e : v = fr
    · subst e; have := h.1; omega
    · obtain ⟨hb, u, d, hu, hd, hn, hu9, he⟩ := h.2.1 v hv e (by omega)
      obtain ⟨a1, a2⟩ := ih u hu (by omega) (by have := h.2.2.2 u hu hu9; omega)
      have := h'.2.2.1 u d hu hd a1 (by rw [hn]; omega) (by rw [hn]; exact hb)
      rw [hn] at this
      exact ⟨this.1, by omega⟩
theorem isD_eq {sd : Nat} {bu : Nat → Nat} {fr : Nat} {w w' : Nat → Nat} (h36 : sd * sd ≤ 36) (h : isD sd bu fr w) (h' : isD sd bu fr w') {v : Nat} (hv : v < sd * sd) : w v = w' v := by
  by_cases e : w v = 99
  · by_cases e' : w' v = 99
    · rw [e, e']
    · have := (isD_le h36 h' h (w' v) v hv rfl e').1
      exact absurd e this
  · have h1 := isD_le h36 h h' (w v) v hv rfl e
    have h2 := isD_le h36 h' h (w' v) v hv rfl h1.1
    omega
noncomputable def dW (sd : Nat) (bu : Nat → Nat) (fr : Nat) : Nat → Nat := by
  classical
  exact if h : ∃ w, isD sd bu fr w then Classical.choose h else fun _ => 99
theorem dW_is {sd : Nat} {bu : Nat → Nat} {fr : Nat} {w : Nat → Nat} (h : isD sd bu fr w) : isD sd bu fr (dW sd bu fr) := by
  unfold dW
  rw [dif_pos ⟨w, h⟩]
  exact Classical.choose_spec (⟨w, h⟩ : ∃ w, isD sd bu fr w)
theorem dW_eq {sd : Nat} {bu : Nat → Nat} {fr : Nat} {w : Nat → Nat} (h36 : sd * sd ≤ 36) (h : isD sd bu fr w) {v : Nat} (hv : v < sd * sd) : dW sd bu fr v = w v := isD_eq h36 (dW_is h) h hv
/-- how many of the first k are 99 -/
def cnt (w : Nat → Nat) : Nat → Nat
  | 0 => 0
  | k + 1 => cnt w k + if w k = 99 then 1 else 0
theorem cnt_le (w : Nat → Nat) : ∀ k, cnt w k ≤ k
  | 0 => Nat.le_refl _
  | k + 1 => by
    have := cnt_le w k
    unfold cnt
    split <;> omega
theorem cnt_un {w : Nat → Nat} {v x : Nat} (hv : w v = 99) (hx : x ≠ 99) : ∀ k, cnt (un w v x) k + (if v < k then 1 else 0) = cnt w k
  | 0 => by simp [cnt]
  | k + 1 => by
    have ih := cnt_un (w := w) hv hx k
    unfold cnt
    by_cases e : k = v
    · subst e
      rw [un_eq, if_neg hx, hv, if_pos rfl, if_pos (Nat.lt_succ_self k)]
      rw [if_neg (Nat.lt_irrefl k)] at ih
      omega
    · rw [un_ne _ _ e]
      by_cases h : v < k
      · rw [if_pos h] at ih; rw [if_pos (show v < k + 1 by omega)]; omega
      · rw [if_neg h] at ih; rw [if_neg (show ¬ v < k + 1 by omega)]; omega
theorem cnt_pos {w : Nat → Nat} {v : Nat} (hv : w v = 99) : ∀ k, v < k → 0 < cnt w k
  | 0, h => absurd h (Nat.not_lt_zero _)
  | k + 1, h => by
    unfold cnt
    by_cases e : k = v
    · subst e; rw [hv, if_pos rfl]; omega
    · have := cnt_pos hv k (by omega); omega
/-- the queue's state: head cells are done, and d ways out of the next -/
def bfI (sd : Nat) (bu : Nat → Nat) (fr : Nat) (W Q : Nat → Nat) (head d tail : Nat) : Prop :=
  (∀ i, i < tail → Q i < sd * sd ∧ W (Q i) ≠ 99) ∧ (∀ c, c < sd * sd → W c ≠ 99 → ∃ i, i < tail ∧ Q i = c) ∧
  (∀ i j, i ≤ j → j < tail → W (Q i) ≤ W (Q j)) ∧ (∀ i, i < tail → head < tail → W (Q i) ≤ W (Q head) + 1) ∧ W fr = 0 ∧
  (∀ v, v < sd * sd → v ≠ fr → W v ≠ 99 → bu v = 0 ∧ ∃ u d, u < sd * sd ∧ d < 4 ∧ nb sd u d = v ∧ W u ≠ 99 ∧ W v = W u + 1) ∧
  (∀ i e, i < tail → e < 4 → (i < head ∨ i = head ∧ e < d) → nb sd (Q i) e ≠ 99 → bu (nb sd (Q i) e) = 0 → W (nb sd (Q i) e) ≠ 99 ∧ W (nb sd (Q i) e) ≤ W (Q i) + 1) ∧
  tail + cnt W (sd * sd) = sd * sd ∧ ∀ c, c < sd * sd → W c ≠ 99 → W c < tail
theorem bfI_end {sd : Nat} {bu : Nat → Nat} {fr : Nat} {W Q : Nat → Nat} {tail : Nat} (h36 : sd * sd ≤ 36) (h : bfI sd bu fr W Q tail 0 tail) : isD sd bu fr W := by
  obtain ⟨h1, h2, h3, h4, h5, h6, h7, h8, h9⟩ := h
  refine ⟨h5, h6, fun u d hu hd hw hn hb => ?_, fun v hv hw => ?_⟩
  · obtain ⟨i, hi, e⟩ := h2 u hu hw
    subst e
    exact h7 i d hi hd (Or.inl hi) hn hb
  · have := h9 v hv hw
    omega
theorem bfI_next {sd : Nat} {bu : Nat → Nat} {fr : Nat} {W Q : Nat → Nat} {head tail : Nat} (hh : head < tail) (h : bfI sd bu fr W Q head 4 tail) : bfI sd bu fr W Q (head + 1) 0 tail := by
  obtain ⟨h1, h2, h3, h4, h5, h6, h7, h8, h9⟩ := h
  refine ⟨h1, h2, h3, fun i hi ht => ?_, h5, h6, fun i e hi he hor => h7 i e hi he ?_, h8, h9⟩
  · have a := h4 i hi hh
    have b := h3 head (head + 1) (by omega) ht
    omega
  · rcases hor with h | ⟨_, h⟩
    · by_cases e : i = head
      · exact Or.inr ⟨e, he⟩
      · exact Or.inl (by omega)
    · omega
theorem bfI_skip {sd : Nat} {bu : Nat → Nat} {fr : Nat} {W Q : Nat → Nat} {head d tail : Nat} (hh : head < tail) (h : bfI sd bu fr W Q head d tail) (hs : nb sd (Q head) d = 99 ∨ bu (nb sd (Q head) d) ≠ 0 ∨ W (nb sd (Q head) d) ≠ 99) : bfI sd bu fr W Q head (d + 1) tail := by
  obtain ⟨h1, h2, h3, h4, h5, h6, h7, h8, h9⟩ := h
  refine ⟨h1, h2, h3, h4, h5, h6, fun i e hi he hor hn hb => ?_, h8, h9⟩
  by_cases hc : i < head ∨ i = head ∧ e < d
  · exact h7 i e hi he hc hn hb
  · have ei : i = head := by omega
    have ee : e = d := by omega
    subst ei
    subst ee
    rcases hs with q | q | q
    · exact absurd q hn
    · exact absurd hb q
    · refine ⟨q, ?_⟩
      obtain ⟨j, hj, ej⟩ := h2 _ (nb_lt (h1 i hi).1 hn) q
      have := h4 j hj hh
      rw [ej] at this
      exact this
theorem bfI_new {sd : Nat} {bu : Nat → Nat} {fr : Nat} {W Q : Nat → Nat} {head d tail : Nat} (h36 : sd * sd ≤ 36) (hd : d < 4) (hh : head < tail) (h : bfI sd bu fr W Q head d tail) (hn : nb sd (Q head) d ≠ 99) (hb : bu (nb sd (Q head) d) = 0) (hw : W (nb sd (Q head) d) = 99) : tail < sd * sd ∧ bfI sd bu fr (un W (nb sd (Q head) d) (W (Q head) + 1)) (un Q tail (nb sd (Q head) d)) head (d + 1) (tail + 1) := by
  obtain ⟨h1, h2, h3, h4, h5, h6, h7, h8, h9⟩ := h
  have hu := h1 head hh
  have hv := nb_lt hu.1 hn
  generalize hve : nb sd (Q head) d = v at *
  have hc := cnt_pos hw (sd * sd) hv
  have ht : tail < sd * sd := by omega
  have hx := h9 _ hu.1 hu.2
  have hx9 : W (Q head) + 1 ≠ 99 := by omega
  have hc2 := cnt_un (w := W) hw hx9 (sd * sd)
  rw [if_pos hv] at hc2
  have hQ : ∀ i, i < tail → un Q tail v i = Q i := fun i hi => un_ne _ _ (by omega)
  have hQv : ∀ i, i < tail → Q i ≠ v := fun i hi e => (h1 i hi).2 (by rw [e]; exact hw)
  have hWQ : ∀ i, i < tail → un W v (W (Q head) + 1) (Q i) = W (Q i) := fun i hi => un_ne _ _ (hQv i hi)
  refine ⟨ht, fun i hi => ?_, fun c hcl hcw => ?_, fun i j hij hj => ?_, fun i hi _ => ?_, ?_, fun c hcl hcf hcw => ?_, fun i e hi he hor => ?_, by omega, fun c hcl hcw => ?_⟩
  · by_cases e : i = tail
    · subst e; rw [un_eq, un_eq]; exact ⟨hv, hx9⟩
    · rw [hQ i (by omega), hWQ i (by omega)]; exact h1 i (by omega)
  · by_cases e : c = v
    · exact ⟨tail, Nat.lt_succ_self _, by rw [un_eq, e]⟩
    · rw [un_ne _ _ e] at hcw
      obtain ⟨i, hi, q⟩ := h2 c hcl hcw
      exact ⟨i, by omega, by rw [hQ i hi]; exact q⟩
  · by_cases ej : j = tail
    · subst ej
      rw [un_eq, un_eq]
      by_cases ei : i = j
      · subst ei; rw [un_eq, un_eq]; exact Nat.le_refl _
      · rw [hQ i (by omega), hWQ i (by omega)]; exact h4 i (by omega) hh
    · rw [hQ i (by omega), hQ j (by omega), hWQ i (by omega), hWQ j (by omega)]; exact h3 i j hij (by omega)
  · rw [hQ head hh, hWQ head hh]
    by_cases e : i = tail
    · subst e; rw [un_eq, un_eq]; exact Nat.le_refl _
    · rw [hQ i (by omega), hWQ i (by omega)]; exact h4 i (by omega) hh
  · rw [un_ne _ _ (fun e => by rw [← e, h5] at hw; cases hw)]; exact h5
  · by_cases e : c = v
    · subst e
      refine ⟨hb, Q head, d, hu.1, hd, hve, ?_, ?_⟩
      · rw [hWQ head hh]; exact hu.2
      · rw [un_eq, hWQ head hh]
    · rw [un_ne _ _ e] at hcw ⊢
      obtain ⟨q1, u, d', q2, q3, q4, q5, q6⟩ := h6 c hcl hcf hcw
      refine ⟨q1, u, d', q2, q3, q4, ?_, ?_⟩
      · rw [un_ne _ _ (fun e => q5 (by rw [e]; exact hw))]; exact q5
      · rw [un_ne _ _ (fun e => q5 (by rw [e]; exact hw))]; exact q6
  · by_cases ei : i = tail
    · omega
    · rw [hQ i (by omega), hWQ i (by omega)]
      intro hn' hb'
      by_cases ev : nb sd (Q i) e = v
      · rw [ev, un_eq]
        refine ⟨hx9, ?_⟩
        by_cases eh : i = head
        · subst eh; exact Nat.le_refl _
        · have hil : i < head := by omega
          have := h7 i e (by omega) he (Or.inl hil) hn' hb'
          rw [ev] at this
          exact absurd hw this.1
      · rw [un_ne _ _ ev]
        by_cases hcase : i < head ∨ i = head ∧ e < d
        · exact h7 i e (by omega) he hcase hn' hb'
        · have e1 : i = head := by omega
          have e2 : e = d := by omega
          subst e1
          subst e2
          exact absurd hve ev
  · by_cases e : c = v
    · subst e; rw [un_eq]; omega
    · rw [un_ne _ _ e] at hcw ⊢
      have := h9 c hcl hcw
      omega
section MBFS
variable {n : Nat} {S : Nat → Nat}
/-- way (260) and queue (261) as natural numbers -/
def wq (σ : PS) (W Q : Nat → Nat) (tail : Nat) : Prop := (∀ c, c < 36 → σ.1 260 c = nI (W c)) ∧ ∀ i, i < tail → σ.1 261 i = nI (Q i)
theorem M_meas2 : ∀ (k c : Nat) (x1 : Int32) (σ : PS), c ≤ 36 → 37 ≤ k + c → (∀ j, j < c → σ.1 260 j = nI 99) → ∃ τ, L_X12_measures_2 n k x1 (nI c) σ = some (x1, τ) ∧ agr [260, 261] σ τ ∧ ∀ j, j < 36 → τ.1 260 j = nI 99
  | 0, c, x1, σ, h1, h2, h3 => by omega
  | k + 1, c, x1, σ, h1, h2, h3 => by
    rw [L_X12_measures_2]
    simp (disch := omega) only [nI_lit, nI_leI, nI_ge0, nI_clamp, true_and, nI_add]
    by_cases e : 36 ≤ c
    · rw [if_pos e]
      exact ⟨σ, rfl, agr_refl, fun j hj => h3 j (by omega)⟩
    · rw [if_neg e, if_pos (by omega)]
      obtain ⟨τ, a, b, d⟩ := M_meas2 k (c + 1) x1 (psI σ 260 c (nI 99)) (by omega) (by omega) (fun j hj => by
        rw [psI_eq]
        by_cases q : j = c
        · rw [if_pos q]
        · rw [if_neg q]; exact h3 j (by omega))
      exact ⟨τ, a, agr_trans (agr_psI (by simp)) b, d⟩
theorem M_meas59 (h1 : 2 ≤ S 1) (h2 : S 1 ≤ 6) (hbu : ∀ c, c < 36 → S (37 + c) < 2 ^ 31) {fr h : Nat} : ∀ (k d tail : Nat) (W Q : Nat → Nat) (σ : PS) (x2 : Int32), rowN σ 259 S → d ≤ 4 → 5 ≤ k + d → h < tail → tail ≤ S 1 * S 1 → wq σ W Q tail → bfI (S 1) (fun c => S (37 + c)) fr W Q h d tail → ∃ τ W' Q' tail', L_X12_measures_59 n k x2 (nI tail) (nI (Q h)) (nI d) σ = some (x2, nI tail', τ) ∧ agr [260, 261] σ τ ∧ tail ≤ tail' ∧ tail' ≤ S 1 * S 1 ∧ wq τ W' Q' tail' ∧ bfI (S 1) (fun c => S (37 + c)) fr W' Q' h 4 tail'
  | 0, d, tail, W, Q, σ, x2, hS, hd, hk, hh, ht, hw, hI => by omega
  | k + 1, d, tail, W, Q, σ, x2, hS, hd, hk, hh, ht, hw, hI => by
    have h36 : S 1 * S 1 ≤ 36 := by
      have := Nat.mul_le_mul h2 h2
      omega
    have hu := hI.1 h hh
    rw [L_X12_measures_59]
    by_cases e4 : d = 4
    · subst e4
      simp (disch := omega) only [nI_lit, nI_leI]
      rw [if_pos (by omega)]
      exact ⟨σ, W, Q, tail, rfl, agr_refl, Nat.le_refl _, ht, hw, hI⟩
    · rw [M_besideOf hS h1 h2 hu.1 (by omega)]
      simp (disch := omega) only [nI_lit, nI_leI, Option.bind_some]
      rw [if_neg (by omega)]
      by_cases en : nb (S 1) (Q h) d = 99
      · rw [en]
        have : oI 99 = m1 := rfl
        rw [this, if_pos m1_lt0, nI_add]
        exact M_meas59 h1 h2 hbu k (d + 1) tail W Q σ x2 hS (by omega) (by omega) hh ht hw (bfI_skip hh hI (Or.inl en))
      · have hv := nb_lt hu.1 en
        have hoI : oI (nb (S 1) (Q h) d) = nI (nb (S 1) (Q h) d) := if_neg en
        rw [hoI, if_neg (nI_n0 (show nb (S 1) (Q h) d < 2 ^ 31 by omega)), M_isBush hS (by omega) (hbu _ (by omega))]
        simp only [Option.bind_some]
        by_cases eb : S (37 + nb (S 1) (Q h) d) = 0
        · simp (disch := omega) only [eb, if_true, nI_lit, nI_ge0, nI_clamp, Nat.zero_le, true_and, hw.1 _ (show nb (S 1) (Q h) d < 36 by omega)]
          rw [if_pos (by omega)]
          by_cases ew : W (nb (S 1) (Q h) d) = 99
          · obtain ⟨ht', hI'⟩ := bfI_new h36 (by omega) hh hI en eb ew
            have hWu := hI.2.2.2.2.2.2.2.2 (Q h) hu.1 hu.2
            simp (disch := omega) only [ew, nI_leI, nI_ge0, nI_clamp, Nat.zero_le, true_and, nI_add]
            rw [if_pos (Nat.le_refl _), if_pos (by omega), if_pos (by omega), hw.1 (Q h) (by omega), nI_add]
            have hQh : un Q tail (nb (S 1) (Q h) d) h = Q h := un_ne _ _ (by omega)
            have := M_meas59 h1 h2 hbu k (d + 1) (tail + 1) _ _ (psI (psI σ 260 (nb (S 1) (Q h) d) (nI (W (Q h) + 1))) 261 tail (nI (nb (S 1) (Q h) d))) x2 (rowN_other (rowN_other hS (by decide)) (by decide)) (by omega) (by omega) (by omega) (by omega) ⟨fun c hc => ?_, fun i hi => ?_⟩ hI'
            · rw [hQh] at this
              obtain ⟨τ, W', Q', tail', a, b, c, d, e, f⟩ := this
              exact ⟨τ, W', Q', tail', a, agr_trans (agr_trans (agr_psI (by simp)) (agr_psI (by simp))) b, by omega, d, e, f⟩
            · rw [psI_other (by decide), psI_eq]
              unfold un
              by_cases q : c = nb (S 1) (Q h) d
              · rw [if_pos q, if_pos q]
              · rw [if_neg q, if_neg q]; exact hw.1 c hc
            · rw [psI_eq]
              unfold un
              by_cases q : i = tail
              · rw [if_pos q, if_pos q]
              · rw [if_neg q, if_neg q, psI_other (by decide)]; exact hw.2 i (by omega)
          · have hlt := hI.2.2.2.2.2.2.2.2 _ hv ew
            simp (disch := omega) only [nI_leI, nI_add]
            rw [if_neg (by omega)]
            exact M_meas59 h1 h2 hbu k (d + 1) tail W Q σ x2 hS (by omega) (by omega) hh ht hw (bfI_skip hh hI (Or.inr (Or.inr ew)))
        · simp only [eb, if_false]
          rw [if_neg (by decide), nI_add]
          exact M_meas59 h1 h2 hbu k (d + 1) tail W Q σ x2 hS (by omega) (by omega) hh ht hw (bfI_skip hh hI (Or.inr (Or.inl eb)))
theorem M_meas40 (hn : 100 ≤ n) (h1 : 2 ≤ S 1) (h2 : S 1 ≤ 6) (hbu : ∀ c, c < 36 → S (37 + c) < 2 ^ 31) {fr : Nat} : ∀ (k h tail : Nat) (W Q : Nat → Nat) (σ : PS), rowN σ 259 S → h ≤ tail → tail ≤ S 1 * S 1 → 37 ≤ k + h → wq σ W Q tail → bfI (S 1) (fun c => S (37 + c)) fr W Q h 0 tail → ∃ τ W', L_X12_measures_40 n k (nI h) (nI tail) σ = some τ ∧ agr [260, 261] σ τ ∧ (∀ c, c < 36 → τ.1 260 c = nI (W' c)) ∧ isD (S 1) (fun c => S (37 + c)) fr W'
  | 0, h, tail, W, Q, σ, hS, hh, ht, hk, hw, hI => by
    have h36 : S 1 * S 1 ≤ 36 := by
      have := Nat.mul_le_mul h2 h2
      omega
    omega
  | k + 1, h, tail, W, Q, σ, hS, hh, ht, hk, hw, hI => by
    have h36 : S 1 * S 1 ≤ 36 := by
      have := Nat.mul_le_mul h2 h2
      omega
    rw [L_X12_measures_40]
    by_cases e : tail ≤ h
    · have eh : h = tail := by omega
      subst eh
      rw [if_pos (nI_le (Nat.le_refl _) (by omega))]
      exact ⟨σ, W, rfl, agr_refl, hw.1, bfI_end h36 hI⟩
    · rw [if_neg (nI_ge (by omega) (by omega))]
      simp (disch := omega) only [nI_lit, nI_ge0, nI_clamp, true_and, nI_add]
      rw [if_pos (by omega), hw.2 h (by omega)]
      obtain ⟨τ, W', Q', tail', a, b, c, d, f, g⟩ := M_meas59 (n := n) h1 h2 hbu n 0 tail W Q σ (nI (h + 1)) hS (by omega) (by omega) (show h < tail by omega) ht hw hI
      rw [a]
      simp only [Option.bind_some]
      obtain ⟨τ2, W2, p1, p2, p3, p4⟩ := M_meas40 hn h1 h2 hbu k (h + 1) tail' W' Q' τ (rowN_agr hS b (by decide)) (by omega) d (by omega) f (bfI_next (by omega) g)
      exact ⟨τ2, W2, p1, agr_trans b p2, p3, p4⟩
theorem bfI_start {sd : Nat} {bu : Nat → Nat} {fr : Nat} (hf : fr < sd * sd) : bfI sd bu fr (un (fun _ => 99) fr 0) (un (fun _ => 0) 0 fr) 0 0 1 := by
  have e0 : ∀ i, i < 1 → un (fun _ => 0) 0 fr i = fr := fun i hi => by
    have : i = 0 := by omega
    subst this; exact un_eq _ _ _
  have hc := cnt_un (w := fun _ => 99) (v := fr) (x := 0) rfl (by decide) (sd * sd)
  have hall : ∀ k, cnt (fun _ => 99) k = k := fun k => by
    induction k with
    | zero => rfl
    | succ k ih => unfold cnt; rw [ih]; simp
  rw [if_pos hf, hall] at hc
  have hne : ∀ v, un (fun _ => 99) fr 0 v ≠ 99 → v = fr := fun v hv => by
    by_cases e : v = fr
    · exact e
    · rw [un_ne _ _ e] at hv; exact absurd rfl hv
  refine ⟨fun i hi => ?_, fun c hcl hcw => ⟨0, by omega, ?_⟩, fun i j hij hj => ?_, fun i hi _ => ?_, un_eq _ _ _, fun v hv hvf hvw => absurd (hne v hvw) hvf, fun i e hi he hor => by omega, by omega, fun c hcl hcw => ?_⟩
  · rw [e0 i hi, un_eq]; exact ⟨hf, by decide⟩
  · rw [un_eq]; exact (hne c hcw).symm
  · rw [e0 i (by omega), e0 j hj]; exact Nat.le_refl _
  · rw [e0 i hi, e0 0 (by omega)]; omega
  · rw [hne c hcw, un_eq]; omega
theorem M_measures {σ : PS} (hn : 100 ≤ n) (hS : rowN σ 259 S) (h1 : 2 ≤ S 1) (h2 : S 1 ≤ 6) (hbu : ∀ c, c < 36 → S (37 + c) < 2 ^ 31) {fr : Nat} (hf : fr < S 1 * S 1) : ∃ τ, F_X12_measures n (nI fr) σ = some τ ∧ agr [260, 261] σ τ ∧ isD (S 1) (fun c => S (37 + c)) fr (dW (S 1) (fun c => S (37 + c)) fr) ∧ ∀ c, c < S 1 * S 1 → τ.1 260 c = nI (dW (S 1) (fun c => S (37 + c)) fr c) := by
  have h36 : S 1 * S 1 ≤ 36 := by
    have := Nat.mul_le_mul h2 h2
    omega
  unfold F_X12_measures
  obtain ⟨τ, a, b, c⟩ := M_meas2 (n := n) n 0 (nI fr) σ (by omega) (by omega) (fun j hj => by omega)
  rw [show (0 : Int32) = nI 0 from rfl, a]
  simp (disch := omega) only [Option.bind_some, nI_lit, nI_ge0, nI_clamp, true_and]
  rw [if_pos (by omega)]
  obtain ⟨τ2, W', p1, p2, p3, p4⟩ := M_meas40 (n := n) (S := S) hn h1 h2 hbu (fr := fr) n 0 1 (un (fun _ => 99) fr 0) (un (fun _ => 0) 0 fr) (psI (psI τ 260 fr (nI 0)) 261 0 (nI fr)) (rowN_other (rowN_other (rowN_agr hS b (by decide)) (by decide)) (by decide)) (by omega) (by omega) (by omega) ⟨fun j hj => by
      rw [psI_other (by decide), psI_eq]
      unfold un
      by_cases q : j = fr
      · rw [if_pos q, if_pos q]
      · rw [if_neg q, if_neg q]; exact c j hj, fun i hi => by
      rw [psI_eq]
      unfold un
      rw [if_pos (by omega), if_pos (by omega)]⟩ (bfI_start hf)
  rw [p1]
  refine ⟨τ2, rfl, agr_trans b (agr_trans (agr_trans (agr_psI (by simp)) (agr_psI (by simp))) p2), dW_is p4, fun j hj => ?_⟩
  rw [p3 j (by omega), dW_eq h36 p4 hj]
end MBFS
