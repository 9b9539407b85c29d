theorem lg_pos0 (x y : Int64) : nI 0 < lg_cmp x y ↔ y < x := lg_cmp_gt x y
abbrev RU : Type := Option ((Nat → Int64) → Int64)
def besB (sd a b : Nat) : Bool := decide (nb sd a 0 = b ∨ nb sd a 1 = b ∨ nb sd a 2 = b ∨ nb sd a 3 = b)
theorem besB_iff {sd a b : Nat} : besB sd a b = true ↔ bes sd a b := by
  unfold besB bes
  exact decide_eq_true_iff
/-- what a cell is worth -/
noncomputable def vv (S : Nat → Nat) (ru : RU) (near c : Nat) : Int64 := match ru with
  | some f => f (wrd S c)
  | none => if nr S c + 1 = near then 1 else 0
/-- the best of the first k cells -/
noncomputable def chK (S : Nat → Nat) (ru : RU) (near : Nat) : Nat → Nat × Int64
  | 0 => (S 11, 0)
  | k + 1 => if besB (S 1) (S 11) k = true ∧ S (37 + k) = 0 ∧ (chK S ru near k).2 < vv S ru near k then (k, vv S ru near k) else chK S ru near k
noncomputable def chS (S : Nat → Nat) (ru : RU) : Nat := match ru with
  | some _ => (chK S ru 0 (S 1 * S 1)).1
  | none => if nr S (S 11) = 0 ∨ nr S (S 11) = 99 then S 11 else (chK S ru (nr S (S 11)) (S 1 * S 1)).1
/-- the rule in force -/
def foM (n : Nat) (σ : PS) (ru : RU) : Prop := match ru with
  | some f => ∃ r, r < 6 ∧ σ.1 249 21 = nI r ∧ ruM n σ r f
  | none => σ.1 249 21 = m1
theorem foM_agm {n : Nat} {σ τ : PS} {ru : RU} {T Fs : List Nat} (h : foM n σ ru) (ha : agm T Fs σ τ) (h1 : 251 ∉ T) (h2 : 253 ∉ T) (h3 : 254 ∉ T) (h4 : 21 ∉ Fs) : foM n τ ru := by
  cases ru with
  | none => exact (ha.2 21 h4).1.trans h
  | some f =>
    obtain ⟨r, a, b, c⟩ := h
    exact ⟨r, a, (ha.2 21 h4).1.trans b, ruM_agm c ha h1 h2 h3⟩
section MP
variable {n b : Nat} {S : Nat → Nat}
theorem M_ch54 (hn : 100 ≤ n) (hb : b < 2 ^ 20) (hw : okW S b) {ru : RU} {near : Nat} (hne : ru = none → 1 ≤ near ∧ near ≤ 99) : ∀ (k c : Nat) (σ : PS), rowN σ 259 S → foM n σ ru → c ≤ S 1 * S 1 → 37 ≤ k + c → ∃ τ, L_X12_choice_54 n k (nI (S 11)) (nI (chK S ru near c).1) (chK S ru near c).2 (nI near) (nI c) σ = some (nI (chK S ru near (S 1 * S 1)).1, τ) ∧ agm [257, 258, 260, 261] [18] σ τ
  | 0, c, σ, hS, hf, hc, hk => by
    have h36 := okW_36 hw
    omega
  | k + 1, c, σ, hS, hf, hc, hk => by
    have h36 := okW_36 hw
    obtain ⟨h1, h1', h2, h11, ht, h12, hcb, h10⟩ := id hw
    rw [L_X12_choice_54, M_cells hS]
    simp only [Option.bind_some]
    by_cases e : S 1 * S 1 ≤ c
    · have : c = S 1 * S 1 := by omega
      subst this
      rw [if_pos (nI_le (Nat.le_refl _) (by omega))]
      exact ⟨σ, rfl, agm_refl⟩
    · rw [if_neg (nI_ge (by omega) (by omega))]
      have hcK : chK S ru near (c + 1) = if besB (S 1) (S 11) c = true ∧ S (37 + c) = 0 ∧ (chK S ru near c).2 < vv S ru near c then (c, vv S ru near c) else chK S ru near c := rfl
      rcases M_areBeside hn hS h1 h1' h11 (show c < S 1 * S 1 by omega) with ⟨hbs, eb⟩ | ⟨hbs, eb⟩
      · rw [eb]
        simp only [Option.bind_some]
        rw [if_neg (by decide), M_isBush hS (by omega) (by have := (hcb c (by omega)).1; omega)]
        simp only [Option.bind_some]
        by_cases ebu : S (37 + c) = 0
        · simp only [ebu, if_true]
          cases ru with
          | some f =>
            obtain ⟨r, hr, hfo, hru⟩ := id hf
            rw [hfo]
            rw [if_pos (nI_pos' (by omega))]
            obtain ⟨τ, es, as⟩ := M_sumOf hn hS hb hw hfo hru (show c < S 1 * S 1 by omega)
            rw [es]
            simp only [Option.bind_some, nI_lit, nI_add]
            have hS' := rowN_agm hS as (by decide) (by decide)
            have hf' := foM_agm (ru := some f) hf as (by decide) (by decide) (by decide) (by decide)
            obtain ⟨τ2, e2, a2⟩ := M_ch54 hn hb hw (ru := some f) hne k (c + 1) τ hS' hf' (by omega) (by omega)
            rw [hcK] at e2
            by_cases hlt : (chK S (some f) near c).2 < f (wrd S c)
            · rw [if_pos ((lg_pos0 _ _).mpr hlt)]
              rw [if_pos ⟨besB_iff.mpr hbs, ebu, hlt⟩] at e2
              exact ⟨τ2, e2, agm_trans as a2⟩
            · rw [if_neg (fun q => hlt ((lg_pos0 _ _).mp q))]
              rw [if_neg (fun q => hlt q.2.2)] at e2
              exact ⟨τ2, e2, agm_trans as a2⟩
          | none =>
            have hfo : σ.1 249 21 = m1 := hf
            rw [hfo, if_neg m1_nle]
            obtain ⟨hn1, hn2⟩ := hne rfl
            obtain ⟨τ, es, as0⟩ := M_nearest' hn hS hb hw (show c < S 1 * S 1 by omega)
            have as : agm [257, 258, 260, 261] [18] σ τ := agm_mono (agm_of as0 (by decide) (Fs := [])) (by simp) (by simp)
            rw [es]
            have hnr := nr_le S c
            simp only [Option.bind_some, nI_lit, nI_add]
            rw [nI_sub hn1]
            simp (disch := omega) only [nI_eq]
            have hS' := rowN_agm hS as (by decide) (by decide)
            have hf' := foM_agm (ru := none) hf as (by decide) (by decide) (by decide) (by decide)
            obtain ⟨τ2, e2, a2⟩ := M_ch54 hn hb hw (ru := none) hne k (c + 1) τ hS' hf' (by omega) (by omega)
            rw [hcK] at e2
            by_cases hq : nr S c = near - 1
            · have hvv : vv S none near c = 1 := if_pos (by omega)
              rw [hvv] at e2
              rw [if_pos hq]
              by_cases hlt : (chK S none near c).2 < 1
              · rw [if_pos ((lg_pos0 _ _).mpr hlt)]
                rw [if_pos ⟨besB_iff.mpr hbs, ebu, hlt⟩] at e2
                exact ⟨τ2, e2, agm_trans as a2⟩
              · rw [if_neg (fun q => hlt ((lg_pos0 _ _).mp q))]
                rw [if_neg (fun q => hlt q.2.2)] at e2
                exact ⟨τ2, e2, agm_trans as a2⟩
            · have hvv : vv S none near c = 0 := if_neg (by omega)
              rw [hvv] at e2
              rw [if_neg hq]
              by_cases hlt : (chK S none near c).2 < 0
              · rw [if_pos ((lg_pos0 _ _).mpr hlt)]
                rw [if_pos ⟨besB_iff.mpr hbs, ebu, hlt⟩] at e2
                exact ⟨τ2, e2, agm_trans as a2⟩
              · rw [if_neg (fun q => hlt ((lg_pos0 _ _).mp q))]
                rw [if_neg (fun q => hlt q.2.2)] at e2
                exact ⟨τ2, e2, agm_trans as a2⟩
        · simp only [ebu, if_false]
          rw [if_neg (by decide)]
          simp only [nI_lit, nI_add]
          obtain ⟨τ2, e2, a2⟩ := M_ch54 hn hb hw hne k (c + 1) σ hS hf (by omega) (by omega)
          rw [hcK, if_neg (fun q => ebu q.2.1)] at e2
          exact ⟨τ2, e2, a2⟩
      · rw [eb]
        simp only [Option.bind_some, if_true]
        simp only [nI_lit, nI_add]
        obtain ⟨τ2, e2, a2⟩ := M_ch54 hn hb hw hne k (c + 1) σ hS hf (by omega) (by omega)
        rw [hcK, if_neg (fun q => hbs (besB_iff.mp q.1))] at e2
        exact ⟨τ2, e2, a2⟩
theorem M_choice (hn : 100 ≤ n) (hb : b < 2 ^ 20) (hw : okW S b) {ru : RU} {σ : PS} (hS : rowN σ 259 S) (hf : foM n σ ru) : ∃ τ, F_X12_choice n σ = some (nI (chS S ru), τ) ∧ agm [257, 258, 260, 261] [18] σ τ := by
  have h36 := okW_36 hw
  have h11 := hw.2.2.2.1
  unfold F_X12_choice
  cases ru with
  | some f =>
    obtain ⟨r, hr, hfo, hru⟩ := id hf
    rw [hfo, if_pos (nI_pos' (by omega)), if_pos (nI_pos' (by omega)), rowN_get hS]
    obtain ⟨τ, e, a⟩ := M_ch54 hn hb hw (ru := some f) (near := 0) (fun q => by cases q) n 0 σ hS hf (by omega) (by omega)
    rw [show chK S (some f) 0 0 = (S 11, 0) from rfl] at e
    rw [show (0 : Int32) = nI 0 from rfl, e]
    exact ⟨τ, rfl, a⟩
  | none =>
    have hfo : σ.1 249 21 = m1 := hf
    rw [hfo, if_neg m1_nle, rowN_get hS]
    obtain ⟨τ, es, as0⟩ := M_nearest' hn hS hb hw h11
    have as : agm [257, 258, 260, 261] [18] σ τ := agm_mono (agm_of as0 (by decide) (Fs := [])) (by simp) (by simp)
    rw [es]
    have hnr := nr_le S (S 11)
    have hfo' : τ.1 249 21 = m1 := (as.2 21 (by decide)).1.trans hfo
    simp only [Option.bind_some]
    rw [hfo', if_neg m1_nle]
    simp (disch := omega) only [nI_lit, nI_eq]
    by_cases e0 : nr S (S 11) = 0
    · rw [if_pos e0]
      refine ⟨τ, ?_, as⟩
      unfold chS
      rw [if_pos (Or.inl e0)]
    · rw [if_neg e0]
      by_cases e9 : nr S (S 11) = 99
      · rw [if_pos e9]
        refine ⟨τ, ?_, as⟩
        unfold chS
        rw [if_pos (Or.inr e9)]
      · rw [if_neg e9]
        obtain ⟨τ2, e, a⟩ := M_ch54 hn hb hw (ru := none) (near := nr S (S 11)) (fun q => by omega) n 0 τ (rowN_agm hS as (by decide) (by decide)) (foM_agm (ru := none) hf as (by decide) (by decide) (by decide) (by decide)) (by omega) (by omega)
        rw [show chK S none (nr S (S 11)) 0 = (S 11, 0) from rfl] at e
        rw [e]
        refine ⟨τ2, ?_, agm_trans as a⟩
        unfold chS
        rw [if_neg (by omega)]
        rfl
end MP
