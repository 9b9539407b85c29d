/-! What is still open of a test: a stack on both sides (91 [, 11 not, 12 and, 13 or). -/
def stg (x : Nat) : Nat := if x = 13 then 1 else if x = 12 then 2 else if x = 11 then 3 else 0
def dP (th : Nat) : List Nat → List Nat × List Nat
  | [] => ([], [])
  | x :: pd => if th ≤ stg x then (x :: (dP th pd).1, (dP th pd).2) else ([], x :: pd)
def dep : List Nat → Nat
  | [] => 0
  | x :: pd => (if x = 91 ∨ x = 11 then 1 else 0) + dep pd
def brk : List Nat → Nat
  | [] => 0
  | x :: pd => (if x = 91 then 1 else 0) + brk pd
def nbn : List Nat → Nat
  | [] => 0
  | x :: pd => (if x = 12 ∨ x = 13 then 1 else 0) + nbn pd
def pen : List Nat → Nat
  | [] => 0
  | x :: pd => (if x = 91 then 0 else 1) + pen pd
def okx (x : Nat) : Prop := x = 91 ∨ x = 11 ∨ x = 12 ∨ x = 13
def ordP : List Nat → Prop
  | [] => True
  | x :: pd => okx x ∧ (x = 91 ∨ pd.headD 91 = 91 ∨ stg (pd.headD 91) < stg x ∨ (x = 11 ∧ pd.headD 91 = 11)) ∧ ordP pd
def topB : List Nat → Nat
  | [] => 0
  | x :: _ => if x = 91 then 0 else if x = 13 then 1 else 2
theorem topB_le (pd : List Nat) : topB pd ≤ 2 := by
  cases pd with
  | nil => exact Nat.zero_le _
  | cons y pd =>
    show (if y = 91 then 0 else if y = 13 then 1 else 2) ≤ 2
    by_cases a : y = 91
    · rw [if_pos a]; omega
    rw [if_neg a]
    by_cases b : y = 13
    · rw [if_pos b]; omega
    · rw [if_neg b]; exact Nat.le_refl _
theorem nbn_le : ∀ pd, ordP pd → nbn pd ≤ 2 * brk pd + topB pd
  | [], _ => by simp [nbn]
  | x :: pd, h => by
    have ih := nbn_le pd h.2.2
    obtain ⟨h1, h2, h3⟩ := h
    unfold okx at h1
    have tb := topB_le pd
    have key : x = 12 → topB pd ≤ 1 := by
      intro e
      cases pd with
      | nil => simp [topB]
      | cons y pd =>
        simp only [List.headD_cons] at h2
        have hy : okx y := h3.1
        unfold okx at hy
        unfold stg at h2
        unfold topB
        subst e
        rcases hy with z | z | z | z <;> subst z <;> simp at h2 ⊢
    have key2 : x = 13 → topB pd = 0 := by
      intro e
      cases pd with
      | nil => simp [topB]
      | cons y pd =>
        simp only [List.headD_cons] at h2
        have hy : okx y := h3.1
        unfold okx at hy
        unfold stg at h2
        unfold topB
        subst e
        rcases hy with z | z | z | z <;> subst z <;> simp at h2 ⊢
    unfold nbn brk
    show _ ≤ _ + (if x = 91 then 0 else if x = 13 then 1 else 2)
    rcases h1 with z | z | z | z
    · subst z; simp; omega
    · subst z; simp; omega
    · have := key z; subst z; simp; omega
    · have := key2 z; subst z; simp; omega
theorem stk_len : ∀ pd, (∀ x ∈ pd, okx x) → pd.length = dep pd + nbn pd ∧ pd.length = pen pd + brk pd ∧ brk pd ≤ dep pd
  | [], _ => by simp [dep, nbn, pen, brk]
  | x :: pd, h => by
    have ih := stk_len pd (fun y hy => h y (by simp [hy]))
    have hx := h x (by simp)
    unfold okx at hx
    unfold dep nbn pen brk
    rw [List.length_cons]
    rcases hx with z | z | z | z <;> subst z <;> simp <;> omega
theorem ord_ok : ∀ pd, ordP pd → ∀ x ∈ pd, okx x
  | [], _, x, hx => by simp at hx
  | y :: pd, h, x, hx => by
    rcases List.mem_cons.mp hx with z | z
    · rw [z]; exact h.1
    · exact ord_ok pd h.2.2 x z
theorem stk_32 {pd : List Nat} (h : ordP pd) (hd : dep pd ≤ 10) : pd.length ≤ 32 := by
  have h1 := nbn_le pd h
  have h2 := stk_len pd (ord_ok pd h)
  have tb := topB_le pd
  omega
theorem dP_facts (th : Nat) (h1 : 1 ≤ th) : ∀ pd, ordP pd → ordP (dP th pd).2 ∧ stg ((dP th pd).2.headD 91) < th ∧ brk (dP th pd).2 = brk pd ∧ pen (dP th pd).2 + (dP th pd).1.length = pen pd ∧ dep (dP th pd).2 ≤ dep pd ∧ (∀ x ∈ (dP th pd).1, x = 11 ∨ x = 12 ∨ x = 13) ∧ tyc (dP th pd).1 (List.replicate (nbn pd + 1) true) = some (List.replicate (nbn (dP th pd).2 + 1) true) ∧ nvl (dP th pd).1 = 0
  | [], _ => by
    refine ⟨trivial, ?_, rfl, rfl, Nat.le_refl _, by simp [dP], rfl, rfl⟩
    show stg 91 < th
    have : stg 91 = 0 := rfl
    omega
  | x :: pd, h => by
    obtain ⟨g1, g2, g3⟩ := id h
    obtain ⟨i1, i2, i3, i4, i5, i6, i7, i8⟩ := dP_facts th h1 pd g3
    unfold dP
    by_cases e : th ≤ stg x
    · rw [if_pos e]
      have hx : x = 11 ∨ x = 12 ∨ x = 13 := by
        unfold okx at g1
        rcases g1 with z | z | z | z
        · subst z; rw [show stg 91 = 0 from rfl] at e; omega
        all_goals omega
      refine ⟨i1, i2, ?_, ?_, ?_, ?_, ?_, ?_⟩
      · show brk (dP th pd).2 = brk (x :: pd)
        rw [i3]; unfold brk; rw [if_neg (by omega)]; cases pd <;> simp [brk]
      · show pen (dP th pd).2 + (x :: (dP th pd).1).length = pen (x :: pd)
        rw [List.length_cons, show pen (x :: pd) = (if x = 91 then 0 else 1) + pen pd from rfl, if_neg (by omega)]; omega
      · show dep (dP th pd).2 ≤ dep (x :: pd)
        rw [show dep (x :: pd) = (if x = 91 ∨ x = 11 then 1 else 0) + dep pd from rfl]; omega
      · intro y hy
        rcases List.mem_cons.mp hy with z | z
        · rw [z]; exact hx
        · exact i6 y z
      · show tyc (x :: (dP th pd).1) (List.replicate (nbn (x :: pd) + 1) true) = _
        rw [show nbn (x :: pd) = (if x = 12 ∨ x = 13 then 1 else 0) + nbn pd from rfl]
        simp only [tyc]
        have e1 : ty1 x (List.replicate ((if x = 12 ∨ x = 13 then 1 else 0) + nbn pd + 1) true) = some (List.replicate (nbn pd + 1) true) := by
          rcases hx with z | z | z
          · subst z; simp [ty1, List.replicate_succ]
          · subst z
            rw [if_pos (Or.inl rfl), show 1 + nbn pd + 1 = nbn pd + 2 by omega]
            simp [ty1, List.replicate_succ]
          · subst z
            rw [if_pos (Or.inr rfl), show 1 + nbn pd + 1 = nbn pd + 2 by omega]
            simp [ty1, List.replicate_succ]
        rw [e1, Option.bind_some]
        exact i7
      · show nvl (x :: (dP th pd).1) = 0
        rw [show nvl (x :: (dP th pd).1) = (if x % 16 ≤ 1 then 1 else 0) + nvl (dP th pd).1 from rfl, i8, if_neg (by omega)]
    · rw [if_neg e]
      exact ⟨h, by simpa using e, rfl, by simp, Nat.le_refl _, by simp, rfl, rfl⟩
def enP (x : Nat) : Int32 := if x = 91 then -33 else enO x
def stX6 (σ : PS) : List Nat → Prop
  | [] => True
  | x :: pd => σ.1 6 pd.length = enP x ∧ stX6 σ pd
def stM6 (σ : PS) : List Nat → Prop
  | [] => True
  | x :: pd => σ.1 256 pd.length = nI x ∧ stM6 σ pd
theorem stX6_ext {σ τ : PS} : ∀ pd : List Nat, (∀ k, k < pd.length → τ.1 6 k = σ.1 6 k) → stX6 σ pd → stX6 τ pd
  | [], _, _ => trivial
  | x :: pd, h, hs => ⟨(h _ (by simp)).trans hs.1, stX6_ext pd (fun k hk => h k (by simp; omega)) hs.2⟩
theorem stM6_ext {σ τ : PS} : ∀ pd : List Nat, (∀ k, k < pd.length → τ.1 256 k = σ.1 256 k) → stM6 σ pd → stM6 τ pd
  | [], _, _ => trivial
  | x :: pd, h, hs => ⟨(h _ (by simp)).trans hs.1, stM6_ext pd (fun k hk => h k (by simp; omega)) hs.2⟩
def QX (σ : PS) (pd : List Nat) : Prop := σ.1 4 4 = nI pd.length ∧ σ.1 4 5 = nI (dep pd) ∧ σ.1 4 6 = nI (brk pd) ∧ stX6 σ pd
def QM (σ : PS) (pd : List Nat) : Prop := σ.1 249 16 = nI pd.length ∧ σ.1 249 13 = nI (dep pd) ∧ stM6 σ pd
theorem QX_ax {σ τ : PS} {pd : List Nat} (h : QX σ pd) (ha : ax σ τ) : QX τ pd := by
  obtain ⟨a, b, c, d⟩ := h
  exact ⟨ha.2.1.trans a, ha.2.2.1.trans b, ha.2.2.2.trans c, stX6_ext pd (fun k _ => by rw [(ha.1 6 (by decide)).1]) d⟩
theorem QM_am {r : Nat} {σ τ : PS} {pd : List Nat} (h : QM σ pd) (ha : am r σ τ) : QM τ pd := by
  obtain ⟨a, b, c⟩ := h
  exact ⟨(ha.1.2 16 (by decide)).1.trans a, (ha.1.2 13 (by decide)).1.trans b, stM6_ext pd (fun k _ => by rw [(ha.1.1 256 (by decide) (by decide)).1]) c⟩
def ay (σ τ : PS) : Prop := agr [1, 4, 5, 6] σ τ
theorem ay_ax {σ τ : PS} (h : ax σ τ) : ay σ τ := agr_mono h.1 (by simp)
def at2 (r : Nat) (σ τ : PS) : Prop := agm [251, 252, 256] [8, 9, 10, 12, 13, 16] σ τ ∧ ∀ x, x < 400 * r → τ.1 251 x = σ.1 251 x
theorem at2_refl {r : Nat} {σ : PS} : at2 r σ σ := ⟨agm_refl, fun _ _ => rfl⟩
theorem at2_trans {r : Nat} {a b c : PS} (h1 : at2 r a b) (h2 : at2 r b c) : at2 r a c := ⟨agm_trans h1.1 h2.1, fun x hx => (h2.2 x hx).trans (h1.2 x hx)⟩
theorem at2_am {r : Nat} {σ τ : PS} (h : am r σ τ) : at2 r σ τ := ⟨agm_mono h.1 (by simp) (by simp), h.2⟩
theorem at2_f {r : Nat} {σ τ : PS} {Fs : List Nat} (h : agm [] Fs σ τ) (hs : ∀ j ∈ Fs, j ∈ [8, 9, 10, 12, 13, 16]) : at2 r σ τ := ⟨agm_mono h (by simp) hs, fun x _ => by rw [(h.1 251 (by simp) (by decide)).1]⟩
def enH (th : Nat) : Int32 := if th = 1 then -34 else if th = 2 then -35 else -36
theorem enP_cmp {th x : Nat} (h1 : 1 ≤ th) (h3 : th ≤ 3) (hx : x = 11 ∨ x = 12 ∨ x = 13) : (enP x ≤ enH th ↔ th ≤ stg x) ∧ ¬ enP x = -33 ∧ (enP x = -36 ↔ x = 11) ∧ enP x = enT x ∧ ¬ enT x = 0 := by
  have ht : th = 1 ∨ th = 2 ∨ th = 3 := by omega
  rcases ht with a | a | a <;> rcases hx with b | b | b <;> subst a <;> subst b <;> exact ⟨by decide, by decide, by decide, by decide, by decide⟩
section ST
variable {n : Nat} {B : Nat → Int32} {sz : Nat}
theorem X_pop7 {th : Nat} (h1 : 1 ≤ th) (h3 : th ≤ 3) : ∀ (pd : List Nat) (k : Nat) (σ : PS) (c : List Int32) (m : Nat), ordP pd → QX σ pd → KX σ c m → pd.length ≤ 33 → c.length + pen pd ≤ 400 → pd.length < k → ∃ e τ, L_X5_popDownTo_7 n k (enH th) (nI pd.length - 1) σ = some (e, τ) ∧ KX τ (c ++ (dP th pd).1.map enT) m ∧ QX τ (dP th pd).2 ∧ agr [4, 5] σ τ
  | pd, 0, σ, c, m, ho, hq, hk, hl, hc, hf => by omega
  | [], k + 1, σ, c, m, ho, hq, hk, hl, hc, hf => by
    rw [L_X5_popDownTo_7, if_pos (by decide)]
    exact ⟨_, _, rfl, by simpa [dP] using hk, hq, agr_refl⟩
  | x :: pd, k + 1, σ, c, m, ho, hq, hk, hl, hc, hf => by
    obtain ⟨a, b, d, e, e'⟩ := id hq
    rw [List.length_cons] at hl hf
    have hx : nI (x :: pd).length - 1 = nI pd.length := by rw [List.length_cons]; exact nI_pred _
    rw [L_X5_popDownTo_7, hx, if_neg (show ¬ nI pd.length < 0 from nI_n0 (by omega)), nI_clamp (by omega), if_pos ⟨nI_pos' (by omega), by omega⟩, e]
    have hox := ho.1
    unfold okx at hox
    unfold dP
    by_cases z91 : x = 91
    · subst z91
      rw [if_pos (show enP 91 = -33 from rfl), if_neg (by rw [show stg 91 = 0 from rfl]; omega)]
      exact ⟨_, _, rfl, by simpa using hk, hq, agr_refl⟩
    · obtain ⟨c1, c2, c3, c4, c5⟩ := enP_cmp (th := th) (x := x) h1 h3 (by omega)
      have hpen : pen (x :: pd) = 1 + pen pd := by show (if x = 91 then 0 else 1) + pen pd = _; rw [if_neg z91]
      have hbrk : brk (x :: pd) = brk pd := by show (if x = 91 then 1 else 0) + brk pd = _; rw [if_neg z91, Nat.zero_add]
      rw [if_neg c2]
      by_cases zt : th ≤ stg x
      · rw [if_pos (c1.mpr zt), if_pos zt]
        have lst : c ++ (x :: (dP th pd).1).map enT = (c ++ [enT x]) ++ (dP th pd).1.map enT := by simp
        have fin : ∀ σ1, KX σ1 c m → agr [4, 5] σ σ1 → σ1.1 4 5 = nI (dep pd) → σ1.1 4 6 = nI (brk pd) → ∃ e τ, ((F_X5_emit n (enP x) σ1).bind (fun q8 => L_X5_popDownTo_7 n k (enH th) (nI pd.length + (-1)) (psI q8 4 4 (nI pd.length)))) = some (e, τ) ∧ KX τ (c ++ (x :: (dP th pd).1).map enT) m ∧ QX τ (dP th pd).2 ∧ agr [4, 5] σ τ := by
          intro σ1 k1 a1 h45 h46
          rw [c4]
          obtain ⟨τ, t1, t2, t3, t4⟩ := X_emit (n := n) k1 (by omega) c5
          rw [t1, Option.bind_some, show nI pd.length + (-1) = nI pd.length - 1 from (Int32.sub_eq_add_neg _ _).symm]
          have a6 : agr [4, 5] σ (psI τ 4 4 (nI pd.length)) := agr_trans a1 (agr_trans t3 (agr_psI (by simp)))
          have q6 : QX (psI τ 4 4 (nI pd.length)) pd := by
            refine ⟨by rw [psI_eq, if_pos rfl], ?_, ?_, ?_⟩
            · rw [psI_eq, if_neg (by decide), t4.2.2.1]; exact h45
            · rw [psI_eq, if_neg (by decide), t4.2.2.2]; exact h46
            · exact stX6_ext pd (fun j _ => by rw [(a6 6 (by decide)).1]) e'
          have k6 : KX (psI τ 4 4 (nI pd.length)) (c ++ [enT x]) m := by
            obtain ⟨u1, u2, u3, u4⟩ := t2
            refine ⟨u1, by rw [psI_eq, if_neg (by decide)]; exact u2, fun i hi => by rw [psI_other (by decide)]; exact u3 i hi, by rw [psI_eq, if_neg (by decide)]; exact u4⟩
          obtain ⟨e, τ2, s1, s2, s3, s4⟩ := X_pop7 h1 h3 pd k _ (c ++ [enT x]) m ho.2.2 q6 k6 (by omega) (by simp only [List.length_append, List.length_cons, List.length_nil]; omega) (by omega)
          exact ⟨e, τ2, s1, by rw [lst]; exact s2, s3, agr_trans a6 s4⟩
        by_cases zn : x = 11
        · rw [if_pos (c3.mpr zn)]
          have hd : dep (x :: pd) = dep pd + 1 := by show (if x = 91 ∨ x = 11 then 1 else 0) + dep pd = _; rw [if_pos (Or.inr zn)]; omega
          rw [b, hd, nI_pred]
          refine fin _ ?_ (agr_psI (by simp)) (by rw [psI_eq, if_pos rfl]) (by rw [psI_eq, if_neg (by decide), d, hbrk])
          obtain ⟨u1, u2, u3, u4⟩ := hk
          exact ⟨u1, by rw [psI_eq, if_neg (by decide)]; exact u2, fun i hi => by rw [psI_other (by decide)]; exact u3 i hi, by rw [psI_eq, if_neg (by decide)]; exact u4⟩
        · rw [if_neg (fun q => zn (c3.mp q))]
          have hd : dep (x :: pd) = dep pd := by show (if x = 91 ∨ x = 11 then 1 else 0) + dep pd = _; rw [if_neg (by omega)]; omega
          exact fin σ hk agr_refl (by rw [b, hd]) (by rw [d, hbrk])
      · rw [if_neg (fun q => zt (c1.mp q)), if_neg zt]
        exact ⟨_, _, rfl, by simpa using hk, hq, agr_refl⟩
theorem X_popDown (hn : 1000 ≤ n) {th : Nat} (h1 : 1 ≤ th) (h3 : th ≤ 3) {pd : List Nat} {σ : PS} {c : List Int32} {m : Nat} (ho : ordP pd) (hq : QX σ pd) (hk : KX σ c m) (hl : pd.length ≤ 33) (hc : c.length + pen pd ≤ 400) : ∃ τ, F_X5_popDownTo n (enH th) σ = some τ ∧ KX τ (c ++ (dP th pd).1.map enT) m ∧ QX τ (dP th pd).2 ∧ agr [4, 5] σ τ := by
  obtain ⟨e, τ, a, b, d, g⟩ := X_pop7 (n := n) h1 h3 pd n σ c m ho hq hk hl hc (by omega)
  unfold F_X5_popDownTo
  rw [hq.1, a, Option.bind_some]
  refine ⟨τ, ?_, b, d, g⟩
  split <;> rfl
theorem M_strength {x : Nat} (hx : okx x) (σ : PS) : F_X12_strength n (nI x) σ = some (nI (stg x), σ) := by
  unfold okx at hx
  rcases hx with z | z | z | z <;> subst z <;> rfl
theorem M_lay0 {r : Nat} (hr : r < 6) {th : Nat} (h1 : 1 ≤ th) (h3 : th ≤ 3) : ∀ (pd : List Nat) (k : Nat) (σ : PS) (c : List Nat) (m : Nat), ordP pd → QM σ pd → KM σ r c m → pd.length ≤ 33 → c.length + pen pd ≤ 400 → pd.length < k → ∃ τ, L_X12_layDown_0 n k (nI th) σ = some τ ∧ KM τ r (c ++ (dP th pd).1) m ∧ QM τ (dP th pd).2 ∧ agm [251, 252] [13, 16] σ τ ∧ at2 r σ τ
  | pd, 0, σ, c, m, ho, hq, hk, hl, hc, hf => by omega
  | [], k + 1, σ, c, m, ho, hq, hk, hl, hc, hf => by
    rw [L_X12_layDown_0, hq.1, if_pos (by decide)]
    exact ⟨_, rfl, by simpa [dP] using hk, hq, agm_refl, at2_refl⟩
  | x :: pd, k + 1, σ, c, m, ho, hq, hk, hl, hc, hf => by
    obtain ⟨a, b, e, e'⟩ := id hq
    rw [List.length_cons] at hl hf
    have hx : nI (x :: pd).length - 1 = nI pd.length := by rw [List.length_cons]; exact nI_pred _
    have hox := ho.1
    unfold okx at hox
    rw [L_X12_layDown_0, a, if_neg (show ¬ nI (x :: pd).length ≤ 0 from nI_nle (by simp) (by rw [List.length_cons]; omega)), hx, nI_clamp (by omega), if_pos ⟨nI_pos' (by omega), by omega⟩, e, M_strength ho.1, Option.bind_some]
    unfold dP
    by_cases zt : th ≤ stg x
    · have hx3 : x = 11 ∨ x = 12 ∨ x = 13 := by
        rcases hox with z | z | z | z
        · subst z; rw [show stg 91 = 0 from rfl] at zt; omega
        all_goals omega
      have hpen : pen (x :: pd) = 1 + pen pd := by show (if x = 91 then 0 else 1) + pen pd = _; rw [if_neg (by omega)]
      have hs3 : stg x ≤ 3 := by unfold stg; split; omega; split; omega; split <;> omega
      rw [if_pos zt, if_neg (show ¬ nI (stg x) < nI th from nI_nlt zt (by omega))]
      show ∃ τ, (if 0 ≤ (psI σ 249 16 (σ.1 249 16 - 1)).1 249 16 ∧ ((psI σ 249 16 (σ.1 249 16 - 1)).1 249 16).toNatClampNeg < 400 then (F_X12_puts n ((psI σ 249 16 (σ.1 249 16 - 1)).1 256 (((psI σ 249 16 (σ.1 249 16 - 1)).1 249 16).toNatClampNeg)) (nI 0) (psI σ 249 16 (σ.1 249 16 - 1))).bind _ else none) = some τ ∧ _
      rw [a, hx]
      have a1 : agm [] [16] σ (psI σ 249 16 (nI pd.length)) := agm_fld (by simp)
      have e1 : (psI σ 249 16 (nI pd.length)).1 249 16 = nI pd.length := by rw [psI_eq, if_pos rfl]
      have e2 : (psI σ 249 16 (nI pd.length)).1 256 pd.length = nI x := by rw [psI_other (by decide)]; exact e
      rw [e1, nI_clamp (by omega), if_pos ⟨nI_pos' (by omega), by omega⟩, e2]
      obtain ⟨τ, t1, t2, t3, t4⟩ := M_puts (n := n) hr (s := x) (v := 0) (KM_f hk a1 (by decide) (by decide)) (by omega)
      rw [t1, Option.bind_some]
      have f1 : τ.1 249 16 = nI pd.length := by rw [(t3.2 16 (by simp)).1]; exact e1
      have f2 : τ.1 256 pd.length = nI x := by rw [(t3.1 256 (by decide) (by decide)).1]; exact e2
      have f3 : τ.1 249 13 = nI (dep (x :: pd)) := by rw [(t3.2 13 (by simp)).1, (a1.2 13 (by decide)).1]; exact b
      rw [f1, nI_clamp (by omega), if_pos ⟨nI_pos' (by omega), by omega⟩, f2, f3]
      have at1 : agm [251, 252] [13, 16] σ τ := agm_trans (agm_mono a1 (by simp) (by simp)) (agm_mono t3 (by simp) (by simp))
      have ag1 : at2 r σ τ := at2_trans (at2_f a1 (by simp)) (at2_am t4)
      have st1 : stM6 τ pd := stM6_ext pd (fun j _ => by rw [(at1.1 256 (by decide) (by decide)).1]) e'
      have lst : c ++ (x :: (dP th pd).1) = (c ++ [x + 16 * 0]) ++ (dP th pd).1 := by simp
      by_cases zn : x = 11
      · rw [if_pos (show nI x = (11 : Int32) by rw [zn]; rfl)]
        have hd : dep (x :: pd) = dep pd + 1 := by show (if x = 91 ∨ x = 11 then 1 else 0) + dep pd = _; rw [if_pos (Or.inr zn)]; omega
        rw [hd, nI_pred]
        have a2 : agm [] [13] τ (psI τ 249 13 (nI (dep pd))) := agm_fld (by simp)
        obtain ⟨τ2, s1, s2, s3, s4, s5⟩ := M_lay0 hr h1 h3 pd k _ (c ++ [x + 16 * 0]) m ho.2.2 ⟨by rw [psI_eq, if_neg (by decide)]; exact f1, by rw [psI_eq, if_pos rfl], stM6_ext pd (fun j _ => by rw [psI_other (by decide)]) st1⟩ (KM_f t2 a2 (by decide) (by decide)) (by omega) (by simp only [List.length_append, List.length_cons, List.length_nil]; omega) (by omega)
        exact ⟨τ2, s1, by rw [lst]; exact s2, s3, agm_trans at1 (agm_trans (agm_mono a2 (by simp) (by simp)) s4), at2_trans ag1 (at2_trans (at2_f a2 (by simp)) s5)⟩
      · rw [if_neg (show ¬ nI x = (11 : Int32) from fun q => zn (nI_inj (b := 11) (by omega) (by decide) q))]
        have hd : dep (x :: pd) = dep pd := by show (if x = 91 ∨ x = 11 then 1 else 0) + dep pd = _; rw [if_neg (by omega)]; omega
        obtain ⟨τ2, s1, s2, s3, s4, s5⟩ := M_lay0 hr h1 h3 pd k τ (c ++ [x + 16 * 0]) m ho.2.2 ⟨f1, by rw [f3, hd], st1⟩ t2 (by omega) (by simp only [List.length_append, List.length_cons, List.length_nil]; omega) (by omega)
        exact ⟨τ2, s1, by rw [lst]; exact s2, s3, agm_trans at1 s4, at2_trans ag1 s5⟩
    · rw [if_neg zt, if_pos (show nI (stg x) < nI th from nI_lt (by omega) (by omega))]
      exact ⟨_, rfl, by simpa using hk, hq, agm_refl, at2_refl⟩
theorem M_layDown (hn : 1000 ≤ n) {r : Nat} (hr : r < 6) {th : Nat} (h1 : 1 ≤ th) (h3 : th ≤ 3) {pd : List Nat} {σ : PS} {c : List Nat} {m : Nat} (ho : ordP pd) (hq : QM σ pd) (hk : KM σ r c m) (hl : pd.length ≤ 33) (hc : c.length + pen pd ≤ 400) : ∃ τ, F_X12_layDown n (nI th) σ = some τ ∧ KM τ r (c ++ (dP th pd).1) m ∧ QM τ (dP th pd).2 ∧ agm [251, 252] [13, 16] σ τ ∧ at2 r σ τ := by
  obtain ⟨τ, a, b, d, g⟩ := M_lay0 (n := n) hr h1 h3 pd n σ c m ho hq hk hl hc (by omega)
  unfold F_X12_layDown
  rw [a]
  exact ⟨τ, rfl, b, d, g⟩
theorem stM6_get : ∀ (pd : List Nat) (σ : PS), stM6 σ pd → ∀ i, i < pd.length → σ.1 256 i = nI (pd.reverse.getD i 0)
  | [], σ, h, i, hi => by simp at hi
  | x :: pd, σ, h, i, hi => by
    rw [List.length_cons] at hi
    rw [List.reverse_cons, getD_app _ _ 0 i (by simp; omega), List.length_reverse]
    by_cases z : i = pd.length
    · rw [if_pos z, z]; exact h.1
    · rw [if_neg z]; exact stM6_get pd σ h.2 i (by omega)
theorem brk_mem : ∀ pd : List Nat, brk pd = 0 ↔ 91 ∉ pd
  | [] => by simp [brk]
  | x :: pd => by
    have ih := brk_mem pd
    unfold brk
    by_cases z : x = 91
    · subst z; simp
    · rw [if_neg z, Nat.zero_add, ih]
      simp only [List.mem_cons, not_or]
      exact ⟨fun h => ⟨fun q => z q.symm, h⟩, fun h => h.2⟩
theorem M_ins2 {pd : List Nat} {σ : PS} (hq : QM σ pd) (ho : ordP pd) (hl : pd.length ≤ 33) : ∀ k j : Nat, j ≤ pd.length → pd.length < k + j → (∀ i, i < j → pd.reverse.getD i 0 ≠ 91) → L_X12_isInside_2 n k (nI j) σ = some (if brk pd = 0 then 1 else 0, σ)
  | 0, j, hj, hk, h => by omega
  | k + 1, j, hj, hk, h => by
    rw [L_X12_isInside_2, hq.1]
    by_cases z : pd.length ≤ j
    · rw [if_pos (nI_le z (by omega)), if_pos ((brk_mem pd).mpr (fun q => by
        have q2 : 91 ∈ pd.reverse := List.mem_reverse.mpr q
        obtain ⟨i, hi, e⟩ := List.mem_iff_getElem.mp q2
        have := h i (by simp at hi; omega)
        rw [List.getD_eq_getElem?_getD, List.getElem?_eq_getElem hi, Option.getD_some] at this
        exact this e))]
    · rw [if_neg (nI_ge (by omega) (by omega)), nI_clamp (by omega), if_pos ⟨nI_pos' (by omega), by omega⟩, stM6_get pd σ hq.2.2 j (by omega)]
      have hmem : pd.reverse.getD j 0 ∈ pd := by
        rw [List.getD_eq_getElem?_getD, List.getElem?_eq_getElem (show j < pd.reverse.length by simp; omega), Option.getD_some]
        exact List.mem_reverse.mp (List.getElem_mem _)
      have hox := ord_ok pd ho _ hmem
      unfold okx at hox
      by_cases e : pd.reverse.getD j 0 = 91
      · rw [if_pos (by rw [e]; rfl), if_neg (fun q => (brk_mem pd).mp q (by rw [← e]; exact hmem))]
      · rw [if_neg (show ¬ nI (pd.reverse.getD j 0) = (91 : Int32) from fun q => e (nI_inj (b := 91) (by omega) (by decide) q)), nI_1]
        exact M_ins2 hq ho hl k (j + 1) (by omega) (by omega) (fun i hi => by
          by_cases z : i = j
          · rw [z]; exact e
          · exact h i (by omega))
theorem M_isInside (hn : 1000 ≤ n) {pd : List Nat} {σ : PS} (hq : QM σ pd) (ho : ordP pd) (hl : pd.length ≤ 33) : F_X12_isInside n σ = some (if brk pd = 0 then 0 else 1, σ) := by
  unfold F_X12_isInside
  rw [show (0 : Int32) = nI 0 from rfl, M_ins2 hq ho hl n 0 (by omega) (by omega) (fun i hi => by omega), Option.bind_some]
  by_cases z : brk pd = 0
  · simp only [z, if_true]; rfl
  · simp only [z, if_false]; rfl
end ST
