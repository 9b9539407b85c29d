/-! A step of the reference: the words of a cell, the choice, who is asked. -/
/-- no row outside T changes, and of the reference's own fields (249) those in Fs alone -/
def agm (T Fs : List Nat) (σ τ : PS) : Prop := (∀ j, j ∉ T → j ≠ 249 → τ.1 j = σ.1 j ∧ τ.2 j = σ.2 j) ∧ ∀ k, k ∉ Fs → τ.1 249 k = σ.1 249 k ∧ τ.2 249 k = σ.2 249 k
theorem agm_refl {T Fs : List Nat} {σ : PS} : agm T Fs σ σ := ⟨fun _ _ _ => ⟨rfl, rfl⟩, fun _ _ => ⟨rfl, rfl⟩⟩
theorem agm_trans {T Fs : List Nat} {a b c : PS} (h1 : agm T Fs a b) (h2 : agm T Fs b c) : agm T Fs a c := ⟨fun j hj hn => ⟨(h2.1 j hj hn).1.trans (h1.1 j hj hn).1, (h2.1 j hj hn).2.trans (h1.1 j hj hn).2⟩, fun k hk => ⟨(h2.2 k hk).1.trans (h1.2 k hk).1, (h2.2 k hk).2.trans (h1.2 k hk).2⟩⟩
theorem agm_mono {T U Fs Gs : List Nat} {a b : PS} (h : agm T Fs a b) (hs : ∀ j ∈ T, j ∈ U) (hf : ∀ j ∈ Fs, j ∈ Gs) : agm U Gs a b := ⟨fun j hj hn => h.1 j (fun q => hj (hs j q)) hn, fun k hk => h.2 k (fun q => hk (hf k q))⟩
theorem agm_of {T Fs : List Nat} {a b : PS} (h : agr T a b) (hn : 249 ∉ T) : agm T Fs a b := ⟨fun j hj _ => h j hj, fun k _ => ⟨congrFun (h 249 hn).1 k, congrFun (h 249 hn).2 k⟩⟩
theorem agm_psI {T Fs : List Nat} {σ : PS} {i k : Nat} {v : Int32} (h : i ∈ T) (hn : i ≠ 249) : agm T Fs σ (psI σ i k v) := ⟨fun j hj _ => psI_ne (fun e => hj (e ▸ h)), fun b _ => ⟨congrFun (psI_ne (Ne.symm hn)).1 b, rfl⟩⟩
theorem agm_psJ {T Fs : List Nat} {σ : PS} {i k : Nat} {v : Int64} (h : i ∈ T) (hn : i ≠ 249) : agm T Fs σ (psJ σ i k v) := ⟨fun j hj _ => psJ_ne (fun e => hj (e ▸ h)), fun b _ => ⟨rfl, congrFun (psJ_ne (Ne.symm hn)).2 b⟩⟩
theorem agm_fld {T Fs : List Nat} {σ : PS} {k : Nat} {v : Int32} (h : k ∈ Fs) : agm T Fs σ (psI σ 249 k v) := ⟨fun j _ hn => psI_ne hn, fun b hb => ⟨by rw [psI_eq, if_neg (show ¬ b = k from fun e => hb (e ▸ h))], rfl⟩⟩
theorem rowN_agm {T Fs : List Nat} {σ τ : PS} {i : Nat} {S : Nat → Nat} (h : rowN σ i S) (ha : agm T Fs σ τ) (hi : i ∉ T) (hn : i ≠ 249) : rowN τ i S := (ha.1 i hi hn).1.trans h
theorem rowN_psJ {σ : PS} {i j k : Nat} {v : Int64} {S : Nat → Nat} (h : rowN σ i S) : rowN (psJ σ j k v) i S := h
/-- how many bits of a number below 64 -/
def pcn (x : Nat) : Nat := x % 2 + x / 2 % 2 + x / 4 % 2 + x / 8 % 2 + x / 16 % 2 + x / 32 % 2
theorem pcn_step : ∀ x, x < 64 → x ≠ 0 → pcn x = pcn (x &&& (x - 1)) + 1 ∧ (x &&& (x - 1)) < 64 := by decide +kernel
theorem pcn_le : ∀ x, x < 64 → pcn x ≤ 6 := by decide +kernel
section MS
variable {n : Nat} {S : Nat → Nat}
theorem M_bits4 : ∀ (k c x : Nat) (σ : PS), x < 64 → pcn x < k → L_X12_bits_4 n k (nI c) (nI x) σ = some (nI (c + pcn x), σ)
  | 0, c, x, σ, hx, hk => by omega
  | k + 1, c, x, σ, hx, hk => by
    rw [L_X12_bits_4]
    simp (disch := omega) only [nI_lit, nI_eq, nI_add]
    by_cases e : x = 0
    · subst e; rw [if_pos rfl]; rfl
    · obtain ⟨h1, h2⟩ := pcn_step x hx e
      rw [if_neg e, nI_sub (by omega), nI_and, M_bits4 k (c + 1) _ σ h2 (by omega), h1]
      congr 2
      congr 1
      omega
theorem M_bits (hn : 100 ≤ n) {σ : PS} {x : Nat} (hx : x < 64) : F_X12_bits n (nI x) σ = some (nI (pcn x), σ) := by
  unfold F_X12_bits
  rw [show (0 : Int32) = nI 0 from rfl, M_bits4 n 0 x σ hx (by have := pcn_le x hx; omega)]
  simp
/-- the tents on a cell, as bits, of the first k -/
def tOn (S : Nat → Nat) (c : Nat) : Nat → Nat
  | 0 => 0
  | k + 1 => tOn S c k ||| (if S (13 + 4 * k) = c then 2 ^ k else 0)
theorem or_lt {a b k : Nat} (ha : a < 2 ^ k) (hb : b < 2 ^ k) : a ||| b < 2 ^ k := Nat.or_lt_two_pow ha hb
theorem tOn_lt (S : Nat → Nat) (c : Nat) : ∀ k, tOn S c k < 2 ^ k
  | 0 => by simp [tOn]
  | k + 1 => by
    unfold tOn
    have h := tOn_lt S c k
    have h2 : (2 : Nat) ^ k < 2 ^ (k + 1) := Nat.pow_lt_pow_right (by decide) (by omega)
    have h3 : 0 < (2 : Nat) ^ (k + 1) := Nat.pos_of_ne_zero (by simp)
    refine or_lt (by omega) ?_
    split <;> omega
theorem shl1 : ∀ t, t < 31 → (nI 1 <<< (nI t &&& nI 31)) = nI (2 ^ t) := by decide +kernel
theorem M_tentsOn4 (h2 : S 2 ≤ 6) (hc : ∀ t, t < S 2 → S (13 + 4 * t) < 2 ^ 31) {c : Nat} (hcl : c < 2 ^ 31) : ∀ (k t : Nat) (σ : PS), rowN σ 259 S → t ≤ S 2 → 7 ≤ k + t → L_X12_tentsOn_4 n k (nI c) (nI (tOn S c t)) (nI t) σ = some (nI (tOn S c (S 2)), σ)
  | 0, t, σ, hS, ht, hk => by omega
  | k + 1, t, σ, hS, ht, hk => by
    rw [L_X12_tentsOn_4, rowN_get hS]
    by_cases e : S 2 ≤ t
    · have : t = S 2 := by omega
      subst this
      rw [if_pos (nI_le (Nat.le_refl _) (by omega))]
    · rw [if_neg (nI_ge (by omega) (by omega)), M_cellOf hS (by omega)]
      simp only [Option.bind_some]
      have hcc := hc t (by omega)
      simp (disch := omega) only [nI_lit, nI_eq, nI_add]
      have ih := M_tentsOn4 h2 hc hcl k (t + 1) σ hS (by omega) (by omega)
      rw [show tOn S c (t + 1) = tOn S c t ||| (if S (13 + 4 * t) = c then 2 ^ t else 0) from rfl] at ih
      by_cases eq : S (13 + 4 * t) = c
      · rw [if_pos eq, shl1 t (by omega), nI_or]
        rw [if_pos eq] at ih
        exact ih
      · rw [if_neg eq, nI_or]
        rw [if_neg eq] at ih
        exact ih
theorem M_tentsOn (hn : 100 ≤ n) {σ : PS} (hS : rowN σ 259 S) (h2 : S 2 ≤ 6) (hc : ∀ t, t < S 2 → S (13 + 4 * t) < 2 ^ 31) {c : Nat} (hcl : c < 2 ^ 31) : F_X12_tentsOn n (nI c) σ = some (nI (tOn S c (S 2)), σ) := by
  unfold F_X12_tentsOn
  have := M_tentsOn4 (n := n) h2 hc hcl n 0 σ hS (by omega) (by omega)
  rw [show (0 : Int32) = nI 0 from rfl]
  rw [show tOn S c 0 = 0 from rfl] at this
  rw [this]
  rfl
/-- how often the first k tents were asked, together -/
def aAll (S : Nat → Nat) : Nat → Nat
  | 0 => 0
  | k + 1 => aAll S k + S (13 + 4 * k + 2)
theorem M_askedAll4 (h2 : S 2 ≤ 6) : ∀ (k t : Nat) (σ : PS), rowN σ 259 S → t ≤ S 2 → 7 ≤ k + t → L_X12_askedAll_4 n k (nI (aAll S t)) (nI t) σ = some (nI (aAll S (S 2)), σ)
  | 0, t, σ, hS, ht, hk => by omega
  | k + 1, t, σ, hS, ht, hk => by
    rw [L_X12_askedAll_4, rowN_get hS]
    by_cases e : S 2 ≤ t
    · have : t = S 2 := by omega
      subst this
      rw [if_pos (nI_le (Nat.le_refl _) (by omega))]
    · rw [if_neg (nI_ge (by omega) (by omega)), M_askedOf hS (by omega)]
      simp only [Option.bind_some, nI_lit, nI_add]
      exact M_askedAll4 h2 k (t + 1) σ hS (by omega) (by omega)
theorem M_askedAll (hn : 100 ≤ n) {σ : PS} (hS : rowN σ 259 S) (h2 : S 2 ≤ 6) : F_X12_askedAll n σ = some (nI (aAll S (S 2)), σ) := by
  unfold F_X12_askedAll
  have := M_askedAll4 (n := n) h2 n 0 σ hS (by omega) (by omega)
  rw [show (0 : Int32) = nI 0 from rfl]
  rw [show aAll S 0 = 0 from rfl] at this
  rw [this]
  rfl
/-- whether two cells are beside each other -/
def bes (sd a b : Nat) : Prop := nb sd a 0 = b ∨ nb sd a 1 = b ∨ nb sd a 2 = b ∨ nb sd a 3 = b
theorem M_beside2 (h1 : 2 ≤ S 1) (h2 : S 1 ≤ 6) {a b : Nat} (ha : a < S 1 * S 1) (hb : b < S 1 * S 1) : ∀ (k d : Nat) (σ : PS), rowN σ 259 S → d ≤ 4 → 5 ≤ k + d → (∀ e, e < d → nb (S 1) a e ≠ b) → (bes (S 1) a b ∧ L_X12_areBeside_2 n k (nI a) (nI b) (nI d) σ = some (0, σ)) ∨ (¬ bes (S 1) a b ∧ L_X12_areBeside_2 n k (nI a) (nI b) (nI d) σ = some (1, σ))
  | 0, d, σ, hS, hd, hk, hf => by omega
  | k + 1, d, σ, hS, hd, hk, hf => by
    have h36 : S 1 * S 1 ≤ 36 := by
      have := Nat.mul_le_mul h2 h2
      omega
    rw [L_X12_areBeside_2]
    by_cases e4 : d = 4
    · subst e4
      refine Or.inr ⟨fun h => ?_, by rw [if_pos (show (4 : Int32) ≤ nI 4 by decide)]⟩
      rcases h with h | h | h | h
      · exact hf 0 (by omega) h
      · exact hf 1 (by omega) h
      · exact hf 2 (by omega) h
      · exact hf 3 (by omega) h
    · rw [M_besideOf hS h1 h2 ha (by omega)]
      simp only [Option.bind_some, nI_lit]
      rw [if_neg (nI_ge (by omega) (by omega))]
      by_cases e : nb (S 1) a d = b
      · refine Or.inl ⟨?_, ?_⟩
        · have : d = 0 ∨ d = 1 ∨ d = 2 ∨ d = 3 := by omega
          rcases this with q | q | q | q <;> subst q
          · exact Or.inl e
          · exact Or.inr (Or.inl e)
          · exact Or.inr (Or.inr (Or.inl e))
          · exact Or.inr (Or.inr (Or.inr e))
        · have : oI (nb (S 1) a d) = nI b := by
            unfold oI
            rw [if_neg (by omega), e]
          rw [if_pos this]
      · have hne : ¬ oI (nb (S 1) a d) = nI b := by
          unfold oI
          by_cases q : nb (S 1) a d = 99
          · rw [if_pos q]; exact m1_ne' (by omega)
          · rw [if_neg q]
            have := nb_lt ha q
            intro z
            exact e (nI_inj (by omega) (by omega) z)
        rw [if_neg hne, nI_add]
        exact M_beside2 h1 h2 ha hb k (d + 1) σ hS (by omega) (by omega) (fun x hx => by
          by_cases q : x = d
          · subst q; exact e
          · exact hf x (by omega))
theorem M_areBeside (hn : 100 ≤ n) {σ : PS} (hS : rowN σ 259 S) (h1 : 2 ≤ S 1) (h2 : S 1 ≤ 6) {a b : Nat} (ha : a < S 1 * S 1) (hb : b < S 1 * S 1) : (bes (S 1) a b ∧ F_X12_areBeside n (nI a) (nI b) σ = some (1, σ)) ∨ (¬ bes (S 1) a b ∧ F_X12_areBeside n (nI a) (nI b) σ = some (0, σ)) := by
  unfold F_X12_areBeside
  rw [show (0 : Int32) = nI 0 from rfl]
  rcases M_beside2 (n := n) h1 h2 ha hb n 0 σ hS (by omega) (by omega) (fun e he => by omega) with ⟨q, e⟩ | ⟨q, e⟩
  · exact Or.inl ⟨q, by rw [e]; rfl⟩
  · exact Or.inr ⟨q, by rw [e]; rfl⟩
/-- how far the nearest tent of the first k that was not asked is, by the ways D -/
def nrK (S D : Nat → Nat) : Nat → Nat
  | 0 => 99
  | k + 1 => if S (13 + 4 * k + 2) = 0 then (if nrK S D k ≤ D (S (13 + 4 * k)) then nrK S D k else D (S (13 + 4 * k))) else nrK S D k
theorem nrK_le (S D : Nat → Nat) : ∀ k, nrK S D k ≤ 99
  | 0 => Nat.le_refl _
  | k + 1 => by
    unfold nrK
    have := nrK_le S D k
    split
    · split <;> omega
    · exact this
noncomputable def nr (S : Nat → Nat) (fr : Nat) : Nat := nrK S (dW (S 1) (fun c => S (37 + c)) fr) (S 2)
theorem nr_le (S : Nat → Nat) (fr : Nat) : nr S fr ≤ 99 := nrK_le _ _ _
theorem M_near10 (h2 : S 2 ≤ 6) (h36 : S 1 * S 1 ≤ 36) (hc : ∀ t, t < S 2 → S (13 + 4 * t) < S 1 * S 1) (ha : ∀ t, t < S 2 → S (13 + 4 * t + 2) < 2 ^ 31) {D : Nat → Nat} (hD : ∀ c, c < S 1 * S 1 → D c < 2 ^ 31) : ∀ (k t : Nat) (σ : PS), rowN σ 259 S → (∀ c, c < S 1 * S 1 → σ.1 260 c = nI (D c)) → t ≤ S 2 → 7 ≤ k + t → L_X12_nearest_10 n k (nI (nrK S D t)) (nI t) σ = some (nI (nrK S D (S 2)), σ)
  | 0, t, σ, hS, hw, ht, hk => by omega
  | k + 1, t, σ, hS, hw, ht, hk => by
    rw [L_X12_nearest_10, rowN_get hS]
    by_cases e : S 2 ≤ t
    · have : t = S 2 := by omega
      subst this
      rw [if_pos (nI_le (Nat.le_refl _) (by omega))]
    · have ih := M_near10 h2 h36 hc ha hD k (t + 1) σ hS hw (by omega) (by omega)
      rw [show nrK S D (t + 1) = (if S (13 + 4 * t + 2) = 0 then (if nrK S D t ≤ D (S (13 + 4 * t)) then nrK S D t else D (S (13 + 4 * t))) else nrK S D t) from rfl] at ih
      have ha' := ha t (by omega)
      have hc' := hc t (by omega)
      have hd' := hD _ hc'
      have hn' := nrK_le S D t
      rw [if_neg (nI_ge (by omega) (by omega)), M_askedOf hS (by omega)]
      have hcell := M_cellOf (n := n) hS (show t < 6 by omega)
      simp (disch := omega) only [Option.bind_some, hcell, nI_lit, nI_eq, nI_add, nI_ge0, nI_clamp, true_and, hw _ hc', nI_leI]
      by_cases ea : S (13 + 4 * t + 2) = 0
      · rw [if_pos ea, if_pos (by omega)]
        rw [if_pos ea] at ih
        by_cases el : nrK S D t ≤ D (S (13 + 4 * t))
        · rw [if_pos el]
          rw [if_pos el] at ih
          exact ih
        · rw [if_neg el]
          rw [if_neg el] at ih
          rw [if_pos (by omega)]
          exact ih
      · rw [if_neg ea]
        rw [if_neg ea] at ih
        exact ih
theorem dW_lt {sd : Nat} {bu : Nat → Nat} {fr : Nat} (h : isD sd bu fr (dW sd bu fr)) {c : Nat} (hc : c < sd * sd) : dW sd bu fr c < 100 := by
  by_cases e : dW sd bu fr c = 99
  · omega
  · have := h.2.2.2 c hc e; omega
theorem M_nearest (hn : 100 ≤ n) {σ : PS} (hS : rowN σ 259 S) (h1 : 2 ≤ S 1) (h1' : S 1 ≤ 6) (hbu : ∀ c, c < 36 → S (37 + c) < 2 ^ 31) (h2 : S 2 ≤ 6) (hc : ∀ t, t < S 2 → S (13 + 4 * t) < S 1 * S 1) (ha : ∀ t, t < S 2 → S (13 + 4 * t + 2) < 2 ^ 31) {fr : Nat} (hf : fr < S 1 * S 1) : ∃ τ, F_X12_nearest n (nI fr) σ = some (nI (nr S fr), τ) ∧ agr [260, 261] σ τ := by
  have h36 : S 1 * S 1 ≤ 36 := by
    have := Nat.mul_le_mul h1' h1'
    omega
  obtain ⟨τ, a, b, c, d⟩ := M_measures hn hS h1 h1' hbu hf
  unfold F_X12_nearest
  rw [a]
  simp only [Option.bind_some]
  have := M_near10 (n := n) h2 h36 hc ha (fun c' hc' => Nat.lt_trans (dW_lt c hc') (by decide)) n 0 τ (rowN_agr hS b (by decide)) d (by omega) (by omega)
  rw [show (99 : Int32) = nI 99 from rfl, show (0 : Int32) = nI 0 from rfl]
  rw [show nrK S (dW (S 1) (fun c => S (37 + c)) fr) 0 = 99 from rfl] at this
  rw [this]
  exact ⟨τ, rfl, b⟩
/-- the least nerve of the first k tents on a cell -/
def nvK (S : Nat → Nat) (c : Nat) : Nat → Nat
  | 0 => 99
  | k + 1 => if S (13 + 4 * k) = c then (if nvK S c k ≤ S (13 + 4 * k + 1) then nvK S c k else S (13 + 4 * k + 1)) else nvK S c k
theorem nvK_le (S : Nat → Nat) (c : Nat) : ∀ k, nvK S c k ≤ 99
  | 0 => Nat.le_refl _
  | k + 1 => by
    unfold nvK
    have := nvK_le S c k
    split
    · split <;> omega
    · exact this
theorem M_sum8 (h2 : S 2 ≤ 6) (hc : ∀ t, t < S 2 → S (13 + 4 * t) < 2 ^ 31) (hv : ∀ t, t < S 2 → S (13 + 4 * t + 1) < 2 ^ 31) {c : Nat} (hcl : c < 2 ^ 31) {x3 : Int32} : ∀ (k t : Nat) (σ : PS), rowN σ 259 S → t ≤ S 2 → 7 ≤ k + t → L_X12_sumOf_8 n k (nI c) (nI (nvK S c t)) x3 (nI t) σ = some (nI c, nI (nvK S c (S 2)), x3, σ)
  | 0, t, σ, hS, ht, hk => by omega
  | k + 1, t, σ, hS, ht, hk => by
    rw [L_X12_sumOf_8, rowN_get hS]
    by_cases e : S 2 ≤ t
    · have : t = S 2 := by omega
      subst this
      rw [if_pos (nI_le (Nat.le_refl _) (by omega))]
    · have ih := M_sum8 h2 hc hv hcl (x3 := x3) k (t + 1) σ hS (by omega) (by omega)
      rw [show nvK S c (t + 1) = (if S (13 + 4 * t) = c then (if nvK S c t ≤ S (13 + 4 * t + 1) then nvK S c t else S (13 + 4 * t + 1)) else nvK S c t) from rfl] at ih
      have hc' := hc t (by omega)
      have hv' := hv t (by omega)
      have hn' := nvK_le S c t
      rw [if_neg (nI_ge (by omega) (by omega)), M_cellOf hS (by omega)]
      have hner := M_nerveOf (n := n) hS (show t < 6 by omega)
      simp (disch := omega) only [Option.bind_some, hner, nI_lit, nI_eq, nI_add, nI_leI]
      by_cases ea : S (13 + 4 * t) = c
      · rw [if_pos ea]
        rw [if_pos ea] at ih
        by_cases el : nvK S c t ≤ S (13 + 4 * t + 1)
        · rw [if_pos el]
          rw [if_pos el] at ih
          exact ih
        · rw [if_neg el]
          rw [if_neg el] at ih
          exact ih
      · rw [if_neg ea]
        rw [if_neg ea] at ih
        exact ih
/-- bushes beside a cell, on the first k ways out -/
def bsK (S : Nat → Nat) (c : Nat) : Nat → Nat
  | 0 => 0
  | k + 1 => bsK S c k + (if nb (S 1) c k ≠ 99 ∧ S (37 + nb (S 1) c k) ≠ 0 then 1 else 0)
theorem M_sum55 (h1 : 2 ≤ S 1) (h1' : S 1 ≤ 6) (hbu : ∀ c, c < 36 → S (37 + c) < 2 ^ 31) {c : Nat} (hcl : c < S 1 * S 1) {x2 : Int32} : ∀ (k d : Nat) (σ : PS), rowN σ 259 S → d ≤ 4 → 5 ≤ k + d → L_X12_sumOf_55 n k (nI c) x2 (nI (bsK S c d)) (nI d) σ = some (nI c, x2, nI (bsK S c 4), σ)
  | 0, t, σ, hS, ht, hk => by omega
  | k + 1, d, σ, hS, hd, hk => by
    have h36 : S 1 * S 1 ≤ 36 := by
      have := Nat.mul_le_mul h1' h1'
      omega
    rw [L_X12_sumOf_55]
    by_cases e4 : d = 4
    · subst e4
      rw [if_pos (show (4 : Int32) ≤ nI 4 by decide)]
    · have ih := M_sum55 h1 h1' hbu hcl (x2 := x2) k (d + 1) σ hS (by omega) (by omega)
      rw [show bsK S c (d + 1) = bsK S c d + (if nb (S 1) c d ≠ 99 ∧ S (37 + nb (S 1) c d) ≠ 0 then 1 else 0) from rfl] at ih
      have hbs := M_besideOf (n := n) hS h1 h1' hcl (show d < 4 by omega)
      simp only [Option.bind_some, hbs, nI_lit, nI_add]
      rw [if_neg (nI_ge (by omega) (by omega))]
      by_cases en : nb (S 1) c d = 99
      · rw [en] at ih ⊢
        rw [if_neg (by simp)] at ih
        rw [show oI 99 = m1 from rfl, if_pos m1_lt0]
        exact ih
      · have hv := nb_lt hcl en
        have hoI : oI (nb (S 1) c d) = nI (nb (S 1) c d) := if_neg en
        rw [hoI, if_neg (nI_n0 (show nb (S 1) c d < 2 ^ 31 by omega)), M_isBush hS (by omega) (hbu _ (by omega))]
        simp only [Option.bind_some]
        by_cases eb : S (37 + nb (S 1) c d) = 0
        · simp only [eb, if_true, nI_lit]
          rw [if_neg (by simp [eb])] at ih
          exact ih
        · simp only [eb, if_false]
          rw [if_pos ⟨en, eb⟩] at ih
          rw [if_neg (by decide)]
          exact ih
end MS
