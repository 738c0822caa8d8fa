/-! PURE PART. Steps: cloths -/
def lcRow (p : Nat → Nat) (m : Nat → Bool) : Nat → Nat
  | 0 => 0
  | j + 1 => if m j = true then p j + 1 else max (p (j + 1)) (lcRow p m j)
def lcN (a b : Nat → Int32) : Nat → Nat → Nat
  | 0 => fun _ => 0
  | i + 1 => lcRow (lcN a b i) (fun j => decide (a i = b j))
def edRow (p : Nat → Nat) (m : Nat → Bool) (i : Nat) : Nat → Nat
  | 0 => i
  | j + 1 => min (min (p (j + 1)) (edRow p m i j) + 1) (p j + if m j = true then 0 else 1)
def edN (a b : Nat → Int32) : Nat → Nat → Nat
  | 0 => fun j => j
  | i + 1 => edRow (edN a b i) (fun j => decide (a i = b j)) (i + 1)
theorem lc_S (a b : Nat → Int32) (i j : Nat) : lcN a b (i + 1) (j + 1) = if a i = b j then lcN a b i j + 1 else max (lcN a b i (j + 1)) (lcN a b (i + 1) j) := by
  show (if decide (a i = b j) = true then lcN a b i j + 1 else max (lcN a b i (j + 1)) (lcN a b (i + 1) j)) = _
  by_cases e : a i = b j
  · rw [if_pos e, if_pos (decide_eq_true e)]
  · rw [if_neg e, if_neg (fun z => e (of_decide_eq_true z))]
theorem lc_0 (a b : Nat → Int32) (i : Nat) : lcN a b i 0 = 0 := by cases i <;> rfl
theorem lc_z (a b : Nat → Int32) (j : Nat) : lcN a b 0 j = 0 := rfl
theorem ed_S (a b : Nat → Int32) (i j : Nat) : edN a b (i + 1) (j + 1) = min (min (edN a b i (j + 1)) (edN a b (i + 1) j) + 1) (edN a b i j + if a i = b j then 0 else 1) := by
  show min (min (edN a b i (j + 1)) (edN a b (i + 1) j) + 1) (edN a b i j + if decide (a i = b j) = true then 0 else 1) = _
  by_cases e : a i = b j
  · rw [if_pos e, if_pos (decide_eq_true e)]
  · rw [if_neg e, if_neg (fun z => e (of_decide_eq_true z))]
theorem ed_0 (a b : Nat → Int32) (i : Nat) : edN a b i 0 = i := by cases i <;> rfl
theorem ed_z (a b : Nat → Int32) (j : Nat) : edN a b 0 j = j := rfl
theorem lc_near (a b : Nat → Int32) : ∀ i, (∀ j, lcN a b i j ≤ lcN a b i (j + 1) ∧ lcN a b i (j + 1) ≤ lcN a b i j + 1) ∧ ∀ j, lcN a b i j ≤ lcN a b (i + 1) j ∧ lcN a b (i + 1) j ≤ lcN a b i j + 1 := by
  have hA : ∀ i, (∀ j, lcN a b i j ≤ lcN a b i (j + 1) ∧ lcN a b i (j + 1) ≤ lcN a b i j + 1) → ∀ j, lcN a b i j ≤ lcN a b (i + 1) j ∧ lcN a b (i + 1) j ≤ lcN a b i j + 1 := by
    intro i hB j
    induction j with
    | zero => rw [lc_0, lc_0]; omega
    | succ j ih =>
      have hb := hB j
      rw [lc_S]
      split <;> omega
  intro i
  induction i with
  | zero =>
    have hB : ∀ j, lcN a b 0 j ≤ lcN a b 0 (j + 1) ∧ lcN a b 0 (j + 1) ≤ lcN a b 0 j + 1 := fun j => by rw [lc_z, lc_z]; omega
    exact ⟨hB, hA 0 hB⟩
  | succ i ih =>
    obtain ⟨hB, hAi⟩ := ih
    have hB' : ∀ j, lcN a b (i + 1) j ≤ lcN a b (i + 1) (j + 1) ∧ lcN a b (i + 1) (j + 1) ≤ lcN a b (i + 1) j + 1 := by
      intro j
      have h1 := hB j
      have h2 := hAi j
      rw [lc_S]
      split <;> omega
    exact ⟨hB', hA _ hB'⟩
theorem lc_le (a b : Nat → Int32) : ∀ i j, lcN a b i j ≤ i := by
  intro i
  induction i with
  | zero => intro j; exact Nat.le_refl _
  | succ i ih =>
    intro j
    have := (lc_near a b i).2 j
    have := ih j
    omega
theorem ed_le (a b : Nat → Int32) : ∀ i j, edN a b i j ≤ i + j := by
  intro i
  induction i with
  | zero => intro j; rw [ed_z]; omega
  | succ i ih =>
    intro j
    cases j with
    | zero => rw [ed_0]; omega
    | succ j =>
      rw [ed_S]
      have := ih (j + 1)
      omega
/-- the table up to a place -/
def Tab (v : Nat → Nat → Nat) (c t i j : Nat) (τ : Tau) : Prop := ∀ k l, l ≤ t → (k < i ∨ (k = i ∧ l < j)) → τ c (13 * k + l) = nI (v k l)
theorem Tab.put {v : Nat → Nat → Nat} {c t i j : Nat} {τ : Tau} (h : Tab v c t i j τ) (ht : t ≤ 12) (hj : j ≤ t) {x : Int32} (hx : x = nI (v i j)) : Tab v c t i (j + 1) (up τ c (13 * i + j) x) := by
  intro k l hl hkl
  by_cases e : k = i ∧ l = j
  · obtain ⟨rfl, rfl⟩ := e
    rw [up_c, hx]
  · rw [up_nj (by omega)]
    exact h k l hl (by omega)
theorem Tab.row {v : Nat → Nat → Nat} {c t i : Nat} {τ : Tau} (h : Tab v c t i (t + 1) τ) : Tab v c t (i + 1) 0 τ := fun k l hl hkl => h k l hl (by omega)
theorem Tab.keep {v : Nat → Nat → Nat} {c d t i j k : Nat} {x : Int32} {τ : Tau} (h : Tab v c t i j τ) (hd : c ≠ d) : Tab v c t i j (up τ d k x) := fun k' l hl hkl => (up_nc hd).trans (h k' l hl hkl)
theorem laid_in {F i j : Nat} {τ : Tau} (hi : i ≤ 12) (hj : j ≤ 12) : X4_laid F (nI i) (nI j) τ = some (τ 220 (13 * i + j), τ) := by
  unfold X4_laid
  rw [litM, nI_add, X10_entry_in (N := 169) rfl (by omega) (by decide), cal_some]
/-- two rows of stripes -/
def Str (s t : Nat) (a b : Nat → Int32) (τ : Tau) : Prop := s ≤ 12 ∧ t ≤ 12 ∧ τ 28 0 = nI s ∧ τ 30 0 = nI t ∧ (∀ i, i < s → τ 29 i = a i) ∧ ∀ j, j < t → τ 31 j = b j
theorem Str.keep {s t k : Nat} {a b : Nat → Int32} {x : Int32} {τ : Tau} (h : Str s t a b τ) : Str s t a b (up τ 220 k x) := by
  obtain ⟨h1, h2, h3, h4, h5, h6⟩ := h
  exact ⟨h1, h2, (up_nc (by decide)).trans h3, (up_nc (by decide)).trans h4, fun i hi => (up_nc (by decide)).trans (h5 i hi), fun i hi => (up_nc (by decide)).trans (h6 i hi)⟩
theorem alike_row {F s t i : Nat} {a b : Nat → Int32} {self : Int32 → Tau → Option (Int32 × Tau)} (hi : i ≤ s) : ∀ (m j f : Nat) (τ : Tau), j + m = t + 1 → m < f → Str s t a b τ → Tab (lcN a b) 220 t i j τ → ∃ τ', X4_mostAlike_L18 F self f (nI i) (nI j) τ = self (nI (i + 1)) τ' ∧ Str s t a b τ' ∧ Tab (lcN a b) 220 t (i + 1) 0 τ' ∧ ∀ c k, c ≠ 220 → τ' c k = τ c k := by
  intro m
  induction m with
  | zero =>
    intro j f τ hj hf hS hT
    obtain ⟨g, rfl, -⟩ := fuel hf
    have : j = t + 1 := by omega
    subst this
    obtain ⟨h1, h2, h3, h4, h5, h6⟩ := id hS
    refine ⟨τ, ?_, hS, hT.row, fun _ _ _ => rfl⟩
    unfold X4_mostAlike_L18
    rw [h4, if_pos (nI_lt (by omega) (by omega)), litA']
  | succ m ih =>
    intro j f τ hj hf hS hT
    obtain ⟨g, rfl, -⟩ := fuel hf
    obtain ⟨h1, h2, h3, h4, h5, h6⟩ := id hS
    have go : ∃ τ', X4_mostAlike_j116 F self (X4_mostAlike_L18 F self g) (nI i) (nI j) (nI (lcN a b i j)) τ = self (nI (i + 1)) τ' ∧ Str s t a b τ' ∧ Tab (lcN a b) 220 t (i + 1) 0 τ' ∧ ∀ c k, c ≠ 220 → τ' c k = τ c k := by
      obtain ⟨τ', e1, e2, e3, e4⟩ := ih (j + 1) g (up τ 220 (13 * i + j) (nI (lcN a b i j))) (by omega) (by omega) hS.keep (hT.put h2 (by omega) rfl)
      refine ⟨τ', ?_, e2, e3, fun c k hc => (e4 c k hc).trans (up_nc hc)⟩
      unfold X4_mostAlike_j116
      rw [litM, nI_add, X10_put_in (N := 169) rfl (by omega) (by decide), cal_some, litA', e1]
    conv => enter [1, τ', 1, 1]; unfold X4_mostAlike_L18
    rw [h4, if_neg (show ¬ nI t < nI j by rw [nI_ltI (by omega) (by omega)]; omega)]
    by_cases i0 : i = 0
    · subst i0
      rw [if_pos (by decide)]
      exact go
    · rw [if_neg (show ¬ nI i ≤ 0 by rw [show (0 : Int32) = nI 0 from rfl, nI_leI (by omega) (by omega)]; omega)]
      by_cases j0 : j = 0
      · subst j0
        rw [if_pos (by decide)]
        rw [lc_0] at go
        exact go
      · obtain ⟨i, rfl⟩ : ∃ d, i = d + 1 := ⟨i - 1, by omega⟩
        obtain ⟨j, rfl⟩ : ∃ d, j = d + 1 := ⟨j - 1, by omega⟩
        have ei : nI (i + 1) - 1 = nI i := by rw [litS (by omega), Nat.add_sub_cancel]
        have ej : nI (j + 1) - 1 = nI j := by rw [litS (by omega), Nat.add_sub_cancel]
        have n1 := (lc_near a b i).1 j
        have n2 := (lc_near a b i).2 j
        have b1 := lc_le a b i (j + 1)
        have b2 := lc_le a b (i + 1) j
        have b3 := lc_le a b i j
        rw [if_neg (show ¬ nI (j + 1) ≤ 0 by rw [show (0 : Int32) = nI 0 from rfl, nI_leI (by omega) (by omega)]; omega), ei, ej, X5_get_in (cap := 12) rfl (by decide) h3 (by omega) h1, cal_some, X5_get_in (cap := 12) rfl (by decide) h4 (by omega) h2, cal_some, show τ (28 + 1) i = a i from h5 i (by omega), show τ (30 + 1) j = b j from h6 j (by omega)]
        have hj76 : ∀ z : Nat, z ≤ 1 → max (max (lcN a b i (j + 1)) (lcN a b (i + 1) j)) (lcN a b i j + z) = lcN a b (i + 1) (j + 1) → X4_mostAlike_j76 F self (X4_mostAlike_L18 F self g) (nI (i + 1)) (nI (j + 1)) (nI z) τ = X4_mostAlike_j116 F self (X4_mostAlike_L18 F self g) (nI (i + 1)) (nI (j + 1)) (nI (lcN a b (i + 1) (j + 1))) τ := by
          intro z hz1 hz
          unfold X4_mostAlike_j76
          rw [ei, ej, laid_in (by omega) (by omega), cal_some, laid_in (by omega) (by omega), cal_some, laid_in (by omega) (by omega), cal_some, hT i (j + 1) (by omega) (by omega), hT (i + 1) j (by omega) (by omega), hT i j (by omega) (by omega), nI_add, nI_imax (by omega) (by omega), nI_imax (by omega) (by omega), hz]
        by_cases e : a i = b j
        · rw [if_pos e, show X4_mostAlike_j76 F self (X4_mostAlike_L18 F self g) (nI (i + 1)) (nI (j + 1)) 1 τ = _ from hj76 1 (by decide) (by rw [lc_S, if_pos e]; omega)]
          exact go
        · rw [if_neg e, show X4_mostAlike_j76 F self (X4_mostAlike_L18 F self g) (nI (i + 1)) (nI (j + 1)) 0 τ = _ from hj76 0 (by decide) (by rw [lc_S, if_neg e]; omega)]
          exact go
theorem alike_tab {F s t : Nat} {a b : Nat → Int32} (hF : 5000 ≤ F) : ∀ (m i f : Nat) (τ : Tau), i + m = s + 1 → m < f → Str s t a b τ → Tab (lcN a b) 220 t i 0 τ → ∃ τ', X4_mostAlike_L2 F f (nI i) τ = some (nI (lcN a b s t), τ') ∧ ∀ c k, c ≠ 220 → τ' c k = τ c k := by
  intro m
  induction m with
  | zero =>
    intro i f τ hi hf hS hT
    obtain ⟨g, rfl, -⟩ := fuel hf
    have : i = s + 1 := by omega
    subst this
    obtain ⟨h1, h2, h3, h4, h5, h6⟩ := id hS
    refine ⟨τ, ?_, fun _ _ _ => rfl⟩
    unfold X4_mostAlike_L2
    rw [h3, if_pos (nI_lt (by omega) (by omega)), h4, laid_in (by omega) (by omega), cal_some, hT s t (Nat.le_refl _) (by omega)]
  | succ m ih =>
    intro i f τ hi hf hS hT
    obtain ⟨g, rfl, -⟩ := fuel hf
    obtain ⟨h1, h2, h3, h4, h5, h6⟩ := id hS
    obtain ⟨τ1, e1, e2, e3, e4⟩ := alike_row (F := F) (self := X4_mostAlike_L2 F g) (show i ≤ s by omega) (t + 1) 0 F τ (by omega) (by omega) hS hT
    obtain ⟨τ2, f1, f2⟩ := ih (i + 1) g τ1 (by omega) (by omega) e2 e3
    refine ⟨τ2, ?_, fun c k hc => (f2 c k hc).trans (e4 c k hc)⟩
    conv => lhs; unfold X4_mostAlike_L2
    rw [h3, if_neg (show ¬ nI s < nI i by rw [nI_ltI (by omega) (by omega)]; omega)]
    exact e1.trans f1
theorem few_row {F s t i : Nat} {a b : Nat → Int32} {self : Int32 → Tau → Option (Int32 × Tau)} (hi : i ≤ s) : ∀ (m j f : Nat) (τ : Tau), j + m = t + 1 → m < f → Str s t a b τ → Tab (edN a b) 220 t i j τ → ∃ τ', X4_fewestChanges_L18 F self f (nI i) (nI j) τ = self (nI (i + 1)) τ' ∧ Str s t a b τ' ∧ Tab (edN a b) 220 t (i + 1) 0 τ' ∧ ∀ c k, c ≠ 220 → τ' c k = τ c k := by
  intro m
  induction m with
  | zero =>
    intro j f τ hj hf hS hT
    obtain ⟨g, rfl, -⟩ := fuel hf
    have : j = t + 1 := by omega
    subst this
    obtain ⟨h1, h2, h3, h4, h5, h6⟩ := id hS
    refine ⟨τ, ?_, hS, hT.row, fun _ _ _ => rfl⟩
    unfold X4_fewestChanges_L18
    rw [h4, if_pos (nI_lt (by omega) (by omega)), litA']
  | succ m ih =>
    intro j f τ hj hf hS hT
    obtain ⟨g, rfl, -⟩ := fuel hf
    obtain ⟨h1, h2, h3, h4, h5, h6⟩ := id hS
    have go : ∃ τ', X4_fewestChanges_j120 F self (X4_fewestChanges_L18 F self g) (nI i) (nI j) (nI (edN a b i j)) τ = self (nI (i + 1)) τ' ∧ Str s t a b τ' ∧ Tab (edN a b) 220 t (i + 1) 0 τ' ∧ ∀ c k, c ≠ 220 → τ' c k = τ c k := by
      obtain ⟨τ', e1, e2, e3, e4⟩ := ih (j + 1) g (up τ 220 (13 * i + j) (nI (edN a b i j))) (by omega) (by omega) hS.keep (hT.put h2 (by omega) rfl)
      refine ⟨τ', ?_, e2, e3, fun c k hc => (e4 c k hc).trans (up_nc hc)⟩
      unfold X4_fewestChanges_j120
      rw [litM, nI_add, X10_put_in (N := 169) rfl (by omega) (by decide), cal_some, litA', e1]
    conv => enter [1, τ', 1, 1]; unfold X4_fewestChanges_L18
    rw [h4, if_neg (show ¬ nI t < nI j by rw [nI_ltI (by omega) (by omega)]; omega)]
    by_cases i0 : i = 0
    · subst i0
      rw [if_pos (by decide), nI_add, Nat.zero_add]
      exact go
    · rw [if_neg (show ¬ nI i ≤ 0 by rw [show (0 : Int32) = nI 0 from rfl, nI_leI (by omega) (by omega)]; omega)]
      by_cases j0 : j = 0
      · subst j0
        rw [if_pos (by decide), nI_add, Nat.add_zero]
        rw [ed_0] at go
        exact go
      · obtain ⟨i, rfl⟩ : ∃ d, i = d + 1 := ⟨i - 1, by omega⟩
        obtain ⟨j, rfl⟩ : ∃ d, j = d + 1 := ⟨j - 1, by omega⟩
        have ei : nI (i + 1) - 1 = nI i := by rw [litS (by omega), Nat.add_sub_cancel]
        have ej : nI (j + 1) - 1 = nI j := by rw [litS (by omega), Nat.add_sub_cancel]
        have b1 := ed_le a b i (j + 1)
        have b2 := ed_le a b (i + 1) j
        have b3 := ed_le a b i j
        rw [if_neg (show ¬ nI (j + 1) ≤ 0 by rw [show (0 : Int32) = nI 0 from rfl, nI_leI (by omega) (by omega)]; omega), ei, ej, X5_get_in (cap := 12) rfl (by decide) h3 (by omega) h1, cal_some, X5_get_in (cap := 12) rfl (by decide) h4 (by omega) h2, cal_some, show τ (28 + 1) i = a i from h5 i (by omega), show τ (30 + 1) j = b j from h6 j (by omega)]
        have hj76 : ∀ z : Nat, z ≤ 1 → min (min (edN a b i (j + 1)) (edN a b (i + 1) j) + 1) (edN a b i j + z) = edN a b (i + 1) (j + 1) → X4_fewestChanges_j78 F self (X4_fewestChanges_L18 F self g) (nI (i + 1)) (nI (j + 1)) (nI z) τ = X4_fewestChanges_j120 F self (X4_fewestChanges_L18 F self g) (nI (i + 1)) (nI (j + 1)) (nI (edN a b (i + 1) (j + 1))) τ := by
          intro z hz1 hz
          unfold X4_fewestChanges_j78
          rw [ei, ej, laid_in (by omega) (by omega), cal_some, laid_in (by omega) (by omega), cal_some, laid_in (by omega) (by omega), cal_some, hT i (j + 1) (by omega) (by omega), hT (i + 1) j (by omega) (by omega), hT i j (by omega) (by omega), nI_add, nI_imin (by omega) (by omega), litA', nI_imin (by omega) (by omega), hz]
        by_cases e : a i = b j
        · rw [if_pos e, show X4_fewestChanges_j78 F self (X4_fewestChanges_L18 F self g) (nI (i + 1)) (nI (j + 1)) 0 τ = _ from hj76 0 (by decide) (by rw [ed_S, if_pos e])]
          exact go
        · rw [if_neg e, show X4_fewestChanges_j78 F self (X4_fewestChanges_L18 F self g) (nI (i + 1)) (nI (j + 1)) 1 τ = _ from hj76 1 (by decide) (by rw [ed_S, if_neg e])]
          exact go
theorem few_tab {F s t : Nat} {a b : Nat → Int32} (hF : 5000 ≤ F) : ∀ (m i f : Nat) (τ : Tau), i + m = s + 1 → m < f → Str s t a b τ → Tab (edN a b) 220 t i 0 τ → ∃ τ', X4_fewestChanges_L2 F f (nI i) τ = some (nI (edN a b s t), τ') ∧ ∀ c k, c ≠ 220 → τ' c k = τ c k := by
  intro m
  induction m with
  | zero =>
    intro i f τ hi hf hS hT
    obtain ⟨g, rfl, -⟩ := fuel hf
    have : i = s + 1 := by omega
    subst this
    obtain ⟨h1, h2, h3, h4, h5, h6⟩ := id hS
    refine ⟨τ, ?_, fun _ _ _ => rfl⟩
    unfold X4_fewestChanges_L2
    rw [h3, if_pos (nI_lt (by omega) (by omega)), h4, laid_in (by omega) (by omega), cal_some, hT s t (Nat.le_refl _) (by omega)]
  | succ m ih =>
    intro i f τ hi hf hS hT
    obtain ⟨g, rfl, -⟩ := fuel hf
    obtain ⟨h1, h2, h3, h4, h5, h6⟩ := id hS
    obtain ⟨τ1, e1, e2, e3, e4⟩ := few_row (F := F) (self := X4_fewestChanges_L2 F g) (show i ≤ s by omega) (t + 1) 0 F τ (by omega) (by omega) hS hT
    obtain ⟨τ2, f1, f2⟩ := ih (i + 1) g τ1 (by omega) (by omega) e2 e3
    refine ⟨τ2, ?_, fun c k hc => (f2 c k hc).trans (e4 c k hc)⟩
    conv => lhs; unfold X4_fewestChanges_L2
    rw [h3, if_neg (show ¬ nI s < nI i by rw [nI_ltI (by omega) (by omega)]; omega)]
    exact e1.trans f1
/-- the model's rows -/
def Sty (s t : Nat) (a b : Nat → Int32) (τ : Tau) : Prop := s ≤ 12 ∧ t ≤ 12 ∧ τ 1 703 = nI s ∧ τ 1 716 = nI t ∧ (∀ i, i < s → τ 1 (704 + i) = a i) ∧ ∀ j, j < t → τ 1 (717 + j) = b j
theorem Sty.keep {s t k d : Nat} {a b : Nat → Int32} {x : Int32} {τ : Tau} (h : Sty s t a b τ) (hd : 1 ≠ d) : Sty s t a b (up τ d k x) := by
  obtain ⟨h1, h2, h3, h4, h5, h6⟩ := h
  exact ⟨h1, h2, (up_nc hd).trans h3, (up_nc hd).trans h4, fun i hi => (up_nc hd).trans (h5 i hi), fun i hi => (up_nc hd).trans (h6 i hi)⟩
theorem Tab.over {v : Nat → Nat → Nat} {c t i j : Nat} {τ : Tau} {y : Int32} (h : Tab v c t i j τ) (ht : t ≤ 12) (hj : j ≤ t) {x : Int32} (hx : x = nI (v i j)) : Tab v c t i (j + 1) (up (up τ c (13 * i + j) y) c (13 * i + j) x) := by
  intro k l hl hkl
  by_cases e : k = i ∧ l = j
  · obtain ⟨rfl, rfl⟩ := e
    rw [up_c, hx]
  · rw [up_nj (by omega), up_nj (by omega)]
    exact h k l hl (by omega)
theorem Tab.old {v : Nat → Nat → Nat} {c t i j : Nat} {τ : Tau} {y : Int32} (h : Tab v c t i j τ) (ht : t ≤ 12) (hj : j ≤ t) : Tab v c t i j (up τ c (13 * i + j) y) := by
  intro k l hl hkl
  rw [up_nj (by omega)]
  exact h k l hl hkl
theorem lay_row {F s t i : Nat} {a b : Nat → Int32} {self : Int32 → Tau → Option (Int32 × Tau)} (hi : i ≤ s) : ∀ (m j f : Nat) (τ : Tau), j + m = t + 1 → m < f → Sty s t a b τ → Tab (lcN a b) 17 t i j τ → Tab (edN a b) 18 t i j τ → ∃ τ', X11_layCloths_L16 F self f (nI i) (nI j) τ = self (nI (i + 1)) τ' ∧ Sty s t a b τ' ∧ Tab (lcN a b) 17 t (i + 1) 0 τ' ∧ Tab (edN a b) 18 t (i + 1) 0 τ' ∧ ∀ c k, c ≠ 17 → c ≠ 18 → τ' c k = τ c k := by
  intro m
  induction m with
  | zero =>
    intro j f τ hj hf hS hT hE
    obtain ⟨g, rfl, -⟩ := fuel hf
    have : j = t + 1 := by omega
    subst this
    obtain ⟨h1, h2, h3, h4, h5, h6⟩ := id hS
    refine ⟨τ, ?_, hS, hT.row, hE.row, fun _ _ _ _ => rfl⟩
    unfold X11_layCloths_L16
    rw [ald_lit (by decide) (by decide), h4, if_pos (nI_lt (by omega) (by omega)), litA']
  | succ m ih =>
    intro j f τ hj hf hS hT hE
    obtain ⟨g, rfl, -⟩ := fuel hf
    obtain ⟨h1, h2, h3, h4, h5, h6⟩ := id hS
    -- the two cells begun
    have hS4 : Sty s t a b (up (up τ 17 (13 * i + j) 0) 18 (13 * i + j) (nI (i + j))) := (hS.keep (by decide)).keep (by decide)
    have hT4 : Tab (lcN a b) 17 t i j (up (up τ 17 (13 * i + j) 0) 18 (13 * i + j) (nI (i + j))) := (hT.old h2 (by omega)).keep (by decide)
    have hE4 : Tab (edN a b) 18 t i j (up (up τ 17 (13 * i + j) 0) 18 (13 * i + j) (nI (i + j))) := (hE.keep (by decide)).old h2 (by omega)
    have f4 : ∀ c k, c ≠ 17 → c ≠ 18 → up (up τ 17 (13 * i + j) 0) 18 (13 * i + j) (nI (i + j)) c k = τ c k := fun c k h17 h18 => by rw [up_nc h18, up_nc h17]
    have kj : nI j + 1 = nI (j + 1) := litA'
    have fin : ∀ τ4, Sty s t a b τ4 → Tab (lcN a b) 17 t i (j + 1) τ4 → Tab (edN a b) 18 t i (j + 1) τ4 → (∀ c k, c ≠ 17 → c ≠ 18 → τ4 c k = τ c k) → ∃ τ', X11_layCloths_L16 F self g (nI i) (nI (j + 1)) τ4 = self (nI (i + 1)) τ' ∧ Sty s t a b τ' ∧ Tab (lcN a b) 17 t (i + 1) 0 τ' ∧ Tab (edN a b) 18 t (i + 1) 0 τ' ∧ ∀ c k, c ≠ 17 → c ≠ 18 → τ' c k = τ c k := by
      intro τ4 q1 q2 q3 q4
      obtain ⟨τ', e1, e2, e3, e4, e5⟩ := ih (j + 1) g τ4 (by omega) (by omega) q1 q2 q3
      exact ⟨τ', e1, e2, e3, e4, fun c k h17 h18 => (e5 c k h17 h18).trans (q4 c k h17 h18)⟩
    conv => enter [1, τ', 1, 1]; unfold X11_layCloths_L16
    unfold X11_layCloths_j188
    rw [ald_lit (by decide) (by decide), h4, if_neg (show ¬ nI t < nI j by rw [nI_ltI (by omega) (by omega)]; omega), litM, nI_add, ast_nI (by omega) (by omega), nI_add, ast_nI (by omega) (by omega), kj]
    by_cases i0 : i = 0
    · rw [if_pos (by rw [i0]; rfl)]
      refine fin _ hS4 ((hT.put h2 (by omega) (by rw [i0]; rfl)).keep (by decide)) ((hE.keep (by decide)).put h2 (by omega) (by rw [i0, ed_z, Nat.zero_add])) f4
    · rw [if_neg (show ¬ nI i = 0 by rw [lit_eq (by decide) (by omega)]; exact i0)]
      by_cases j0 : j = 0
      · rw [if_pos (by rw [j0]; rfl)]
        refine fin _ hS4 ((hT.put h2 (by omega) (by rw [j0, lc_0]; rfl)).keep (by decide)) ((hE.keep (by decide)).put h2 (by omega) (by rw [j0, ed_0, Nat.add_zero])) f4
      · rw [if_neg (show ¬ nI j = 0 by rw [lit_eq (by decide) (by omega)]; exact j0)]
        obtain ⟨i, rfl⟩ : ∃ d, i = d + 1 := ⟨i - 1, by omega⟩
        obtain ⟨j, rfl⟩ : ∃ d, j = d + 1 := ⟨j - 1, by omega⟩
        generalize hτ4 : up (up τ 17 (13 * (i + 1) + (j + 1)) 0) 18 (13 * (i + 1) + (j + 1)) (nI (i + 1 + (j + 1))) = τ4 at hS4 hT4 hE4 f4 ⊢
        obtain ⟨g1, g2, g3, g4, g5, g6⟩ := id hS4
        have c13 : nI (13 * (i + 1) + (j + 1)) - 13 = nI (13 * i + (j + 1)) := by rw [litS (by omega), show 13 * (i + 1) + (j + 1) - 13 = 13 * i + (j + 1) by omega]
        have c1 : nI (13 * (i + 1) + (j + 1)) - 1 = nI (13 * (i + 1) + j) := by rw [litS (by omega), show 13 * (i + 1) + (j + 1) - 1 = 13 * (i + 1) + j by omega]
        have c14 : nI (13 * (i + 1) + (j + 1)) - 14 = nI (13 * i + j) := by rw [litS (by omega), show 13 * (i + 1) + (j + 1) - 14 = 13 * i + j by omega]
        have b1 := ed_le a b i (j + 1)
        have b2 := ed_le a b (i + 1) j
        have b3 := ed_le a b i j
        have d1 := lc_le a b i (j + 1)
        have d2 := lc_le a b (i + 1) j
        have d3 := lc_le a b i j
        have j161 : ∀ (z : Nat) (τ5 : Tau), z ≤ 1 → min (edN a b i j + z) (1 + min (edN a b i (j + 1)) (edN a b (i + 1) j)) = edN a b (i + 1) (j + 1) → Sty s t a b τ5 → Tab (lcN a b) 17 t (i + 1) (j + 1 + 1) τ5 → (Tab (edN a b) 18 t (i + 1) (j + 1) τ5) → (∀ c k, c ≠ 17 → c ≠ 18 → τ5 c k = τ c k) → ∃ τ', X11_layCloths_j161 F self (X11_layCloths_L16 F self g) (nI (i + 1)) (nI (j + 1)) (nI (13 * (i + 1) + (j + 1))) (nI z) (nI (edN a b i j)) (nI (13 * (i + 1) + (j + 1))) τ5 = self (nI (i + 1 + 1)) τ' ∧ Sty s t a b τ' ∧ Tab (lcN a b) 17 t (i + 1 + 1) 0 τ' ∧ Tab (edN a b) 18 t (i + 1 + 1) 0 τ' ∧ ∀ c k, c ≠ 17 → c ≠ 18 → τ' c k = τ c k := by
          intro z τ5 hz1 hz q1 q2 q3 q4
          have := fin (up τ5 18 (13 * (i + 1) + (j + 1)) (nI (edN a b (i + 1) (j + 1)))) (q1.keep (by decide)) (q2.keep (by decide)) (q3.put h2 (by omega) rfl) (fun c k h17 h18 => (up_nc h18).trans (q4 c k h17 h18))
          unfold X11_layCloths_j161 X11_layCloths_j188
          rw [c13, c1, ald_nI (by omega) (by omega), ald_nI (by omega) (by omega), q3 i (j + 1) (by omega) (by omega), q3 (i + 1) j (by omega) (by omega), X11_lesser_eq, cal_some, nI_imin (by omega) (by omega), nI_add, litA, X11_lesser_eq, cal_some, nI_imin (by omega) (by omega), hz, ast_nI (by omega) (by omega), kj]
          exact this
        have j136 : ∀ (z : Int32), (z = 0 ∧ a i ≠ b j) ∨ (z = 1 ∧ a i = b j) → ∃ τ', X11_layCloths_j136 F self (X11_layCloths_L16 F self g) (nI (i + 1)) (nI (j + 1)) (nI (13 * (i + 1) + (j + 1))) z (nI (lcN a b (i + 1) (j + 1))) (nI (13 * (i + 1) + (j + 1))) τ4 = self (nI (i + 1 + 1)) τ' ∧ Sty s t a b τ' ∧ Tab (lcN a b) 17 t (i + 1 + 1) 0 τ' ∧ Tab (edN a b) 18 t (i + 1 + 1) 0 τ' ∧ ∀ c k, c ≠ 17 → c ≠ 18 → τ' c k = τ c k := by
          intro z hz
          have t5 : Tab (edN a b) 18 t (i + 1) (j + 1) (up τ4 17 (13 * (i + 1) + (j + 1)) (nI (lcN a b (i + 1) (j + 1)))) := hE4.keep (by decide)
          have go := fun z' h1 h2 => j161 z' (up τ4 17 (13 * (i + 1) + (j + 1)) (nI (lcN a b (i + 1) (j + 1)))) h1 h2 (hS4.keep (by decide)) (hT4.put (by assumption) (by omega) rfl) t5 (fun c k h17 h18 => (up_nc h17).trans (f4 c k h17 h18))
          unfold X11_layCloths_j136
          rw [ast_nI (by omega) (by omega), c14, ald_nI (by omega) (by omega), t5 i j (by omega) (by omega)]
          rcases hz with ⟨rfl, hz⟩ | ⟨rfl, hz⟩
          · rw [if_pos rfl]
            refine go 1 (by decide) ?_
            rw [ed_S, if_neg hz]
            omega
          · rw [if_neg n10]
            refine go 0 (by decide) ?_
            rw [ed_S, if_pos hz]
            omega
        rw [show (703 : Int32) + nI (i + 1) = nI (704 + i) by rw [litA, show 703 + (i + 1) = 704 + i by omega], show (716 : Int32) + nI (j + 1) = nI (717 + j) by rw [litA, show 716 + (j + 1) = 717 + j by omega], ald_nI (by omega) (by omega), ald_nI (by omega) (by omega), g5 i (by omega), g6 j (by omega)]
        unfold X11_layCloths_j90
        by_cases e : a i = b j
        · rw [if_pos e, if_neg n10, c14, ald_nI (by omega) (by omega), hT4 i j (by omega) (by omega), litA', show lcN a b i j + 1 = lcN a b (i + 1) (j + 1) by rw [lc_S, if_pos e]]
          exact j136 1 (.inr ⟨rfl, e⟩)
        · rw [if_neg e, if_pos rfl, c13, c1, ald_nI (by omega) (by omega), ald_nI (by omega) (by omega), hT4 i (j + 1) (by omega) (by omega), hT4 (i + 1) j (by omega) (by omega), X11_greater_eq, cal_some, nI_imax (by omega) (by omega), show max (lcN a b i (j + 1)) (lcN a b (i + 1) j) = lcN a b (i + 1) (j + 1) by rw [lc_S, if_neg e]]
          exact j136 0 (.inl ⟨rfl, e⟩)
theorem lay_tab {F s t : Nat} {a b : Nat → Int32} (hF : 5000 ≤ F) : ∀ (m i f : Nat) (τ : Tau), i + m = s + 1 → m < f → Sty s t a b τ → Tab (lcN a b) 17 t i 0 τ → Tab (edN a b) 18 t i 0 τ → ∃ τ', X11_layCloths_L2 F f (nI i) τ = some (0, τ') ∧ Sty s t a b τ' ∧ τ' 17 (13 * s + t) = nI (lcN a b s t) ∧ τ' 18 (13 * s + t) = nI (edN a b s t) ∧ ∀ c k, c ≠ 17 → c ≠ 18 → τ' c k = τ c k := by
  intro m
  induction m with
  | zero =>
    intro i f τ hi hf hS hT hE
    obtain ⟨g, rfl, -⟩ := fuel hf
    have : i = s + 1 := by omega
    subst this
    obtain ⟨h1, h2, h3, h4, h5, h6⟩ := id hS
    refine ⟨τ, ?_, hS, hT s t (Nat.le_refl _) (by omega), hE s t (Nat.le_refl _) (by omega), fun _ _ _ _ => rfl⟩
    unfold X11_layCloths_L2
    rw [ald_lit (by decide) (by decide), h3, if_pos (nI_lt (by omega) (by omega))]
  | succ m ih =>
    intro i f τ hi hf hS hT hE
    obtain ⟨g, rfl, -⟩ := fuel hf
    obtain ⟨h1, h2, h3, h4, h5, h6⟩ := id hS
    obtain ⟨τ1, e1, e2, e3, e4, e5⟩ := lay_row (F := F) (self := X11_layCloths_L2 F g) (show i ≤ s by omega) (t + 1) 0 F τ (by omega) (by omega) hS hT hE
    obtain ⟨τ2, f1, f2, f3, f4, f5⟩ := ih (i + 1) g τ1 (by omega) (by omega) e2 e3 e4
    refine ⟨τ2, ?_, f2, f3, f4, fun c k h17 h18 => (f5 c k h17 h18).trans (e5 c k h17 h18)⟩
    conv => lhs; unfold X11_layCloths_L2
    rw [ald_lit (by decide) (by decide), h3, if_neg (show ¬ nI s < nI i by rw [nI_ltI (by omega) (by omega)]; omega)]
    exact e1.trans f1
theorem step38 (F : Nat) (hF : 5000 ≤ F) : Step38 F Rl := by
  intro n tx tm a1 _ h
  obtain ⟨nP, nM, q, hP⟩ := h.pc
  have hd := hP.1.2.2.2.2.2.2.2.2.1
  obtain ⟨s, s1, s2, s3, s4⟩ := row_out (c := 27) (by decide) (by decide) (by decide) (by decide) hd.2.2.2.2.2.2.2.2.2.2.2.1
  obtain ⟨t, t1, t2, t3, t4⟩ := row_out (c := 29) (by decide) (by decide) (by decide) (by decide) hd.2.2.2.2.2.2.2.2.2.2.2.2.1
  have hS : Str s t (tx 29) (tx 31) tx := ⟨s1, t1, s2, t2, fun _ _ => rfl, fun _ _ => rfl⟩
  have hY : Sty s t (tx 29) (tx 31) tm := ⟨s1, t1, s3, t3, fun i hi => (s4 i hi).1.symm, fun j hj => (t4 j hj).1.symm⟩
  obtain ⟨m1, f1, f2, f3, f4, f5⟩ := lay_tab (F := F) hF (s + 1) 0 F tm (by omega) (by omega) hY (fun k l _ hk => by omega) (fun k l _ hk => by omega)
  obtain ⟨x1, e1, e2⟩ := alike_tab (F := F) hF (s + 1) 0 F tx (by omega) (by omega) hS (fun k l _ hk => by omega)
  obtain ⟨x2, g1, g2⟩ := few_tab (F := F) hF (s + 1) 0 F tx (by omega) (by omega) hS (fun k l _ hk => by omega)
  obtain ⟨y1, y2, y3, y4, y5, y6⟩ := f2
  have hend : ∀ x', (∀ c k, c ≠ 220 → x' c k = tx c k) → Rl (n + 1) x' m1 := fun x' hx => Rl.same h (fun c j hc => hx c j (by rcases hc with hc | hc; (unfold wnX at hc; omega); (unfold coX at hc; omega))) (fun c j hc => f5 c j (by rcases hc with hc | hc; omega; (unfold coM at hc; omega)) (by rcases hc with hc | hc; omega; (unfold coM at hc; omega)))
  have hl := lc_le (tx 29) (tx 31) s t
  unfold X10_cloths X11_cloths X4_mostAlike X4_fewestChanges X11_layCloths
  have hL : X11_layCloths_L2 F F 0 tm = some (0, m1) := f1
  rw [show X4_mostAlike_L2 F F 0 tx = _ from e1, show X4_fewestChanges_L2 F F 0 tx = _ from g1, X11_isIn_eq, cal_some]
  by_cases c0 : a1 = 0
  · rw [if_pos c0, cal_some, bI_t (show (0 : Int32) ≤ a1 ∧ a1 ≤ 2 by rw [c0]; decide), if_neg n10, hL, cal_some, ald_lit (by decide) (by decide), ald_lit (by decide) (by decide), y3, y4, litM, nI_add, if_pos c0, ald_nI (by omega) (by omega), f3]
    exact ⟨_, x1, m1, rfl, rfl, hend x1 e2⟩
  rw [if_neg c0]
  by_cases c1 : a1 = 1
  · rw [if_pos c1, cal_some, s2, t2, cal_some, bI_t (show (0 : Int32) ≤ a1 ∧ a1 ≤ 2 by rw [c1]; decide), if_neg n10, hL, cal_some, ald_lit (by decide) (by decide), ald_lit (by decide) (by decide), y3, y4, litM, if_neg c0, if_pos c1, ald_lit (by decide) (by decide), ald_lit (by decide) (by decide), y3, y4, nI_add, nI_add, ald_nI (by omega) (by omega), f3]
    exact ⟨_, x1, m1, rfl, rfl, hend x1 e2⟩
  rw [if_neg c1]
  by_cases c2 : a1 = 2
  · rw [if_pos c2, cal_some, cal_some, bI_t (show (0 : Int32) ≤ a1 ∧ a1 ≤ 2 by rw [c2]; decide), if_neg n10, hL, cal_some, ald_lit (by decide) (by decide), ald_lit (by decide) (by decide), y3, y4, litM, nI_add, if_neg c0, if_neg c1, ald_nI (by omega) (by omega), f4]
    exact ⟨_, x2, m1, rfl, rfl, hend x2 g2⟩
  rw [if_neg c2, cal_some, bI_f, if_pos rfl]
  · exact ⟨-1, tx, tm, rfl, rfl, Rl_mono n tx tm h⟩
  · intro z
    obtain ⟨j, j1, j2, rfl⟩ := in_ex (lo := 0) (hi := 2) z (by decide) (by decide)
    have : j = 0 ∨ j = 1 ∨ j = 2 := by omega
    rcases this with rfl | rfl | rfl
    · exact c0 rfl
    · exact c1 rfl
    · exact c2 rfl
