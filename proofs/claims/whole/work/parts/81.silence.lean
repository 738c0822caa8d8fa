/-! PURE PART. Steps: silence -/
theorem mvT_congr {L L' : Nat → Bool} {i u : Nat} (hu : 1 ≤ u) (h : ∀ j, j < i → L j = L' j) : ∀ m k, 1 ≤ k → (1 ≤ m → u * (k + m - 1) ≤ i) → mvT L i u m k = mvT L' i u m k := by
  intro m
  induction m with
  | zero => intro k _ _; rfl
  | succ m ih =>
    intro k hk hm
    have hle := hm (by omega)
    have h1 : u * k ≤ i := Nat.le_trans (Nat.mul_le_mul_left u (by omega)) hle
    have h2 : 1 ≤ u * k := Nat.mul_le_mul hu hk
    unfold mvT
    rw [h (i - u * k) (by omega), ih (k + 1) (by omega) (fun _ => by rw [show k + 1 + m - 1 = k + (m + 1) - 1 by omega]; exact hle)]
theorem mvS_congr {L L' : Nat → Bool} {i : Nat} (h : ∀ j, j < i → L j = L' j) : mvS L i = mvS L' i := by
  unfold mvS
  rw [mvT_congr (by decide) h (i / 64 % 8) 1 (Nat.le_refl _) (fun _ => by omega), mvT_congr (by decide) h (i / 8 % 8) 1 (Nat.le_refl _) (fun _ => by omega), mvT_congr (by decide) h (i % 8) 1 (Nat.le_refl _) (fun _ => by omega)]
  have : (512 < i ∧ L (i - 512) = true) ↔ (512 < i ∧ L' (i - 512) = true) := by
    by_cases c : 512 < i
    · rw [h (i - 512) (by omega)]
    · exact ⟨fun z => absurd z.1 c, fun z => absurd z.1 c⟩
  cases mvT L' i 64 (i / 64 % 8) 1 with
  | some k => rfl
  | none =>
    cases mvT L' i 8 (i / 8 % 8) 1 with
    | some k => rfl
    | none =>
      cases mvT L' i 1 (i % 8) 1 with
      | some k => rfl
      | none =>
        by_cases c : 512 < i ∧ L (i - 512) = true
        · show (if 512 < i ∧ L (i - 512) = true then (300 : Int32) else -1) = if 512 < i ∧ L' (i - 512) = true then 300 else -1
          rw [if_pos c, if_pos (this.mp c)]
        · show (if 512 < i ∧ L (i - 512) = true then (300 : Int32) else -1) = if 512 < i ∧ L' (i - 512) = true then 300 else -1
          rw [if_neg c, if_neg (fun z => c (this.mpr z))]
def loX (tx : Tau) : Nat → Bool := fun j => decide (tx 221 j = 0)
def loM (tm : Tau) : Nat → Bool := fun j => decide (tm 20 j ≠ 0)
theorem won_in {F j : Nat} {tx : Tau} (hj : j < 1024) : X4_isWon F (nI j) tx = some (if loX tx j = true then 0 else 1, tx) := by
  unfold X4_isWon loX
  rw [if_neg (nI_pos (by omega)), if_neg (by rw [lit_le' (by decide) (by omega)]; omega), ald_nI hj (by omega)]
  by_cases e : tx 221 j = 0
  · rw [if_pos e, if_pos (decide_eq_true e)]
  · rw [if_neg e, if_neg (fun z => e (of_decide_eq_true z))]
theorem heap_X {F i u h H : Nat} {tx : Tau} {a1 a2 a3 a4 : Int32} {self : Int32 → Int32 → Int32 → Int32 → Int32 → Int32 → Tau → Option (Int32 × Tau)} (hi : i < 1024) (hH : u * H ≤ i) (hu : 1 ≤ u) (hu2 : u ≤ 64) (hH8 : H < 8) : ∀ (m k f : Nat), k + m = H + 1 → 1 ≤ k → m < f → X4_firstWinningMove_L84 F self f a1 a2 a3 a4 (nI i) (nI h) (nI H) (nI u) (nI k) tx = (mvT (loX tx) i u m k).elim (self a1 a2 a3 a4 (nI i) (nI h + 1) tx) (fun k' => some (nI (100 * h + k'), tx)) := by
  intro m
  induction m with
  | zero =>
    intro k f hkm hk hf
    obtain ⟨g, rfl, -⟩ := fuel hf
    unfold X4_firstWinningMove_L84
    rw [if_pos (nI_lt (by omega) (by omega))]
    rfl
  | succ m ih =>
    intro k f hkm hk hf
    obtain ⟨g, rfl, -⟩ := fuel hf
    have h1 : u * k ≤ i := Nat.le_trans (Nat.mul_le_mul_left u (by omega)) hH
    conv => lhs; unfold X4_firstWinningMove_L84
    rw [if_neg (show ¬ nI H < nI k by rw [nI_ltI (by omega) (by omega)]; omega), nI_mul, nI_sub h1, won_in (by omega), cal_some, litM, nI_add, litA', ih (k + 1) g (by omega) (by omega) (by omega)]
    conv => rhs; unfold mvT
    by_cases e : loX tx (i - u * k) = true
    · rw [if_pos e, if_pos e, if_pos rfl]; rfl
    · rw [if_neg e, if_neg e, if_neg n10]
theorem heap_M {F i h H p : Nat} {tm : Tau} {self : Int32 → Int32 → Tau → Option (Int32 × Tau)} (hi : i < 1024) (hh : h < 3) (hp : p = 6 - 3 * h) (hHe : i / 2 ^ p % 8 = H) : ∀ (m k f : Nat), k + m = H + 1 → 1 ≤ k → m < f → X11_begins_L9 F self f (nI i) (nI h) (nI k) tm = (mvT (loM tm) i (2 ^ p) m k).elim (self (nI i) (nI h + 1) tm) (fun k' => some (nI (100 * h + k'), tm)) := by
  have hp2 : h = 0 ∧ p = 6 ∨ h = 1 ∧ p = 3 ∨ h = 2 ∧ p = 0 := by omega
  have hH8 : H < 8 := by rw [← hHe]; exact Nat.mod_lt _ (by decide)
  have hle : 2 ^ p * H ≤ i := by
    rw [← hHe]
    rcases hp2 with ⟨-, rfl⟩ | ⟨-, rfl⟩ | ⟨-, rfl⟩ <;> omega
  have hpp : 2 ^ p ≤ 64 := by
    rcases hp2 with ⟨-, rfl⟩ | ⟨-, rfl⟩ | ⟨-, rfl⟩ <;> decide
  have hH : X11_onHeap F (nI i) (nI h) tm = some (nI H, tm) := by
    unfold X11_onHeap
    rw [litM, litS' (show 3 * h ≤ 6 by omega), show 6 - 3 * h = p from hp.symm, nI_shr (by omega) (by omega)]
    rw [show (7 : Int32) = nI 7 from rfl, pk_andN (by have := Nat.div_le_self i (2 ^ p); omega) 3 (by decide)]
    exact congrArg (fun z => some (nI z, tm)) hHe
  intro m
  induction m with
  | zero =>
    intro k f hkm hk hf
    obtain ⟨g, rfl, -⟩ := fuel hf
    unfold X11_begins_L9
    rw [hH, cal_some, if_pos (nI_lt (by omega) (by omega))]
    rfl
  | succ m ih =>
    intro k f hkm hk hf
    obtain ⟨g, rfl, -⟩ := fuel hf
    have h1 : 2 ^ p * k ≤ i := Nat.le_trans (Nat.mul_le_mul_left _ (by omega)) hle
    have h2 : k * 2 ^ p = 2 ^ p * k := Nat.mul_comm _ _
    conv => lhs; unfold X11_begins_L9
    rw [hH, cal_some, if_neg (show ¬ nI H < nI k by rw [nI_ltI (by omega) (by omega)]; omega)]
    have hs : shl (nI k) (6 - 3 * nI h) = nI (2 ^ p * k) := by
      rw [litM, litS' (show 3 * h ≤ 6 by omega), show 6 - 3 * h = p from hp.symm, nI_shl (by omega) (by omega), h2]
    rw [hs, nI_sub h1, ald_nI (by omega) (by omega), litM, nI_add, litA', ih (k + 1) g (by omega) (by omega) (by omega)]
    conv => rhs; unfold mvT
    by_cases e : tm 20 (i - 2 ^ p * k) = 0
    · rw [if_pos e, if_neg (show ¬ loM tm (i - 2 ^ p * k) = true from fun z => of_decide_eq_true z e)]
    · rw [if_neg e, if_pos (show loM tm (i - 2 ^ p * k) = true from decide_eq_true e)]; rfl
theorem fwm_X {F a b c s i : Nat} {a4 : Int32} {tx : Tau} (hF : 5000 ≤ F) (ha : a < 8) (hb : b < 8) (hc : c < 8) (hs : (a4 = 0 ∧ s = 0) ∨ (a4 ≠ 0 ∧ s = 1)) (hi : i = 512 * s + 64 * a + 8 * b + c) : X4_firstWinningMove F (nI a) (nI b) (nI c) a4 tx = some (mvS (loX tx) i, tx) := by
  have h1 : X4_firstWinningMove F (nI a) (nI b) (nI c) a4 tx = X4_firstWinningMove_L29 F F (nI a) (nI b) (nI c) a4 (nI i) 0 tx := by
    unfold X4_firstWinningMove X4_firstWinningMove_j23
    rw [litM, litM, nI_add, nI_add]
    rcases hs with ⟨e, e2⟩ | ⟨e, e2⟩
    · rw [if_pos e, show nI (64 * a + 8 * b + c) + (0 : Int32) = nI (64 * a + 8 * b + c + 0) from litA', show 64 * a + 8 * b + c + 0 = i by omega]
    · rw [if_neg e, litA', show 64 * a + 8 * b + c + 512 = i by omega]
  obtain ⟨g0, hg0, hg0'⟩ := fuel (show 4000 < F by omega)
  obtain ⟨g1, rfl, hg1'⟩ := fuel (show 3000 < g0 by omega)
  obtain ⟨g2, rfl, hg2'⟩ := fuel (show 2000 < g1 by omega)
  obtain ⟨g3, rfl, hg3'⟩ := fuel (show 1000 < g2 by omega)
  have hmod : s ≤ 1 := by omega
  have e64 : i / 64 % 8 = a := by omega
  have e8 : i / 8 % 8 = b := by omega
  have e1 : i % 8 = c := by omega
  have d0 : X4_firstWinningMove_L29 F F (nI a) (nI b) (nI c) a4 (nI i) 0 tx = (mvT (loX tx) i 64 a 1).elim (X4_firstWinningMove_L29 F (g3 + 1 + 1 + 1) (nI a) (nI b) (nI c) a4 (nI i) (nI 1) tx) (fun k' => some (nI (100 * 0 + k'), tx)) := by
    conv => lhs; arg 2; rw [hg0]
    conv => lhs; unfold X4_firstWinningMove_L29
    unfold X4_firstWinningMove_j55 X4_firstWinningMove_j79
    rw [if_neg (by decide), if_pos rfl, if_pos rfl]
    exact heap_X (h := 0) (H := a) (u := 64) (by omega) (by omega) (by decide) (by decide) ha a 1 F (by omega) (by decide) (by omega)
  have d1 : X4_firstWinningMove_L29 F (g3 + 1 + 1 + 1) (nI a) (nI b) (nI c) a4 (nI i) (nI 1) tx = (mvT (loX tx) i 8 b 1).elim (X4_firstWinningMove_L29 F (g3 + 1 + 1) (nI a) (nI b) (nI c) a4 (nI i) (nI 2) tx) (fun k' => some (nI (100 * 1 + k'), tx)) := by
    conv => lhs; unfold X4_firstWinningMove_L29
    unfold X4_firstWinningMove_j55 X4_firstWinningMove_j79
    rw [if_neg (by decide), if_neg (by decide), if_pos (by decide), if_neg (by decide), if_pos (by decide)]
    exact heap_X (h := 1) (H := b) (u := 8) (by omega) (by omega) (by decide) (by decide) hb b 1 F (by omega) (by decide) (by omega)
  have d2 : X4_firstWinningMove_L29 F (g3 + 1 + 1) (nI a) (nI b) (nI c) a4 (nI i) (nI 2) tx = (mvT (loX tx) i 1 c 1).elim (X4_firstWinningMove_L29 F (g3 + 1) (nI a) (nI b) (nI c) a4 (nI i) (nI 3) tx) (fun k' => some (nI (100 * 2 + k'), tx)) := by
    conv => lhs; unfold X4_firstWinningMove_L29
    unfold X4_firstWinningMove_j55 X4_firstWinningMove_j79
    rw [if_neg (by decide), if_neg (by decide), if_neg (by decide), if_neg (by decide), if_neg (by decide)]
    exact heap_X (h := 2) (H := c) (u := 1) (by omega) (by omega) (by decide) (by decide) hc c 1 F (by omega) (by decide) (by omega)
  have d3 : X4_firstWinningMove_L29 F (g3 + 1) (nI a) (nI b) (nI c) a4 (nI i) (nI 3) tx = some (if 512 < i ∧ loX tx (i - 512) = true then 300 else -1, tx) := by
    conv => lhs; unfold X4_firstWinningMove_L29
    unfold X4_firstWinningMove_j144 X4_firstWinningMove_j145
    rw [if_pos (by decide), if_pos rfl, nI_add, nI_add]
    rcases hs with ⟨e, e2⟩ | ⟨e, e2⟩
    · rw [if_pos e, if_neg]
      rintro ⟨z, -⟩
      omega
    · rw [if_neg e]
      by_cases z : a + b + c = 0
      · rw [if_pos (by rw [z]; decide), if_neg]
        rintro ⟨y, -⟩
        omega
      · rw [if_neg (show ¬ nI (a + b + c) ≤ 0 by rw [show (0 : Int32) = nI 0 from rfl, nI_leI (by omega) (by omega)]; omega), if_neg n10, litS (show 512 ≤ i by omega), won_in (by omega), cal_some]
        by_cases y : loX tx (i - 512) = true
        · rw [if_pos y, if_pos rfl, if_pos ⟨by omega, y⟩]
        · rw [if_neg y, if_neg n10, if_neg (fun q => y q.2)]
  rw [h1, d0]
  unfold mvS
  rw [e64, e8, e1]
  cases mvT (loX tx) i 64 a 1 with
  | some k => show some (nI (100 * 0 + k), tx) = _; rw [Nat.mul_zero, Nat.zero_add]
  | none =>
    show X4_firstWinningMove_L29 F (g3 + 1 + 1 + 1) (nI a) (nI b) (nI c) a4 (nI i) (nI 1) tx = _
    rw [d1]
    cases mvT (loX tx) i 8 b 1 with
    | some k => rfl
    | none =>
      show X4_firstWinningMove_L29 F (g3 + 1 + 1) (nI a) (nI b) (nI c) a4 (nI i) (nI 2) tx = _
      rw [d2]
      cases mvT (loX tx) i 1 c 1 with
      | some k => rfl
      | none => exact d3
theorem begins_M {F i : Nat} {tm : Tau} (hF : 5000 ≤ F) (hi : i < 1024) : X11_begins F (nI i) tm = some (mvS (loM tm) i, tm) := by
  obtain ⟨g0, hg0, hg0'⟩ := fuel (show 4000 < F by omega)
  obtain ⟨g1, rfl, hg1'⟩ := fuel (show 3000 < g0 by omega)
  obtain ⟨g2, rfl, hg2'⟩ := fuel (show 2000 < g1 by omega)
  obtain ⟨g3, rfl, hg3'⟩ := fuel (show 1000 < g2 by omega)
  have d0 : X11_begins_L2 F F (nI i) 0 tm = (mvT (loM tm) i 64 (i / 64 % 8) 1).elim (X11_begins_L2 F (g3 + 1 + 1 + 1) (nI i) (nI 1) tm) (fun k' => some (nI (100 * 0 + k'), tm)) := by
    conv => lhs; arg 2; rw [hg0]
    conv => lhs; unfold X11_begins_L2
    rw [if_neg (by decide)]
    exact heap_M (h := 0) (H := i / 64 % 8) (p := 6) hi (by decide) rfl rfl (i / 64 % 8) 1 F (by omega) (by decide) (by omega)
  have d1 : X11_begins_L2 F (g3 + 1 + 1 + 1) (nI i) (nI 1) tm = (mvT (loM tm) i 8 (i / 8 % 8) 1).elim (X11_begins_L2 F (g3 + 1 + 1) (nI i) (nI 2) tm) (fun k' => some (nI (100 * 1 + k'), tm)) := by
    conv => lhs; unfold X11_begins_L2
    rw [if_neg (by decide)]
    exact heap_M (h := 1) (H := i / 8 % 8) (p := 3) hi (by decide) rfl rfl (i / 8 % 8) 1 F (by omega) (by decide) (by omega)
  have d2 : X11_begins_L2 F (g3 + 1 + 1) (nI i) (nI 2) tm = (mvT (loM tm) i 1 (i % 8) 1).elim (X11_begins_L2 F (g3 + 1) (nI i) (nI 3) tm) (fun k' => some (nI (100 * 2 + k'), tm)) := by
    conv => lhs; unfold X11_begins_L2
    rw [if_neg (by decide)]
    exact heap_M (h := 2) (H := i % 8) (p := 0) hi (by decide) rfl (by rw [Nat.pow_zero, Nat.div_one]) (i % 8) 1 F (by omega) (by decide) (by omega)
  have d3 : X11_begins_L2 F (g3 + 1) (nI i) (nI 3) tm = some (if 512 < i ∧ loM tm (i - 512) = true then 300 else -1, tm) := by
    conv => lhs; unfold X11_begins_L2
    rw [if_pos (by decide)]
    by_cases z : i ≤ 512
    · rw [if_pos (show nI i ≤ (512 : Int32) from (lit_le (by decide) (by omega)).mpr z), if_neg (fun q => by omega)]
    · rw [if_neg (show ¬ nI i ≤ (512 : Int32) from fun q => z ((lit_le (by decide) (by omega)).mp q)), litS (show 512 ≤ i by omega), ald_nI (by omega) (by omega)]
      by_cases y : tm 20 (i - 512) = 0
      · rw [if_pos y, if_neg (fun (q : 512 < i ∧ loM tm (i - 512) = true) => (of_decide_eq_true q.2 : tm 20 (i - 512) ≠ 0) y)]
      · rw [if_neg y, if_pos ⟨by omega, decide_eq_true y⟩]
  unfold X11_begins mvS
  rw [d0]
  cases mvT (loM tm) i 64 (i / 64 % 8) 1 with
  | some k => show some (nI (100 * 0 + k), tm) = _; rw [Nat.mul_zero, Nat.zero_add]
  | none =>
    show X11_begins_L2 F (g3 + 1 + 1 + 1) (nI i) (nI 1) tm = _
    rw [d1]
    cases mvT (loM tm) i 8 (i / 8 % 8) 1 with
    | some k => rfl
    | none =>
      show X11_begins_L2 F (g3 + 1 + 1) (nI i) (nI 2) tm = _
      rw [d2]
      cases mvT (loM tm) i 1 (i % 8) 1 with
      | some k => rfl
      | none => exact d3
theorem learn_X {F : Nat} (hF : 5000 ≤ F) : ∀ (m i f : Nat) (tx : Tau), i + m = 1024 → m < f → (∀ j, j < i → tx 221 j = if mvS (loX tx) j = -1 then 0 else 1) → ∃ tx', X4_learnSilence_L15 F f (nI i) tx = some (0, tx') ∧ SilOK (tx' 221) ∧ ∀ c j, c ≠ 221 → tx' c j = tx c j := by
  intro m
  induction m with
  | zero =>
    intro i f tx him hf hI
    obtain ⟨g, rfl, -⟩ := fuel hf
    have : i = 1024 := by omega
    subst this
    refine ⟨tx, ?_, hI, fun _ _ _ => rfl⟩
    unfold X4_learnSilence_L15
    rw [if_pos (by decide)]
  | succ m ih =>
    intro i f tx him hf hI
    obtain ⟨g, rfl, -⟩ := fuel hf
    have an : ∀ x : Nat, x < 2 ^ 31 → nI x &&& 7 = nI (x % 8) := fun x hx => pk_andN (by omega) 3 (by decide)
    have s3 : shr (nI i) 3 = nI (i / 8) := nI_shr (k := 3) (by omega) (by decide)
    have s6 : shr (nI i) 6 = nI (i / 64) := nI_shr (k := 6) (by omega) (by decide)
    have hX : X4_learnSilence_L15 F (g + 1) (nI i) tx = X4_learnSilence_L15 F g (nI (i + 1)) (up tx 221 i (if mvS (loX tx) i = -1 then 0 else 1)) := by
      have hj : ∀ z0 : Int32, (z0 = 0 ∧ i < 512) ∨ (z0 ≠ 0 ∧ 512 ≤ i) → X4_learnSilence_j54 F (X4_learnSilence_L15 F g) (nI i) z0 (nI i &&& 7) ((shr (nI i) 3) &&& 7) ((shr (nI i) 6) &&& 7) tx = X4_learnSilence_L15 F g (nI (i + 1)) (up tx 221 i (if mvS (loX tx) i = -1 then 0 else 1)) := by
        intro z0 hz
        unfold X4_learnSilence_j54 X4_learnSilence_j73
        rw [s3, s6, an _ (by omega), an _ (by omega), an _ (by omega), fwm_X (s := i / 512) (i := i) hF (by omega) (by omega) (by omega) (by
          rcases hz with ⟨a, b⟩ | ⟨a, b⟩
          · exact .inl ⟨a, by omega⟩
          · exact .inr ⟨a, by omega⟩) (by omega), cal_some, litA', nar0, nar1, ast_nI (by omega) (by omega), ast_nI (by omega) (by omega)]
        split <;> rfl
      conv => lhs; unfold X4_learnSilence_L15
      rw [if_neg (by rw [lit_le' (by decide) (by omega)]; omega)]
      by_cases c : i < 512
      · rw [if_pos ((lit_lt (by decide) (by omega)).mpr c), hj 0 (.inl ⟨rfl, c⟩)]
      · rw [if_neg (fun z => c ((lit_lt (by decide) (by omega)).mp z)), hj 1 (.inr ⟨by decide, by omega⟩)]
    have hc : ∀ j, j ≤ i → mvS (loX (up tx 221 i (if mvS (loX tx) i = -1 then 0 else 1))) j = mvS (loX tx) j := fun j hj => mvS_congr (fun k hk => by
      unfold loX
      rw [up_nj (by omega)])
    obtain ⟨tx', e1, e2, e3⟩ := ih (i + 1) g _ (by omega) (by omega) (show ∀ j, j < i + 1 → up tx 221 i (if mvS (loX tx) i = -1 then 0 else 1) 221 j = _ from fun j hj => by
      rw [hc j (by omega)]
      by_cases e : j = i
      · subst e
        rw [up_c]
      · rw [up_nj e]
        exact hI j (by omega))
    exact ⟨tx', hX.trans e1, e2, fun c j hcj => (e3 c j hcj).trans (up_nc hcj)⟩
theorem learn_M {F z : Nat} (hF : 5000 ≤ F) (hz : z < 1024) : ∀ (m i f : Nat) (tm : Tau), i + m = z + 1 → m < f → (∀ j, j < i → tm 20 j = if mvS (loM tm) j = -1 then 1 else 0) → ∃ tm', X11_silence_L53 F f (nI z) (nI i) tm = some (mvS (loM tm') z, tm') ∧ (∀ j, j ≤ z → tm' 20 j = if mvS (loM tm') j = -1 then 1 else 0) ∧ ∀ c j, c ≠ 20 → tm' c j = tm c j := by
  intro m
  induction m with
  | zero =>
    intro i f tm him hf hI
    obtain ⟨g, rfl, -⟩ := fuel hf
    refine ⟨tm, ?_, fun j hj => hI j (by omega), fun _ _ _ => rfl⟩
    unfold X11_silence_L53
    rw [if_pos (nI_lt (by omega) (by omega)), begins_M hF hz, cal_some]
  | succ m ih =>
    intro i f tm him hf hI
    obtain ⟨g, rfl, -⟩ := fuel hf
    have hM : X11_silence_L53 F (g + 1) (nI z) (nI i) tm = X11_silence_L53 F g (nI z) (nI (i + 1)) (up tm 20 i (if mvS (loM tm) i = -1 then 1 else 0)) := by
      conv => lhs; unfold X11_silence_L53
      unfold X11_silence_j81
      rw [if_neg (show ¬ nI z < nI i by rw [nI_ltI (by omega) (by omega)]; omega), begins_M hF (by omega), cal_some, litA', nar0, nar1, ast_nI (by omega) (by omega), ast_nI (by omega) (by omega)]
      split <;> rfl
    have hc : ∀ j, j ≤ i → mvS (loM (up tm 20 i (if mvS (loM tm) i = -1 then 1 else 0))) j = mvS (loM tm) j := fun j hj => mvS_congr (fun k hk => by
      unfold loM
      rw [up_nj (by omega)])
    obtain ⟨tm', e1, e2, e3⟩ := ih (i + 1) g _ (by omega) (by omega) (show ∀ j, j < i + 1 → up tm 20 i (if mvS (loM tm) i = -1 then 1 else 0) 20 j = _ from fun j hj => by
      rw [hc j (by omega)]
      by_cases e : j = i
      · subst e
        rw [up_c]
      · rw [up_nj e]
        exact hI j (by omega))
    exact ⟨tm', hM.trans e1, e2, fun c j hcj => (e3 c j hcj).trans (up_nc hcj)⟩
theorem sil_agree {z : Nat} {tx tm : Tau} (hz : z < 1024) (hX : SilOK (tx 221)) (hM : ∀ j, j ≤ z → tm 20 j = if mvS (loM tm) j = -1 then 1 else 0) : ∀ j, j ≤ z → mvS (loX tx) j = mvS (loM tm) j := by
  intro j
  induction j using Nat.strongRecOn with
  | ind j ih =>
    intro hj
    apply mvS_congr
    intro k hk
    have hkk := ih k hk (by omega)
    have a : tx 221 k = if mvS (loX tx) k = -1 then 0 else 1 := hX k (by omega)
    have b := hM k (by omega)
    unfold loX loM at hkk ⊢
    unfold loX at a
    unfold loM at b
    rw [hkk] at a
    by_cases e : mvS (fun j => decide (tm 20 j ≠ 0)) k = -1
    · rw [if_pos e] at a b
      rw [a, b]
      decide
    · rw [if_neg e] at a b
      rw [a, b]
      decide
theorem sil_X {F : Nat} {tx : Tau} (hF : 5000 ≤ F) (h : Rsi tx) : ∃ tx', X4_learnSilence F tx = some (0, tx') ∧ SilOK (tx' 221) ∧ tx' 213 10 = 1 ∧ ∀ c j, c ≠ 221 → (c ≠ 213 ∨ j ≠ 10) → tx' c j = tx c j := by
  unfold X4_learnSilence
  rcases h with e | ⟨e, e2⟩
  · rw [if_pos e, pst_eq]
    obtain ⟨tx', e1, e2, e3⟩ := learn_X hF 1024 0 F (up tx 213 10 1) (by decide) (by omega) (fun j hj => absurd hj (Nat.not_lt_zero j))
    refine ⟨tx', e1, e2, (e3 _ _ (by decide)).trans up_c, fun c j hc hd => ?_⟩
    rw [e3 c j hc, up_if, if_neg]
    rintro ⟨y, z⟩
    omega
  · rw [if_neg (by rw [e]; decide)]
    exact ⟨tx, rfl, e2, e, fun _ _ _ _ => rfl⟩
theorem step41 (F : Nat) (hF : 5000 ≤ F) : Step41 F Rl := by
  intro n tx tm a1 a2 a3 a4 _ h
  have no : ∀ (x m : Option (Int32 × Tau)), x = some (-1, tx) → m = some (-1, tm) → ∃ r tx' tm', x = some (r, tx') ∧ m = some (r, tm') ∧ Rl (n + 1) tx' tm' := fun x m e1 e2 => ⟨-1, tx, tm, e1, e2, Rl_mono n tx tm h⟩
  obtain ⟨nP, nM, q, hW, hH, hI, hT, hfa, hsi⟩ := id h
  generalize bz a4 = a4
  unfold X10_silence X11_silence X10_silence_j34 X10_silence_j35
  rw [X10_within_eq, cal_some, X11_isIn_eq, cal_some]
  by_cases p1 : (0 : Int32) ≤ a1 ∧ a1 ≤ 7
  · obtain ⟨a, -, a7, rfl⟩ := in_ex (lo := 0) (hi := 7) p1 (by decide) (by decide)
    rw [bI_t p1, if_neg n10, if_neg n10, X10_within_eq, cal_some, X11_isIn_eq, cal_some]
    by_cases p2 : (0 : Int32) ≤ a2 ∧ a2 ≤ 7
    · obtain ⟨b, -, b7, rfl⟩ := in_ex (lo := 0) (hi := 7) p2 (by decide) (by decide)
      rw [bI_t p2, if_neg n10, if_neg n10, X10_within_eq, cal_some, X11_isIn_eq, cal_some]
      by_cases p3 : (0 : Int32) ≤ a3 ∧ a3 ≤ 7
      · obtain ⟨c, -, c7, rfl⟩ := in_ex (lo := 0) (hi := 7) p3 (by decide) (by decide)
        rw [bI_t p3, if_neg n10, if_neg n10, if_neg n10]
        obtain ⟨tx', x1, x2, x3, x4⟩ := sil_X (F := F) hF hsi
        obtain ⟨s, hs⟩ : ∃ s, (a4 = 0 ∧ s = 0) ∨ (a4 ≠ 0 ∧ s = 1) := by
          by_cases e : a4 = 0
          · exact ⟨0, .inl ⟨e, rfl⟩⟩
          · exact ⟨1, .inr ⟨e, rfl⟩⟩
        have hs1 : s ≤ 1 := by omega
        have hiz : 512 * s + 64 * a + 8 * b + c < 1024 := by omega
        obtain ⟨tm', m1, m2, m3⟩ := learn_M (F := F) (z := 512 * s + 64 * a + 8 * b + c) hF hiz (512 * s + 64 * a + 8 * b + c + 1) 0 F tm (by omega) (by omega) (fun j hj => absurd hj (Nat.not_lt_zero j))
        have hM : (if a4 = 0 then X11_silence_j45 F 0 (nI c) (nI b) (nI a) tm else X11_silence_j45 F 1 (nI c) (nI b) (nI a) tm) = some (mvS (loM tm') (512 * s + 64 * a + 8 * b + c), tm') := by
          unfold X11_silence_j45 X11_lies
          rcases hs with ⟨e, e2⟩ | ⟨e, e2⟩
          · rw [if_pos e, cal_some, show (512 : Int32) * 0 = nI (512 * s) by rw [e2]; decide, litM, litM, nI_add, nI_add, nI_add]
            exact m1
          · rw [if_neg e, cal_some, show (512 : Int32) * 1 = nI (512 * s) by rw [e2]; decide, litM, litM, nI_add, nI_add, nI_add]
            exact m1
        unfold X4_beginning
        rw [x1, cal_some, fwm_X (s := s) hF (by omega) (by omega) (by omega) hs rfl, cal_some, cal_some, hM, sil_agree hiz x2 m2 _ (Nat.le_refl _)]
        refine ⟨_, tx', tm', rfl, rfl, Rl_mono n _ _ ⟨nP, nM, q, hW.congr (fun c j hc => x4 c j (by omega) (by omega)) (fun k _ => m3 _ _ (by decide)), hH.congr (fun c j hc => x4 c j (by omega) (by omega)) (m3 _ _ (by decide)) (fun k => m3 _ _ (by decide)), hI.congr (fun c j hc => x4 c j (by omega) (by omega)) (m3 _ _ (by decide)) (fun k _ => m3 _ _ (by decide)), hT.congr (fun c j hc => x4 c j (by omega) (by omega)) (m3 _ _ (by decide)) (fun k => m3 _ _ (by decide)), ?_, .inr ⟨x3, x2⟩⟩⟩
        unfold Rfa at hfa ⊢
        rw [x4 _ _ (by decide) (by omega), x4 _ _ (by decide) (by omega), m3 _ _ (by decide), m3 _ _ (by decide), m3 _ _ (by decide)]
        exact hfa
      · rw [bI_f p3, if_pos rfl, if_pos rfl, if_pos rfl]
        exact no _ _ rfl rfl
    · rw [bI_f p2, if_pos rfl, if_pos rfl, if_pos rfl]
      exact no _ _ rfl rfl
  · rw [bI_f p1, if_pos rfl, if_pos rfl, if_pos rfl]
    exact no _ _ rfl rfl
