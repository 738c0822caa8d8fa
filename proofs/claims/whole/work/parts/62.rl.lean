/-! PURE PART. Copying; the relation behind n calls -/
def cpK (t0 t1 : Nat) (lm : Nat → Nat) (k : Nat) (τ : Tau) : Tau := fun c j => if t0 ≤ c ∧ c < t0 + k ∧ j < lm (c - t0) then τ (t1 + (c - t0)) j else τ c j
theorem cpK_0 {t0 t1 : Nat} {lm : Nat → Nat} {τ : Tau} : cpK t0 t1 lm 0 τ = τ := by
  funext c j
  unfold cpK
  rw [if_neg (by omega)]
theorem cpK_src {t0 t1 k o j : Nat} {lm : Nat → Nat} {τ : Tau} (h : t1 + o < t0 ∨ t0 + k ≤ t1 + o) : cpK t0 t1 lm k τ (t1 + o) j = τ (t1 + o) j := by
  unfold cpK
  rw [if_neg (by omega)]
theorem cpK_arr {t0 t1 k n : Nat} {lm : Nat → Nat} {τ : Tau} (hl : lm k = n) (h : t1 + k < t0 ∨ t0 + k < t1 + k) : cpy (cpK t0 t1 lm k τ) (t1 + k) (t0 + k) n = cpK t0 t1 lm (k + 1) τ := by
  funext c j
  unfold cpy
  by_cases e : c = t0 + k
  · subst e
    by_cases hj : j < n
    · rw [if_pos ⟨rfl, hj⟩, cpK_src (by omega)]
      unfold cpK
      rw [if_pos ⟨by omega, by omega, by rw [Nat.add_sub_cancel_left, hl]; exact hj⟩, Nat.add_sub_cancel_left]
    · rw [if_neg (fun z => hj z.2)]
      unfold cpK
      rw [if_neg (by omega), if_neg]
      rintro ⟨-, -, z⟩
      rw [Nat.add_sub_cancel_left, hl] at z
      exact hj z
  · rw [if_neg (fun z => e z.1)]
    unfold cpK
    by_cases hc : t0 ≤ c ∧ c < t0 + k ∧ j < lm (c - t0)
    · rw [if_pos hc, if_pos ⟨hc.1, by omega, hc.2.2⟩]
    · rw [if_neg hc, if_neg (fun z => hc ⟨z.1, by omega, z.2.2⟩)]
theorem cpK_skip {t0 t1 k : Nat} {lm : Nat → Nat} {τ : Tau} (hl : lm k = 0) : cpK t0 t1 lm k τ = cpK t0 t1 lm (k + 1) τ := by
  funext c j
  unfold cpK
  by_cases e : c = t0 + k
  · subst e
    rw [if_neg (by omega), if_neg]
    rintro ⟨-, -, z⟩
    rw [Nat.add_sub_cancel_left, hl] at z
    omega
  · by_cases hc : t0 ≤ c ∧ c < t0 + k ∧ j < lm (c - t0)
    · rw [if_pos hc, if_pos ⟨hc.1, by omega, hc.2.2⟩]
    · rw [if_neg hc, if_neg (fun z => hc ⟨z.1, by omega, z.2.2⟩)]
/-- the first n fields of an object, one after another -/
def upN (τ : Tau) (a b : Nat) : Nat → Tau
  | 0 => τ
  | n + 1 => up (upN τ a b n) a n (upN τ a b n b n)
theorem upN_cpy {a b : Nat} (h : b ≠ a) (n : Nat) {τ : Tau} : upN τ a b n = cpy τ b a n := by
  induction n with
  | zero =>
    funext c j
    unfold upN cpy
    rw [if_neg (by omega)]
  | succ n ih =>
    unfold upN
    rw [ih]
    funext c j
    have hb : cpy τ b a n b n = τ b n := by
      unfold cpy
      rw [if_neg (fun z => h z.1)]
    rw [hb]
    show (if c = a ∧ j = n then τ b n else if c = a ∧ j < n then τ b j else τ c j) = if c = a ∧ j < n + 1 then τ b j else τ c j
    by_cases e : c = a ∧ j = n
    · rw [if_pos e, if_pos ⟨e.1, by omega⟩, e.2]
    · rw [if_neg e]
      by_cases e2 : c = a ∧ j < n
      · rw [if_pos e2, if_pos ⟨e2.1, by omega⟩]
      · rw [if_neg e2, if_neg]
        rintro ⟨z1, z2⟩
        rcases Nat.lt_or_ge j n with z | z
        · exact e2 ⟨z1, z⟩
        · exact e ⟨z1, by omega⟩
theorem X10_copy_eq {F a b n : Nat} {τ : Tau} (ha : lnX a = n) (hb : lnX b = n) (hn : n < 1000000) : X10_copy F a b τ = some (0, cpy τ a b n) := by
  unfold X10_copy
  rw [ha, hb, litN, nI_imin (by omega) (by omega), Nat.min_self, cpg_nI (Nat.le_refl _) (Nat.le_refl _) hn]
def lmT (o : Nat) : Nat := ([7, 10, 10, 10, 10, 14, 14, 14, 14, 14, 14, 14, 112] : List Nat).getD o 0
def isTown (t : Nat) : Prop := ∀ o, 1 ≤ o → o < 13 → lnX (t + o) = lmT o
theorem X8_copyFrom_eq {F t0 t1 : Nat} {τ : Tau} (h0 : isTown t0) (h1 : isTown t1) (hd : t1 + 12 < t0 ∨ t0 + 12 < t1) : X8_copyFrom F t0 t1 τ = some (0, cpK t0 t1 lmT 13 τ) := by
  have st : ∀ k, 1 ≤ k → k < 13 → X10_copy F (t1 + k) (t0 + k) (cpK t0 t1 lmT k τ) = some (0, cpK t0 t1 lmT (k + 1) τ) := by
    intro k k1 k2
    have hl : lmT k < 1000000 := by
      have : ∀ k, k < 13 → lmT k < 1000000 := by decide
      exact this k k2
    rw [X10_copy_eq (h1 k k1 k2) (h0 k k1 k2) hl, cpK_arr rfl (by omega)]
  have e7 : upN τ t0 t1 7 = cpK t0 t1 lmT 1 τ := by
    rw [upN_cpy (by omega)]
    have := cpK_arr (t0 := t0) (t1 := t1) (k := 0) (n := 7) (lm := lmT) (τ := τ) rfl (by omega)
    rw [cpK_0] at this
    exact this
  have hX : X8_copyFrom F t0 t1 τ = (cal (X10_copy F (t1 + 1) (t0 + 1) (upN τ t0 t1 7)) fun _ τ9 => cal (X10_copy F (t1 + 2) (t0 + 2) τ9) fun _ τ11 => cal (X10_copy F (t1 + 3) (t0 + 3) τ11) fun _ τ13 => cal (X10_copy F (t1 + 4) (t0 + 4) τ13) fun _ τ15 => cal (X10_copy F (t1 + 5) (t0 + 5) τ15) fun _ τ17 => cal (X10_copy F (t1 + 6) (t0 + 6) τ17) fun _ τ19 => cal (X10_copy F (t1 + 7) (t0 + 7) τ19) fun _ τ21 => cal (X10_copy F (t1 + 8) (t0 + 8) τ21) fun _ τ23 => cal (X10_copy F (t1 + 9) (t0 + 9) τ23) fun _ τ25 => cal (X10_copy F (t1 + 10) (t0 + 10) τ25) fun _ τ27 => cal (X10_copy F (t1 + 11) (t0 + 11) τ27) fun _ τ29 => cal (X10_copy F (t1 + 12) (t0 + 12) τ29) fun _ τ31 => some (0, τ31)) := rfl
  rw [hX, e7, st 1 (by decide) (by decide), cal_some, st 2 (by decide) (by decide), cal_some, st 3 (by decide) (by decide), cal_some, st 4 (by decide) (by decide), cal_some, st 5 (by decide) (by decide), cal_some, st 6 (by decide) (by decide), cal_some, st 7 (by decide) (by decide), cal_some, st 8 (by decide) (by decide), cal_some, st 9 (by decide) (by decide), cal_some, st 10 (by decide) (by decide), cal_some, st 11 (by decide) (by decide), cal_some, st 12 (by decide) (by decide), cal_some]
theorem town_2 : isTown 2 := by unfold isTown; intro o h1 h2; have : ∀ o, o < 13 → 1 ≤ o → lnX (2 + o) = lmT o := by decide +kernel
                                exact this o h2 h1
theorem town_103 : isTown 103 := by unfold isTown; intro o h1 h2; have : ∀ o, o < 13 → 1 ≤ o → lnX (103 + o) = lmT o := by decide +kernel
                                    exact this o h2 h1
theorem town_k {r : Nat} (hr : r < 6) : isTown (118 + 13 * r) := by
  have : ∀ r, r < 6 → ∀ o, o < 13 → 1 ≤ o → lnX (118 + 13 * r + o) = lmT o := by decide +kernel
  exact fun o h1 h2 => this r hr o h2 h1
/-! the world's copy -/
def lmW (o : Nat) : Nat := ([0, 7, 10, 10, 10, 10, 14, 14, 14, 14, 14, 14, 14, 112, 0, 1, 8, 1, 8, 1, 8, 1, 10, 1, 12, 1, 14, 1, 12, 1, 12, 1, 6, 12, 9, 9, 36, 8, 2, 16, 16, 16, 16, 400, 0, 600, 4, 120, 64, 60, 10] : List Nat).getD o 0
theorem X9_copyFrom_eq {F t0 t1 : Nat} {τ : Tau} (h : (t0 = 1 ∧ t1 = 52) ∨ (t0 = 52 ∧ t1 = 1)) : X9_copyFrom F t0 t1 τ = some (0, cpK t0 t1 lmW 51 τ) := by
  have hl : ∀ o, o < 51 → o ∈ ([16, 18, 20, 22, 24, 26, 28, 30, 32, 33, 34, 35, 36, 37, 39, 40, 41, 42, 43, 45, 46, 47, 48, 49, 50] : List Nat) → lnX (t0 + o) = lmW o ∧ lnX (t1 + o) = lmW o ∧ lmW o < 1000000 := by
    rcases h with ⟨rfl, rfl⟩ | ⟨rfl, rfl⟩ <;> decide +kernel
  have hd : t1 + 50 < t0 ∨ t0 + 50 < t1 := by omega
  have st : ∀ k, k < 51 → k ∈ ([16, 18, 20, 22, 24, 26, 28, 30, 32, 33, 34, 35, 36, 37, 39, 40, 41, 42, 43, 45, 46, 47, 48, 49, 50] : List Nat) → X10_copy F (t1 + k) (t0 + k) (cpK t0 t1 lmW k τ) = some (0, cpK t0 t1 lmW (k + 1) τ) := by
    intro k k2 km
    obtain ⟨a, b, c⟩ := hl k k2 km
    rw [X10_copy_eq b a c, cpK_arr rfl (by omega)]
  have s1 : ∀ k, lmW k = 1 → k < 51 → up (cpK t0 t1 lmW k τ) (t0 + k) 0 (cpK t0 t1 lmW k τ (t1 + k) 0) = cpK t0 t1 lmW (k + 1) τ := by
    intro k h1 hk
    rw [← cpK_arr (n := 1) h1 (by omega), ← upN_cpy (by omega)]
    rfl
  have hr : ∀ k, lmW k = 1 → k + 1 < 51 → k + 1 ∈ ([16, 18, 20, 22, 24, 26, 28, 30, 32, 33, 34, 35, 36, 37, 39, 40, 41, 42, 43, 45, 46, 47, 48, 49, 50] : List Nat) → X5_copyFrom F (t0 + k) (t1 + k) (cpK t0 t1 lmW k τ) = some (0, cpK t0 t1 lmW (k + 2) τ) := by
    intro k h1 hk hm
    unfold X5_copyFrom
    rw [pst_eq, s1 k h1 (by omega)]
    show cal (X10_copy F (t1 + (k + 1)) (t0 + (k + 1)) _) _ = _
    rw [st (k + 1) hk hm, cal_some]
  have hT : X8_copyFrom F (t0 + 1) (t1 + 1) τ = some (0, cpK t0 t1 lmW 14 τ) := by
    have i0 : isTown (t0 + 1) := by
      rcases h with ⟨rfl, rfl⟩ | ⟨rfl, rfl⟩
      · exact town_2
      · intro o h1 h2
        have : ∀ o, o < 13 → 1 ≤ o → lnX (52 + 1 + o) = lmT o := by decide +kernel
        exact this o h2 h1
    have i1 : isTown (t1 + 1) := by
      rcases h with ⟨rfl, rfl⟩ | ⟨rfl, rfl⟩
      · intro o h1 h2
        have : ∀ o, o < 13 → 1 ≤ o → lnX (52 + 1 + o) = lmT o := by decide +kernel
        exact this o h2 h1
      · exact town_2
    rw [X8_copyFrom_eq i0 i1 (by omega)]
    congr 2
    funext c j
    unfold cpK
    have hm : ∀ o, o < 13 → lmW (o + 1) = lmT o := by decide +kernel
    by_cases hc : t0 + 1 ≤ c ∧ c < t0 + 1 + 13
    · have e := hm (c - (t0 + 1)) (by omega)
      have e2 : c - (t0 + 1) + 1 = c - t0 := by omega
      rw [e2] at e
      by_cases hj : j < lmT (c - (t0 + 1))
      · rw [if_pos ⟨hc.1, hc.2, hj⟩, if_pos ⟨by omega, by omega, by rw [e]; exact hj⟩, show t1 + 1 + (c - (t0 + 1)) = t1 + (c - t0) by omega]
      · rw [if_neg (fun z => hj z.2.2), if_neg (fun z => hj (by rw [← e]; exact z.2.2))]
    · rw [if_neg (fun z => hc ⟨z.1, z.2.1⟩), if_neg]
      rintro ⟨z1, z2, z3⟩
      have : c = t0 := by omega
      subst this
      rw [Nat.sub_self] at z3
      have : lmW 0 = 0 := rfl
      omega
  have hW : X7_copyFrom F (t0 + 14) (t1 + 14) (cpK t0 t1 lmW 14 τ) = some (0, cpK t0 t1 lmW 38 τ) := by
    rw [cpK_skip (k := 14) rfl]
    have hX : ∀ σ, X7_copyFrom F (t0 + 14) (t1 + 14) σ = (cal (X5_copyFrom F (t0 + 15) (t1 + 15) σ) fun _ τ2 => cal (X5_copyFrom F (t0 + 17) (t1 + 17) τ2) fun _ τ4 => cal (X5_copyFrom F (t0 + 19) (t1 + 19) τ4) fun _ τ6 => cal (X5_copyFrom F (t0 + 21) (t1 + 21) τ6) fun _ τ8 => cal (X5_copyFrom F (t0 + 23) (t1 + 23) τ8) fun _ τ10 => cal (X5_copyFrom F (t0 + 25) (t1 + 25) τ10) fun _ τ12 => cal (X5_copyFrom F (t0 + 27) (t1 + 27) τ12) fun _ τ14 => cal (X5_copyFrom F (t0 + 29) (t1 + 29) τ14) fun _ τ16 => cal (X5_copyFrom F (t0 + 31) (t1 + 31) τ16) fun _ τ18 => cal (X10_copy F (t1 + 33) (t0 + 33) τ18) fun _ τ20 => cal (X10_copy F (t1 + 34) (t0 + 34) τ20) fun _ τ22 => cal (X10_copy F (t1 + 35) (t0 + 35) τ22) fun _ τ24 => cal (X10_copy F (t1 + 36) (t0 + 36) τ24) fun _ τ26 => cal (X10_copy F (t1 + 37) (t0 + 37) τ26) fun _ τ28 => some (0, τ28)) := fun σ => rfl
    rw [hX, hr 15 rfl (by decide) (by decide), cal_some, hr 17 rfl (by decide) (by decide), cal_some, hr 19 rfl (by decide) (by decide), cal_some, hr 21 rfl (by decide) (by decide), cal_some, hr 23 rfl (by decide) (by decide), cal_some, hr 25 rfl (by decide) (by decide), cal_some, hr 27 rfl (by decide) (by decide), cal_some, hr 29 rfl (by decide) (by decide), cal_some, hr 31 rfl (by decide) (by decide), cal_some,
      st 33 (by decide) (by decide), cal_some, st 34 (by decide) (by decide), cal_some, st 35 (by decide) (by decide), cal_some, st 36 (by decide) (by decide), cal_some, st 37 (by decide) (by decide), cal_some]
  have hL : X2_copyFrom F (t0 + 38) (t1 + 38) (cpK t0 t1 lmW 38 τ) = some (0, cpK t0 t1 lmW 44 τ) := by
    have hX : ∀ σ, X2_copyFrom F (t0 + 38) (t1 + 38) σ = (cal (X10_copy F (t1 + 39) (t0 + 39) (upN σ (t0 + 38) (t1 + 38) 2)) fun _ τ4 => cal (X10_copy F (t1 + 40) (t0 + 40) τ4) fun _ τ6 => cal (X10_copy F (t1 + 41) (t0 + 41) τ6) fun _ τ8 => cal (X10_copy F (t1 + 42) (t0 + 42) τ8) fun _ τ10 => cal (X10_copy F (t1 + 43) (t0 + 43) τ10) fun _ τ12 => some (0, τ12)) := fun σ => rfl
    rw [hX, upN_cpy (by omega), cpK_arr (n := 2) rfl (by omega), st 39 (by decide) (by decide), cal_some, st 40 (by decide) (by decide), cal_some, st 41 (by decide) (by decide), cal_some, st 42 (by decide) (by decide), cal_some, st 43 (by decide) (by decide), cal_some]
  have hX : X9_copyFrom F t0 t1 τ = (cal (X8_copyFrom F (t0 + 1) (t1 + 1) τ) fun _ τ2 => cal (X7_copyFrom F (t0 + 14) (t1 + 14) τ2) fun _ τ4 => cal (X2_copyFrom F (t0 + 38) (t1 + 38) τ4) fun _ τ6 => cal (X10_copy F (t1 + 45) (t0 + 45) τ6) fun _ τ8 => cal (X10_copy F (t1 + 46) (t0 + 46) τ8) fun _ τ10 => cal (X10_copy F (t1 + 47) (t0 + 47) τ10) fun _ τ12 => cal (X10_copy F (t1 + 48) (t0 + 48) τ12) fun _ τ14 => cal (X10_copy F (t1 + 49) (t0 + 49) τ14) fun _ τ16 => cal (X10_copy F (t1 + 50) (t0 + 50) τ16) fun _ τ18 => some (0, τ18)) := rfl
  rw [hX, hT, cal_some, hW, cal_some, hL, cal_some, cpK_skip (k := 44) rfl, st 45 (by decide) (by decide), cal_some, st 46 (by decide) (by decide), cal_some, st 47 (by decide) (by decide), cal_some, st 48 (by decide) (by decide), cal_some, st 49 (by decide) (by decide), cal_some, st 50 (by decide) (by decide), cal_some]
