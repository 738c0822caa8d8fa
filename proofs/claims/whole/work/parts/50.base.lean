/-! PURE PART. Base: the combinators and ints under simp -/
theorem cal_some {r : Int32} {τ : Tau} {k : Int32 → Tau → Option (Int32 × Tau)} : cal (some (r, τ)) k = k r τ := rfl
theorem pst_eq {τ : Tau} {c j : Nat} {v : Int32} {k : Tau → Option (Int32 × Tau)} : pst τ c j v k = k (up τ c j v) := rfl
theorem ix_nI {n : Nat} (h : n < 2 ^ 31) : ix (nI n) = n := nI_clamp h
theorem inb_nIt {n N : Nat} (h : n < N) (hn : n < 2 ^ 31) : inb (nI n) N = true := by
  simp only [inb, Bool.and_eq_true, decide_eq_true_eq]
  exact ⟨nI_pos' hn, by show (nI n).toNatClampNeg < N; rw [nI_clamp hn]; exact h⟩
theorem ald_nI {τ : Tau} {c n j : Nat} {k : Int32 → Option (Int32 × Tau)} (h : j < n) (hj : j < 2 ^ 31) : ald τ c n (nI j) k = k (τ c j) := by
  unfold ald
  rw [if_pos (inb_nIt h hj), ix_nI hj]
theorem ast_nI {τ : Tau} {c n j : Nat} {v : Int32} {k : Tau → Option (Int32 × Tau)} (h : j < n) (hj : j < 2 ^ 31) : ast τ c n (nI j) v k = k (up τ c j v) := by
  unfold ast
  rw [if_pos (inb_nIt h hj), ix_nI hj]
theorem gd_nI {n j : Nat} {x : Option (Int32 × Tau)} (h : j < n) (hj : j < 2 ^ 31) : gd (nI j) n x = x := by
  unfold gd
  rw [if_pos (inb_nIt h hj)]
theorem cpg_nI {τ : Tau} {a b na nb n : Nat} {k : Tau → Option (Int32 × Tau)} (h1 : n ≤ na) (h2 : n ≤ nb) (h3 : na < 1000000) : cpg τ a b na nb (nI n) k = k (cpy τ a b n) := by
  unfold cpg
  rw [if_pos ⟨inb_nIt (by omega) (by omega), inb_nIt (by omega) (by omega), h3⟩, ix_nI (by omega)]
theorem liN (n : Nat) : (OfNat.ofNat n : Int32) = nI n := rfl
theorem litN (n : Nat) : Int32.ofNat n = nI n := rfl
theorem s_lk : ∀ n, n < 32 → ((nI n &&& 31).toBitVec.smod 32).toNat = n := by decide +kernel
theorem nI_sub {a b : Nat} (h : b ≤ a) : nI a - nI b = nI (a - b) := (Int32.ofNat_sub a b h).symm
theorem nI_mul (a b : Nat) : nI a * nI b = nI (a * b) := (Int32.ofNat_mul a b).symm
theorem nI_div {a d : Nat} (ha : a < 2 ^ 31) (h0 : 0 < d) (hd : d < 2 ^ 31) : nI a / nI d = nI (a / d) := pk_div ha h0 hd
theorem nI_rmd {a d : Nat} (ha : a < 2 ^ 31) (h0 : 0 < d) (hd : d < 2 ^ 31) : rmd (nI a) (nI d) = nI (a % d) := pk_rem ha h0 hd
theorem nI_shl {a k : Nat} (hk : k < 31) (h : a * 2 ^ k < 2 ^ 31) : shl (nI a) (nI k) = nI (a * 2 ^ k) := pk_shlN _ k (s_lk k (by omega)) (by omega)
theorem nI_shr {a k : Nat} (ha : a < 2 ^ 31) (hk : k < 32) : shr (nI a) (nI k) = nI (a / 2 ^ k) := pk_shrN ha _ k (s_lk k hk)
theorem nI_inj {a b : Nat} (ha : a < 2 ^ 31) (hb : b < 2 ^ 31) (h : nI a = nI b) : a = b := (nI_eq ha hb).mp h
theorem nI_m1 {a : Nat} (ha : a < 2 ^ 31) : (nI a = -1) ↔ False := by
  refine ⟨fun h => ?_, False.elim⟩
  have h1 : (nI a).toInt = -1 := by rw [h]; decide
  rw [nI_toInt ha] at h1
  omega
theorem nI_lt0 {a : Nat} (ha : a < 2 ^ 31) : (nI a < 0) ↔ False := ⟨fun h => nI_pos ha h, False.elim⟩
theorem nI_imin {a b : Nat} (ha : a < 2 ^ 31) (hb : b < 2 ^ 31) : imin (nI a) (nI b) = nI (min a b) := by
  unfold imin
  by_cases h : b < a
  · rw [if_pos ((nI_ltI hb ha).mpr h), Nat.min_eq_right (by omega)]
  · rw [if_neg (fun z => h ((nI_ltI hb ha).mp z)), Nat.min_eq_left (by omega)]
theorem nI_imax {a b : Nat} (ha : a < 2 ^ 31) (hb : b < 2 ^ 31) : imax (nI a) (nI b) = nI (max a b) := by
  unfold imax
  by_cases h : a < b
  · rw [if_pos ((nI_ltI ha hb).mpr h), Nat.max_eq_right (by omega)]
  · rw [if_neg (fun z => h ((nI_ltI ha hb).mp z)), Nat.max_eq_left (by omega)]
theorem i32_nlt {a b : Int32} : ¬ a < b ↔ b ≤ a := Int32.not_lt
theorem i32_nle {a b : Int32} : ¬ a ≤ b ↔ b < a := Int32.not_le
/-- truth as an int -/
def bI (p : Prop) [Decidable p] : Int32 := if p then 1 else 0
theorem bI_t {p : Prop} [Decidable p] (h : p) : bI p = 1 := if_pos h
theorem bI_f {p : Prop} [Decidable p] (h : ¬ p) : bI p = 0 := if_neg h
theorem bI_0 {p : Prop} [Decidable p] : (bI p = 0) ↔ ¬ p := by
  by_cases h : p
  · rw [bI_t h]; exact ⟨fun z => absurd z (by decide), fun z => absurd h z⟩
  · rw [bI_f h]; exact ⟨fun _ => h, fun _ => rfl⟩
theorem nar0 : vp_nar .boolean (0 : Int32) = 0 := by decide +kernel
theorem nar1 : vp_nar .boolean (1 : Int32) = 1 := by decide +kernel
theorem narB {p : Prop} [Decidable p] : vp_nar .boolean (bI p) = bI p := by
  by_cases h : p
  · rw [bI_t h, nar1]
  · rw [bI_f h, nar0]
theorem X10_within_eq {F : Nat} {a lo hi : Int32} {τ : Tau} : X10_within F a lo hi τ = some (bI (lo ≤ a ∧ a ≤ hi), τ) := by
  unfold X10_within
  by_cases h1 : a < lo
  · rw [if_pos h1, bI_f (fun z => i32_nle.mpr h1 z.1)]
  · rw [if_neg h1]
    by_cases h2 : hi < a
    · rw [if_pos h2, bI_f (fun z => i32_nle.mpr h2 z.2)]
    · rw [if_neg h2, bI_t ⟨i32_nlt.mp h1, i32_nlt.mp h2⟩]
theorem X11_isIn_eq {F : Nat} {a lo hi : Int32} {τ : Tau} : X11_isIn F a lo hi τ = some (bI (lo ≤ a ∧ a ≤ hi), τ) := by
  unfold X11_isIn
  by_cases h1 : a < lo
  · rw [if_pos h1, bI_f (fun z => i32_nle.mpr h1 z.1)]
  · rw [if_neg h1]
    by_cases h2 : hi < a
    · rw [if_pos h2, bI_f (fun z => i32_nle.mpr h2 z.2)]
    · rw [if_neg h2, bI_t ⟨i32_nlt.mp h1, i32_nlt.mp h2⟩]
theorem in_ex {a : Int32} {lo hi : Nat} (h : nI lo ≤ a ∧ a ≤ nI hi) (hl : lo < 2 ^ 31) (hh : hi < 2 ^ 31) : ∃ j, lo ≤ j ∧ j ≤ hi ∧ a = nI j := by
  have h0 : (0 : Int32) ≤ a := by
    rw [Int32.le_iff_toInt_le] at h ⊢
    have h1 := h.1
    rw [nI_toInt hl] at h1
    have : (0 : Int32).toInt = 0 := by decide
    omega
  obtain ⟨j, hj, rfl⟩ := nI_of (i32_nlt.mpr h0)
  exact ⟨j, (nI_leI hl hj).mp h.1, (nI_leI hj hh).mp h.2, rfl⟩
theorem in_iff {lo j hi : Nat} (hl : lo < 2 ^ 31) (hj : j < 2 ^ 31) (hh : hi < 2 ^ 31) : (nI lo ≤ nI j ∧ nI j ≤ nI hi) ↔ lo ≤ j ∧ j ≤ hi := by
  rw [nI_leI hl hj, nI_leI hj hh]
theorem X11_lesser_eq {F : Nat} {a b : Int32} {τ : Tau} : X11_lesser F a b τ = some (imin a b, τ) := by
  unfold X11_lesser imin
  by_cases h : b ≤ a
  · rw [if_pos h]
    by_cases h2 : b < a
    · rw [if_pos h2]
    · rw [if_neg h2, Int32.le_antisymm (i32_nlt.mp h2) h]
  · rw [if_neg h, if_neg (fun z => h (Int32.le_of_lt z))]
theorem X11_greater_eq {F : Nat} {a b : Int32} {τ : Tau} : X11_greater F a b τ = some (imax a b, τ) := by
  unfold X11_greater imax
  by_cases h : a ≤ b
  · rw [if_pos h]
    by_cases h2 : a < b
    · rw [if_pos h2]
    · rw [if_neg h2, Int32.le_antisymm h (i32_nlt.mp h2)]
  · rw [if_neg h, if_neg (fun z => h (Int32.le_of_lt z))]
/-! the table under an update -/
theorem up_c {t : Tau} {c j : Nat} {v : Int32} : up t c j v c j = v := by simp [up]
theorem up_nc {t : Tau} {c j a b : Nat} {v : Int32} (h : a ≠ c) : up t c j v a b = t a b := by simp [up, h]
theorem up_nj {t : Tau} {c j a b : Nat} {v : Int32} (h : b ≠ j) : up t c j v a b = t a b := by simp [up, h]
theorem up_if {t : Tau} {c j a b : Nat} {v : Int32} : up t c j v a b = if a = c ∧ b = j then v else t a b := rfl
theorem X10_put_in {F t0 j N : Nat} {v : Int32} {τ : Tau} (hN : lnX t0 = N) (h : j < N) (h2 : N < 2 ^ 31) : X10_put F t0 (nI j) v 1 τ = some (1, up τ t0 j v) := by
  unfold X10_put
  rw [if_neg (by decide), if_neg (nI_pos (by omega)), if_pos (by rw [hN]; exact nI_lt h h2), hN, ast_nI h (by omega)]
theorem X10_put_out {F t0 N : Nat} {a v : Int32} {τ : Tau} (hN : lnX t0 = N) (h2 : N < 2 ^ 31) (h : a < 0 ∨ nI N ≤ a) : X10_put F t0 a v 1 τ = some (0, τ) := by
  unfold X10_put
  rw [if_neg (by decide)]
  by_cases h1 : a < 0
  · rw [if_pos h1]
  · rw [if_neg h1, if_neg]
    rw [hN]
    exact i32_nlt.mpr (h.resolve_left h1)
theorem X10_put_0 {F t0 : Nat} {a v : Int32} {τ : Tau} : X10_put F t0 a v 0 τ = some (0, τ) := by
  unfold X10_put
  rw [if_pos rfl]
theorem X10_entry_in {F t0 j N : Nat} {τ : Tau} (hN : lnX t0 = N) (h : j < N) (h2 : N < 2 ^ 31) : X10_entry F t0 (nI j) τ = some (τ t0 j, τ) := by
  unfold X10_entry
  rw [if_neg (nI_pos (by omega)), if_neg (by rw [hN]; exact nI_ge h h2), hN, ald_nI h (by omega)]
theorem X10_entry_out {F t0 N : Nat} {a : Int32} {τ : Tau} (hN : lnX t0 = N) (h : a < 0 ∨ nI N ≤ a) : X10_entry F t0 a τ = some (0, τ) := by
  unfold X10_entry
  by_cases h1 : a < 0
  · rw [if_pos h1]
  · rw [if_neg h1, if_pos]
    rw [hN]
    exact h.resolve_left h1
/-! loops -/
def ftL {α : Type} (f : Nat → α → α) : Nat → Nat → α → α
  | 0, _, a => a
  | n + 1, k, a => ftL f n (k + 1) (f k a)
theorem fuel {n f : Nat} (h : n < f) : ∃ g, f = g + 1 ∧ n ≤ g := ⟨f - 1, by omega, by omega⟩
