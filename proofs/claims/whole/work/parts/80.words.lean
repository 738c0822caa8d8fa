/-! PURE PART. Steps: interpreter -/
theorem nI_or (a b : Nat) : nI a ||| nI b = nI (a ||| b) := by
  apply Int32.toBitVec_inj.mp
  rw [Int32.toBitVec_or]
  exact (BitVec.ofNat_or (w := 32) (x := a) (y := b)).symm
theorem dgt_lt (r k : Nat) : dgt r k < 10 := Nat.mod_lt _ (by decide)
/-- the bits of the last k digits, from the last -/
def orD : Nat → Nat → Nat → Nat
  | 0, _, o => o
  | k + 1, v, o => orD k (v / 10) (o ||| 2 ^ (v % 10))
/-- and the digits from i on, from the first -/
def orU (r : Nat) : Nat → Nat → Nat → Nat
  | 0, _, o => o
  | m + 1, i, o => orU r m (i + 1) (o ||| 2 ^ (dgt r i))
def bits5 (a b c d e : Nat) : Bool := decide (2 ^ a ||| 2 ^ b ||| 2 ^ c ||| 2 ^ d ||| 2 ^ e = 31) == (!(a == b) && !(a == c) && !(a == d) && !(a == e) && !(b == c) && !(b == d) && !(b == e) && !(c == d) && !(c == e) && !(d == e))
theorem bits_x : ∀ y, y < 25 → ∀ x, x < 125 → bits5 (x % 5) (x / 5 % 5) (x / 25 % 5) (y % 5) (y / 5 % 5) = true := by decide +kernel
theorem bits_fin (a : Nat) (ha : a < 5) (b : Nat) (hb : b < 5) (c : Nat) (hc : c < 5) (d : Nat) (hd : d < 5) (e : Nat) (he : e < 5) : (2 ^ a ||| 2 ^ b ||| 2 ^ c ||| 2 ^ d ||| 2 ^ e = 31 ↔ (a ≠ b ∧ a ≠ c ∧ a ≠ d ∧ a ≠ e ∧ b ≠ c ∧ b ≠ d ∧ b ≠ e ∧ c ≠ d ∧ c ≠ e ∧ d ≠ e)) := by
  have := bits_x (d + 5 * e) (by omega) (a + 5 * b + 25 * c) (by omega)
  rw [show (a + 5 * b + 25 * c) % 5 = a by omega, show (a + 5 * b + 25 * c) / 5 % 5 = b by omega, show (a + 5 * b + 25 * c) / 25 % 5 = c by omega, show (d + 5 * e) % 5 = d by omega, show (d + 5 * e) / 5 % 5 = e by omega] at this
  unfold bits5 at this
  have h2 := eq_of_beq this
  rw [← decide_eq_true_iff (p := 2 ^ a ||| 2 ^ b ||| 2 ^ c ||| 2 ^ d ||| 2 ^ e = 31), h2]
  simp [and_assoc]
theorem bits_31 {a b c d e : Nat} : 2 ^ a ||| 2 ^ b ||| 2 ^ c ||| 2 ^ d ||| 2 ^ e = 31 ↔ (a < 5 ∧ b < 5 ∧ c < 5 ∧ d < 5 ∧ e < 5) ∧ (a ≠ b ∧ a ≠ c ∧ a ≠ d ∧ a ≠ e ∧ b ≠ c ∧ b ≠ d ∧ b ≠ e ∧ c ≠ d ∧ c ≠ e ∧ d ≠ e) := by
  refine ⟨fun h => ?_, fun h => (bits_fin a h.1.1 b h.1.2.1 c h.1.2.2.1 d h.1.2.2.2.1 e h.1.2.2.2.2).mpr h.2⟩
  have key : ∀ x, (x = a ∨ x = b ∨ x = c ∨ x = d ∨ x = e) → x < 5 := by
    intro x hx
    have h1 : (2 ^ a ||| 2 ^ b ||| 2 ^ c ||| 2 ^ d ||| 2 ^ e).testBit x = true := by
      simp only [Nat.testBit_or, Nat.testBit_two_pow, Bool.or_eq_true, decide_eq_true_eq]
      omega
    rw [h] at h1
    by_cases g : x < 5
    · exact g
    · have : Nat.testBit 31 x = false := Nat.testBit_lt_two_pow (Nat.lt_of_lt_of_le (show 31 < 2 ^ 5 by decide) (Nat.pow_le_pow_right (by decide) (by omega)))
      rw [this] at h1
      exact absurd h1 (by decide)
  have ha := key a (by omega)
  have hb := key b (by omega)
  have hc := key c (by omega)
  have hd := key d (by omega)
  have he := key e (by omega)
  exact ⟨⟨ha, hb, hc, hd, he⟩, (bits_fin a ha b hb c hc d hd e he).mp h⟩
theorem ip_iff {r : Nat} (hr : r < 100000) : (2 ^ dgt r 0 ||| 2 ^ dgt r 1 ||| 2 ^ dgt r 2 ||| 2 ^ dgt r 3 ||| 2 ^ dgt r 4 = 31) ↔ isIp r := by
  rw [bits_31]
  unfold isIp
  refine ⟨fun ⟨⟨a, b, c, d, e⟩, f1, f2, f3, f4, f5, f6, f7, f8, f9, f10⟩ => ⟨hr, fun k hk => ?_, fun k l hk hl hkl => ?_⟩, fun ⟨_, h1, h2⟩ => ⟨⟨h1 0 (by decide), h1 1 (by decide), h1 2 (by decide), h1 3 (by decide), h1 4 (by decide)⟩, ?_⟩⟩
  · have : k = 0 ∨ k = 1 ∨ k = 2 ∨ k = 3 ∨ k = 4 := by omega
    rcases this with rfl | rfl | rfl | rfl | rfl <;> assumption
  · have k5 : k = 0 ∨ k = 1 ∨ k = 2 ∨ k = 3 ∨ k = 4 := by omega
    have l5 : l = 0 ∨ l = 1 ∨ l = 2 ∨ l = 3 ∨ l = 4 := by omega
    rcases k5 with rfl | rfl | rfl | rfl | rfl <;> rcases l5 with rfl | rfl | rfl | rfl | rfl <;> omega
  · have ne : ∀ k l, k < 5 → l < 5 → k ≠ l → dgt r k ≠ dgt r l := fun k l hk hl hn e => hn (h2 k l hk hl e)
    exact ⟨ne 0 1 (by decide) (by decide) (by decide), ne 0 2 (by decide) (by decide) (by decide), ne 0 3 (by decide) (by decide) (by decide), ne 0 4 (by decide) (by decide) (by decide), ne 1 2 (by decide) (by decide) (by decide), ne 1 3 (by decide) (by decide) (by decide), ne 1 4 (by decide) (by decide) (by decide), ne 2 3 (by decide) (by decide) (by decide), ne 2 4 (by decide) (by decide) (by decide), ne 3 4 (by decide) (by decide) (by decide)⟩
theorem orU_5 {r : Nat} (hr : r < 100000) : orU r 5 0 0 = 31 ↔ isIp r := by
  rw [← ip_iff hr]
  show (0 ||| 2 ^ dgt r 0 ||| 2 ^ dgt r 1 ||| 2 ^ dgt r 2 ||| 2 ^ dgt r 3 ||| 2 ^ dgt r 4 = 31) ↔ _
  rw [Nat.zero_or]
theorem orD_5 {r : Nat} (hr : r < 100000) : orD 5 r 0 = 31 ↔ isIp r := by
  rw [← ip_iff hr]
  have d0 : r / 10 / 10 / 10 / 10 % 10 = dgt r 0 := by unfold dgt; omega
  have d1 : r / 10 / 10 / 10 % 10 = dgt r 1 := by unfold dgt; omega
  have d2 : r / 10 / 10 % 10 = dgt r 2 := by unfold dgt; omega
  have d3 : r / 10 % 10 = dgt r 3 := by unfold dgt; omega
  have d4 : r % 10 = dgt r 4 := by unfold dgt; omega
  show (0 ||| 2 ^ (r % 10) ||| 2 ^ (r / 10 % 10) ||| 2 ^ (r / 10 / 10 % 10) ||| 2 ^ (r / 10 / 10 / 10 % 10) ||| 2 ^ (r / 10 / 10 / 10 / 10 % 10) = 31) ↔ _
  rw [Nat.zero_or, d0, d1, d2, d3, d4]
  have : (2 ^ dgt r 4 ||| 2 ^ dgt r 3 ||| 2 ^ dgt r 2 ||| 2 ^ dgt r 1 ||| 2 ^ dgt r 0) = (2 ^ dgt r 0 ||| 2 ^ dgt r 1 ||| 2 ^ dgt r 2 ||| 2 ^ dgt r 3 ||| 2 ^ dgt r 4) := by
    ac_rfl
  rw [this]
abbrev ipB (r : Nat) : Prop := r < 100000 ∧ orU r 5 0 0 = 31
theorem ipB_iff {r : Nat} : ipB r ↔ isIp r := ⟨fun h => (orU_5 h.1).mp h.2, fun h => ⟨h.1, (orU_5 h.1).mpr h⟩⟩
theorem madeOf_eq {F r k : Nat} {τ : Tau} (hF : 5000 ≤ F) (hr : r < 2 ^ 31) (hk : k < 5) : X4_madeOf F (nI r) (nI k) τ = some (nI (dgt r k), τ) := by
  have key : ∀ (m v f : Nat), v < 2 ^ 31 → k + m ≤ 4 → m < f → X4_madeOf_L5 F f (nI k) (nI v) (nI (k + m)) τ = some (nI (v / 10 ^ m % 10), τ) := by
    intro m
    induction m with
    | zero =>
      intro v f hv hm hf
      obtain ⟨g, rfl, -⟩ := fuel hf
      unfold X4_madeOf_L5
      rw [if_pos (nI_le (by omega) (by omega)), show (10 : Int32) = nI 10 from rfl, nI_rmd hv (by decide) (by decide)]
      rw [Nat.pow_zero, Nat.div_one]
    | succ m ih =>
      intro v f hv hm hf
      obtain ⟨g, rfl, -⟩ := fuel hf
      conv => lhs; unfold X4_madeOf_L5
      rw [if_neg (show ¬ nI (k + (m + 1)) ≤ nI k by rw [nI_leI (by omega) (by omega)]; omega), show (10 : Int32) = nI 10 from rfl, nI_div hv (by decide) (by decide), show nI (k + (m + 1)) + (-1) = nI (k + m) from pk_m1 (k + m), ih (v / 10) g (by omega) (by omega) (by omega), Nat.div_div_eq_div_mul, Nat.pow_succ, Nat.mul_comm]
  have := key (4 - k) r F hr (by omega) (by omega)
  rw [show k + (4 - k) = 4 by omega] at this
  exact this
theorem shl_1 {d : Nat} (hd : d < 10) : shl 1 (nI d) = nI (2 ^ d) := by
  have := nI_shl (a := 1) (k := d) (by omega) (by rw [Nat.one_mul]; exact Nat.pow_lt_pow_right (by decide) (by omega))
  rw [Nat.one_mul] at this
  exact this
theorem pow_lt10 {d : Nat} (hd : d < 10) : 2 ^ d < 2 ^ 10 := Nat.pow_lt_pow_right (by decide) hd
theorem once_X {F r : Nat} {τ : Tau} (hF : 5000 ≤ F) (hr : r < 100000) : X4_hasEachWordOnce F (nI r) τ = some (bI (ipB r), τ) := by
  have key : ∀ (m i o f : Nat), i + m = 5 → o < 2 ^ 10 → m < f → X4_hasEachWordOnce_L16 F f (nI r) (nI o) (nI i) τ = some (bI (orU r m i o = 31), τ) := by
    intro m
    induction m with
    | zero =>
      intro i o f him ho hf
      obtain ⟨g, rfl, -⟩ := fuel hf
      have : i = 5 := by omega
      subst this
      unfold X4_hasEachWordOnce_L16
      rw [if_pos (by decide)]
      by_cases e : o = 31
      · rw [if_pos (by rw [e]; rfl), bI_t (show orU r 0 5 o = 31 from e)]
      · rw [if_neg (by rw [lit_eq (by decide) (by omega)]; exact e), bI_f (show ¬ orU r 0 5 o = 31 from e)]
    | succ m ih =>
      intro i o f him ho hf
      obtain ⟨g, rfl, -⟩ := fuel hf
      conv => lhs; unfold X4_hasEachWordOnce_L16
      rw [if_neg (by rw [lit_le' (by decide) (by omega)]; omega), madeOf_eq hF (by omega) (by omega), cal_some, shl_1 (dgt_lt r i), nI_or, litA', ih (i + 1) _ g (by omega) (Nat.or_lt_two_pow ho (pow_lt10 (dgt_lt r i))) (by omega)]
      rfl
  unfold X4_hasEachWordOnce
  rw [X10_within_eq, cal_some, bI_t (show (0 : Int32) ≤ nI r ∧ nI r ≤ 99999 from ⟨i32_nlt.mp (nI_pos (by omega)), (lit_le (by decide) (by omega)).mpr (by omega)⟩), if_neg n10]
  rw [show X4_hasEachWordOnce_L16 F F (nI r) 0 0 τ = _ from key 5 0 0 F (by decide) (by decide) (by omega)]
  by_cases e : ipB r
  · rw [bI_t e, bI_t e.2]
  · rw [bI_f e, bI_f (fun z => e ⟨hr, z⟩)]
theorem five_M {F : Nat} : ∀ (k v o f : Nat) (tm : Tau), k ≤ 5 → v < 2 ^ 31 → o < 2 ^ 10 → k < f → ∃ tm', X11_areFive_L7 F f (nI v) (nI o) (nI k - 1) tm = some (bI (v / 10 ^ k = 0 ∧ orD k v o = 31), tm') ∧ (∀ j, j < k → tm' 19 j = nI (v / 10 ^ (k - 1 - j) % 10)) ∧ (∀ j, k ≤ j → tm' 19 j = tm 19 j) ∧ ∀ c j, c ≠ 19 → tm' c j = tm c j := by
  intro k
  induction k with
  | zero =>
    intro v o f tm _ hv ho hf
    obtain ⟨g, rfl, -⟩ := fuel hf
    refine ⟨tm, ?_, fun j hj => absurd hj (by omega), fun _ _ => rfl, fun _ _ _ => rfl⟩
    unfold X11_areFive_L7
    rw [if_pos (by decide), Nat.pow_zero, Nat.div_one]
    by_cases a : v = 0
    · rw [if_pos (by rw [a]; rfl)]
      by_cases e : o = 31
      · rw [if_pos (by rw [e]; rfl), bI_t ⟨a, e⟩]
      · rw [if_neg (by rw [lit_eq (by decide) (by omega)]; exact e), bI_f (fun z => e z.2)]
    · rw [if_neg (by rw [lit_eq (by decide) (by omega)]; exact a), bI_f (fun z => a z.1)]
  | succ k ih =>
    intro v o f tm hk hv ho hf
    obtain ⟨g, rfl, -⟩ := fuel hf
    have hd : v % 10 < 10 := Nat.mod_lt _ (by decide)
    obtain ⟨tm', e1, e2, e3, e4⟩ := ih (v / 10) (o ||| 2 ^ (v % 10)) g (up tm 19 k (nI (v % 10))) (by omega) (by omega) (Nat.or_lt_two_pow ho (pow_lt10 hd)) (by omega)
    refine ⟨tm', ?_, fun j hj => ?_, fun j hj => ?_, fun c j hc => ?_⟩
    · conv => lhs; unfold X11_areFive_L7
      have e1' : nI (k + 1) - 1 = nI k := by rw [litS (by omega), Nat.add_sub_cancel]
      have e2' : nI k + (-1) = nI k - 1 := by rw [Int32.sub_eq_add_neg]
      rw [e1', if_neg (nI_pos (by omega)), ast_nI (by omega) (by omega), show (10 : Int32) = nI 10 from rfl, nI_rmd hv (by decide) (by decide), nI_div hv (by decide) (by decide), shl_1 hd, nI_or, e2', e1]
      have : v / 10 / 10 ^ k = v / 10 ^ (k + 1) := by rw [Nat.div_div_eq_div_mul, Nat.pow_succ, Nat.mul_comm]
      rw [this]
      rfl
    · by_cases e : j = k
      · subst e
        rw [e3 _ (Nat.le_refl _), up_c, show j + 1 - 1 - j = 0 by omega, Nat.pow_zero, Nat.div_one]
      · rw [e2 j (by omega), Nat.div_div_eq_div_mul, show k + 1 - 1 - j = (k - 1 - j) + 1 by omega, Nat.pow_succ, Nat.mul_comm]
    · rw [e3 j (by omega), up_nj (by omega)]
    · rw [e4 c j hc, up_nc hc]
theorem areFive_M {F r : Nat} (hF : 5000 ≤ F) (hr : r < 2 ^ 31) (tm : Tau) : ∃ tm', X11_areFive F (nI r) tm = some (bI (ipB r), tm') ∧ (∀ j, j < 5 → tm' 19 j = nI (dgt r j)) ∧ ∀ c j, c ≠ 19 → tm' c j = tm c j := by
  obtain ⟨tm', e1, e2, e3, e4⟩ := five_M (F := F) 5 r 0 F tm (by decide) hr (by decide) (by omega)
  refine ⟨tm', ?_, fun j hj => ?_, e4⟩
  · unfold X11_areFive
    rw [show X11_areFive_L7 F F (nI r) 0 4 tm = _ from e1]
    by_cases e : ipB r
    · have h5 := e.1
      rw [bI_t e, bI_t ⟨by rw [Nat.div_eq_of_lt (by omega)], (orD_5 h5).mpr (ipB_iff.mp e)⟩]
    · rw [bI_f e, bI_f]
      rintro ⟨a, b⟩
      have h5 : r < 100000 := by
        have := (Nat.div_eq_zero_iff).mp a
        omega
      exact e (ipB_iff.mpr ((orD_5 h5).mp b))
  · rw [e2 j hj]
    unfold dgt
    rw [show 5 - 1 - j = 4 - j by omega]
theorem int_copy {F s : Nat} (hs : s < 6) : ∀ (m i f : Nat) (tm : Tau), i + m = 5 → m < f → tm 1 729 = nI s → ∃ tm', X11_interpreter_L42 F f (nI i) tm = some (nI (s + 1), tm') ∧ tm' 1 729 = nI (s + 1) ∧ (∀ j, i ≤ j → j < 5 → tm' 1 (730 + 5 * s + j) = tm 19 j) ∧ (∀ k, k ≠ 729 → (k < 730 + 5 * s + i ∨ 735 + 5 * s ≤ k) → tm' 1 k = tm 1 k) ∧ ∀ c j, c ≠ 1 → tm' c j = tm c j := by
  intro m
  induction m with
  | zero =>
    intro i f tm him hf h0
    obtain ⟨g, rfl, -⟩ := fuel hf
    have : i = 5 := by omega
    subst this
    unfold X11_interpreter_L42
    rw [if_pos (by decide), ald_lit (by decide) (by decide), h0, litA', ast_lit (by decide) (by decide), ald_lit (by decide) (by decide)]
    refine ⟨_, ?_, up_c, fun j h1 h2 => absurd h1 (by omega), fun k hk _ => up_nj hk, fun c j hc => up_nc hc⟩
    rw [show up tm 1 729 (nI (s + 1)) 1 729 = nI (s + 1) from up_c]
  | succ m ih =>
    intro i f tm him hf h0
    obtain ⟨g, rfl, -⟩ := fuel hf
    obtain ⟨tm', e1, e2, e3, e4, e5⟩ := ih (i + 1) g (up tm 1 (730 + 5 * s + i) (tm 19 i)) (by omega) (by omega) ((up_nj (by omega)).trans h0)
    refine ⟨tm', ?_, e2, fun j h1 h2 => ?_, fun k hk hk2 => ?_, fun c j hc => ?_⟩
    · conv => lhs; unfold X11_interpreter_L42
      rw [if_neg (by rw [lit_le' (by decide) (by omega)]; omega), ald_lit (by decide) (by decide), h0, ald_nI (by omega) (by omega), litM, litA, nI_add, ast_nI (by omega) (by omega), litA', e1]
    · by_cases e : j = i
      · subst e
        rw [e4 _ (by omega) (by omega), up_c]
      · rw [e3 j (by omega) h2, up_nc (by decide)]
    · rw [e4 k hk (by omega), up_nj (by omega)]
    · rw [e5 c j hc, up_nc hc]
theorem int_out {tx : Tau} {w : Nat → Int32} (h : Rint (rsX 31 32 (vX 1 tx)) (rsM 729 760 (vM w))) : ∃ s, s ≤ 6 ∧ tx 32 0 = nI s ∧ w 729 = nI s ∧ ∀ i, i < s → ∃ r, isIp r ∧ tx 33 i = nI r ∧ ∀ k, k < 5 → w (730 + 5 * i + k) = nI (dgt r k) := by
  obtain ⟨s, s1, s2, s3, s4⟩ := h
  rw [rsX_at (by omega), vX_at (by omega) (by decide)] at s2
  rw [rsM_at (by omega), vM_at (by omega)] at s3
  refine ⟨s, s1, s2, s3, fun i hi => ?_⟩
  obtain ⟨r, r1, r2, r3⟩ := s4 i hi
  rw [rsX_at (by omega), vX_at (by omega) (by show i < 6; omega)] at r2
  refine ⟨r, r1, r2, fun k hk => ?_⟩
  have := r3 k hk
  rw [rsM_at (by omega), vM_at (by omega)] at this
  exact this
theorem int_in {tx : Tau} {w : Nat → Int32} (h : ∃ s, s ≤ 6 ∧ tx 32 0 = nI s ∧ w 729 = nI s ∧ ∀ i, i < s → ∃ r, isIp r ∧ tx 33 i = nI r ∧ ∀ k, k < 5 → w (730 + 5 * i + k) = nI (dgt r k)) : Rint (rsX 31 32 (vX 1 tx)) (rsM 729 760 (vM w)) := by
  obtain ⟨s, s1, s2, s3, s4⟩ := h
  refine ⟨s, s1, by rw [rsX_at (by omega), vX_at (by omega) (by decide)]; exact s2, by rw [rsM_at (by omega), vM_at (by omega)]; exact s3, fun i hi => ?_⟩
  obtain ⟨r, r1, r2, r3⟩ := s4 i hi
  refine ⟨r, r1, by rw [rsX_at (by omega), vX_at (by omega) (by show i < 6; omega)]; exact r2, fun k hk => ?_⟩
  rw [rsM_at (by omega), vM_at (by omega)]
  exact r3 k hk
theorem Pc.ints {T nP nM : Nat} {q : Nat → Nat} {tx tm : Tau} (h : Pc T nP nM q tx tm) : ∃ s, s ≤ 6 ∧ tx 32 0 = nI s ∧ tm 1 729 = nI s ∧ ∀ i, i < s → ∃ r, isIp r ∧ tx 33 i = nI r ∧ ∀ k, k < 5 → tm 1 (730 + 5 * i + k) = nI (dgt r k) := int_out h.1.2.2.2.2.2.2.2.2.1.2.2.2.2.2.2.2.2.2.2.2.2.2.1
theorem step39 (F : Nat) (hF : 5000 ≤ F) : Step39 F Rl := by
  intro n tx tm a1 _ h
  obtain ⟨nP, nM, q, hP⟩ := h.pc
  have hd := hP.1.2.2.2.2.2.2.2.2.1
  obtain ⟨s, s1, s2, s3, s4⟩ := hP.ints
  unfold X10_interpreter X11_interpreter
  by_cases neg : a1 < 0
  · have hX : X4_hasEachWordOnce F a1 tx = some (0, tx) := by
      unfold X4_hasEachWordOnce
      rw [X10_within_eq, cal_some, bI_f (fun z => i32_nle.mpr neg z.1), if_pos rfl]
    rw [hX, cal_some]
    unfold X5_tell
    by_cases e : a1 = -1
    · rw [if_pos e, if_pos e]
      unfold X5_empty X11_endsRow
      rw [pst_eq, cal_some, cal_some, ast_lit (by decide) (by decide), cal_some]
      exact ⟨0, _, _, rfl, rfl, Rl.tell hP (fun c j hc => up_nc (by omega)) (fun c j hc => up_nc hc) (fun k hk => up_nj (by show k ≠ 729; omega)) (Wd0_rep14 hd (vX_ne (lo := 31) (hi := 32) (fun c j hc => up_nc (by omega))) (vM_ne (fun k hk => up_nj (by show k ≠ 729; omega))) (int_in ⟨0, by decide, up_c, up_c, fun i hi => absurd hi (Nat.not_lt_zero i)⟩))⟩
    · rw [if_neg e, if_neg e, if_pos neg]
      unfold X5_add
      rw [if_pos rfl, cal_some, cal_some]
      exact ⟨-1, tx, tm, rfl, rfl, Rl_mono n tx tm h⟩
  · obtain ⟨r, hr, rfl⟩ := nI_of neg
    obtain ⟨tm1, u1, u2, u3⟩ := areFive_M (F := F) hF hr tm
    have hsame : Rl (n + 1) tx tm1 := Rl.same h (fun _ _ _ => rfl) (fun c j hc => u3 c j (by unfold coM at hc; omega))
    rw [if_neg (show ¬ nI r = -1 from fun z => ((nI_m1 hr).mp z)), if_neg neg, u1, cal_some]
    have hX : X4_hasEachWordOnce F (nI r) tx = some (bI (ipB r), tx) := by
      by_cases h5 : r < 100000
      · exact once_X hF h5
      · unfold X4_hasEachWordOnce
        rw [X10_within_eq, cal_some, bI_f (fun z => by have := (lit_le (by decide) hr).mp z.2; omega), if_pos rfl, bI_f (fun z => h5 z.1)]
    rw [hX, cal_some]
    unfold X5_tell
    rw [if_neg (show ¬ nI r = -1 from fun z => ((nI_m1 hr).mp z))]
    by_cases ip : ipB r
    · rw [bI_t ip, if_neg n10, ald_lit (by decide) (by decide), show tm1 1 729 = nI s from (u3 _ _ (by decide)).trans s3]
      by_cases full : s = 6
      · rw [if_pos (by rw [full]; rfl), X5_add_full (cap := 6) rfl (by rw [s2, full]), cal_some, cal_some]
        exact ⟨-1, tx, tm1, rfl, rfl, hsame⟩
      · rw [if_neg (show ¬ nI s = 6 by rw [lit_eq (by decide) (by omega)]; exact full), X5_add_in (cap := 6) rfl (by decide) s2 (by omega), cal_some, cal_some]
        obtain ⟨tm', v1, v2, v3, v4, v5⟩ := int_copy (F := F) (s := s) (by omega) 5 0 F tm1 (by decide) (by omega) ((u3 _ _ (by decide)).trans s3)
        rw [show X11_interpreter_L42 F F 0 tm1 = some (nI (s + 1), tm') from v1]
        refine ⟨_, _, tm', rfl, rfl, ?_⟩
        have hm1 : ∀ k, k < 729 ∨ 760 ≤ k → tm' 1 k = tm 1 k := fun k hk => by rw [v4 k (by omega) (by omega), u3 _ _ (by decide)]
        have hn : n + 1 = n + 1 := rfl
        have hXn : ∀ c j, c < 32 ∨ 33 < c → up (up tx (32 + 1) s (nI r)) 32 0 (nI (s + 1)) c j = tx c j := fun c j hc => by rw [up_nc (by omega), up_nc (by omega)]
        have hdd : Wd nP nM q 1 (up (up tx (32 + 1) s (nI r)) 32 0 (nI (s + 1))) (tm' 1) := Wd0_rep14 hd (vX_ne (lo := 31) (hi := 32) (fun c j hc => hXn c j (by omega))) (vM_ne hm1) (int_in ⟨s + 1, by omega, up_c, v2, fun i hi => by
          by_cases e : i = s
          · subst e
            refine ⟨r, ipB_iff.mp ip, ?_, fun k hk => ?_⟩
            · rw [up_nc (by decide), up_c]
            · rw [v3 k (by omega) hk, u2 k hk]
          · obtain ⟨r', r1, r2, r3⟩ := s4 i (by omega)
            refine ⟨r', r1, ?_, fun k hk => ?_⟩
            · rw [up_nc (by decide), up_nj e, r2]
            · rw [v4 _ (by omega) (by omega), u3 _ _ (by decide), r3 k hk]⟩)
        obtain ⟨⟨a1, a2, a3, a4, a5, a6, a7, a8, a9, a10, a11⟩, h2⟩ := hP
        refine Rl.frame (Nat.le_succ n) (RW.mono (T := 840 * n) ?_ (by omega)) h2 (fun c j hc => ?_) (fun c j hc => ?_)
        · refine ⟨fun k hk => ?_, by rw [hXn _ _ (by omega)]; exact a2, by rw [hXn _ _ (by omega)]; exact a3, by rw [hm1 _ (by omega)]; exact a4, by rw [hm1 _ (by omega)]; exact a5, a6, a7, Val_congr a7 a8 (fun k hk => hm1 k (by omega)), hdd, by rw [hm1 _ (by omega)]; exact a10, fun i hi => ?_⟩
          · have := (sl_inv k hk).2.1
            rw [hm1 _ (by omega), hXn _ _ (by omega)]; exact a1 k hk
          · rw [hm1 _ (by omega), hXn _ _ (by omega)]; exact a11 i hi
        · unfold coX at hc
          exact hXn _ _ (by omega)
        · unfold coM at hc
          rw [v5 _ _ (by omega), u3 _ _ (by omega)]
    · rw [bI_f ip, if_pos rfl]
      unfold X5_add
      rw [if_pos rfl, cal_some, cal_some]
      exact ⟨-1, tx, tm1, rfl, rfl, hsame⟩
