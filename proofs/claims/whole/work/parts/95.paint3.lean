/-! PURE PART. Maps: the model's table -/
def sT (f : Nat → Nat) : Nat → Nat
  | 0 => 0
  | n + 1 => sT f n + f n
theorem sT_add (f : Nat → Nat) (a : Nat) : ∀ b, sT f (a + b) = sT f a + sT (fun k => f (a + k)) b := by
  intro b
  induction b with
  | zero => rfl
  | succ b ih =>
    show sT f (a + b) + f (a + b) = sT f a + (sT (fun k => f (a + k)) b + f (a + b))
    rw [ih]
    omega
theorem sT_congr {f g : Nat → Nat} : ∀ n, (∀ k, k < n → f k = g k) → sT f n = sT g n := by
  intro n
  induction n with
  | zero => intro _; rfl
  | succ n ih =>
    intro h
    show sT f n + f n = sT g n + g n
    rw [ih (fun k hk => h k (by omega)), h n (by omega)]
theorem sT_zero {f : Nat → Nat} : ∀ n, (∀ k, k < n → f k = 0) → sT f n = 0 := by
  intro n
  induction n with
  | zero => intro _; rfl
  | succ n ih =>
    intro h
    show sT f n + f n = 0
    rw [ih (fun k hk => h k (by omega)), h n (by omega)]
/-- what a set has and another has not -/
def dfN (S T : Nat) : Nat := S ^^^ (S &&& T)
theorem dfN_bit (S T j : Nat) : (dfN S T).testBit j = (S.testBit j && !T.testBit j) := by
  unfold dfN
  rw [Nat.testBit_xor, Nat.testBit_and]
  cases S.testBit j <;> cases T.testBit j <;> rfl
theorem dfN_fun (S T : Nat) : (dfN S T).testBit = dfL S.testBit T.testBit := funext fun j => dfN_bit S T j
theorem dfN_0 (S T : Nat) : dfN T S = 0 ↔ ∀ j, T.testBit j = true → S.testBit j = true := by
  constructor
  · intro h j hj
    have := dfN_bit T S j
    rw [h, Nat.zero_testBit, hj, Bool.true_and] at this
    cases hs : S.testBit j
    · rw [hs] at this; exact absurd this (by decide)
    · rfl
  · intro h
    apply Nat.eq_of_testBit_eq
    intro j
    rw [dfN_bit, Nat.zero_testBit]
    cases ht : T.testBit j
    · rfl
    · rw [h j ht]; rfl
theorem dfN_le (S T : Nat) : dfN S T ≤ S := by
  have : dfN S T = S &&& dfN S T := by
    apply Nat.eq_of_testBit_eq
    intro j
    rw [Nat.testBit_and, dfN_bit]
    cases S.testBit j <;> cases T.testBit j <;> rfl
  rw [this]
  exact Nat.and_le_left
theorem nI_dfN (S T : Nat) : nI S &&& (nI T ^^^ (-1)) = nI (dfN S T) := by
  apply Int32.toBitVec_inj.mp
  rw [Int32.toBitVec_and, Int32.toBitVec_xor]
  show BitVec.ofNat 32 S &&& (BitVec.ofNat 32 T ^^^ BitVec.allOnes 32) = BitVec.ofNat 32 (dfN S T)
  unfold dfN
  rw [BitVec.ofNat_xor, BitVec.ofNat_and, BitVec.xor_allOnes]
  apply BitVec.eq_of_getLsbD_eq
  intro i hi
  rw [BitVec.getLsbD_and, BitVec.getLsbD_xor, BitVec.getLsbD_and, BitVec.getLsbD_not]
  cases (BitVec.ofNat 32 S).getLsbD i <;> cases (BitVec.ofNat 32 T).getLsbD i <;> simp [hi]
theorem sub_le {S T : Nat} (h : dfN T S = 0) : T ≤ S := by
  have : T = T &&& S := by
    apply Nat.eq_of_testBit_eq
    intro j
    rw [Nat.testBit_and]
    cases ht : T.testBit j
    · rfl
    · rw [(dfN_0 S T).mp h j ht]; rfl
  rw [this]
  exact Nat.and_le_right
theorem bit_new {T n : Nat} (h : T < 2 ^ n) : (2 ^ n + T).testBit = insL T.testBit n := by
  funext j
  have e : 2 ^ n + T = 2 ^ n ||| T := by
    have := Nat.two_pow_add_eq_or_of_lt (i := n) (b := T) h 1
    rw [Nat.mul_one] at this
    exact this
  rw [e, Nat.testBit_or, Nat.testBit_two_pow]
  show (decide (n = j) || T.testBit j) = ((j == n) || T.testBit j)
  by_cases q : j = n
  · subst q; simp
  · rw [beq_eq_false_iff_ne.mpr q, decide_eq_false (fun z => q z.symm)]
theorem sum_ss (S : Nat) : ∀ n (g : (Nat → Bool) → Nat), sT (fun T => if dfN T S = 0 then g T.testBit else 0) (2 ^ n) = ssL n S.testBit g := by
  intro n
  induction n with
  | zero =>
    intro g
    show 0 + (if dfN 0 S = 0 then g (Nat.testBit 0) else 0) = g noL
    rw [if_pos ((dfN_0 S 0).mpr (fun j hj => by rw [Nat.zero_testBit] at hj; exact absurd hj (by decide))), Nat.zero_add]
    congr 1
    funext j
    exact Nat.zero_testBit j
  | succ n ih =>
    intro g
    rw [show 2 ^ (n + 1) = 2 ^ n + 2 ^ n by rw [Nat.pow_succ]; omega, sT_add, ih g]
    show _ = ssL n S.testBit g + if S.testBit n = true then ssL n S.testBit (fun T => g (insL T n)) else 0
    congr 1
    have hb : ∀ T, T < 2 ^ n → (dfN (2 ^ n + T) S = 0 ↔ S.testBit n = true ∧ dfN T S = 0) := by
      intro T hT
      have ht : T.testBit n = false := Nat.testBit_lt_two_pow hT
      rw [dfN_0, dfN_0, bit_new hT]
      constructor
      · intro h
        refine ⟨h n ins_at, fun j hj => ?_⟩
        by_cases q : j = n
        · rw [q] at hj; rw [ht] at hj; exact absurd hj (by decide)
        · exact h j (by rw [ins_ne q]; exact hj)
      · rintro ⟨h1, h2⟩ j hj
        by_cases q : j = n
        · rw [q]; exact h1
        · rw [ins_ne q] at hj; exact h2 j hj
    by_cases e : S.testBit n = true
    · rw [if_pos e, ← ih (fun T => g (insL T n))]
      refine sT_congr _ (fun T hT => ?_)
      by_cases d : dfN T S = 0
      · rw [if_pos ((hb T hT).mpr ⟨e, d⟩), if_pos d, bit_new hT]
      · rw [if_neg (fun z => d ((hb T hT).mp z).2), if_neg d]
    · rw [if_neg e]
      exact sT_zero _ (fun T hT => if_neg (fun z => e ((hb T hT).mp z).1))
/-- no border inside -/
def okE (s : Nat) (a b : Nat → Nat) (f : Nat → Bool) : Bool := (List.range s).all fun i => !(f (a i) && f (b i))
theorem okE_iff {s : Nat} {a b : Nat → Nat} {f : Nat → Bool} : okE s a b f = true ↔ ∀ i, i < s → ¬ (f (a i) = true ∧ f (b i) = true) := by
  unfold okE
  rw [List.all_eq_true]
  constructor
  · intro h i hi z
    have := h i (List.mem_range.mpr hi)
    rw [z.1, z.2] at this
    exact absurd this (by decide)
  · intro h i hi
    have := h i (List.mem_range.mp hi)
    cases p : f (a i) <;> cases q : f (b i) <;> simp_all
theorem okE_mono {s : Nat} {a b : Nat → Nat} : ∀ c T, okE s a b (unL c T) = true → okE s a b c = true := by
  intro c T h
  rw [okE_iff] at h ⊢
  intro i hi z
  refine h i hi ⟨?_, ?_⟩
  · show (c (a i) || T (a i)) = true
    rw [z.1]; rfl
  · show (c (b i) || T (b i)) = true
    rw [z.2]; rfl
theorem bor_out {tx : Tau} {w : Nat → Int32} (h : Rbor (rsX 25 26 (vX 1 tx)) (rsM 674 703 (vM w))) : ∃ s, s ≤ 14 ∧ tx 26 0 = nI s ∧ w 674 = nI s ∧ ∀ i, i < s → ∃ a b, a < 8 ∧ b < 8 ∧ a ≠ b ∧ tx 27 i = nI (8 * a + b) ∧ w (675 + 2 * i) = nI a ∧ w (676 + 2 * i) = nI b := by
  obtain ⟨s, s1, s2, s3, s4⟩ := h
  rw [rsX_at (by omega), vX_at (by omega) (by decide)] at s2
  rw [rsM_at (by omega), vM_at (by omega)] at s3
  refine ⟨s, s1, s2, s3, fun i hi => ?_⟩
  obtain ⟨a, b, h1, h2, h3, h4, h5, h6⟩ := s4 i hi
  rw [rsX_at (by omega), vX_at (by omega) (by show i < 14; omega)] at h4
  rw [rsM_at (by omega), vM_at (by omega)] at h5 h6
  exact ⟨a, b, h1, h2, h3, h4, h5, h6⟩
theorem Pc.bors {T nP nM : Nat} {q : Nat → Nat} {tx tm : Tau} (h : Pc T nP nM q tx tm) : ∃ (s : Nat) (a b : Nat → Nat), s ≤ 14 ∧ tx 26 0 = nI s ∧ tm 1 674 = nI s ∧ ∀ i, i < s → a i < 8 ∧ b i < 8 ∧ a i ≠ b i ∧ tx 27 i = nI (8 * a i + b i) ∧ tm 1 (675 + 2 * i) = nI (a i) ∧ tm 1 (676 + 2 * i) = nI (b i) := by
  obtain ⟨s, s1, s2, s3, s4⟩ := bor_out h.1.2.2.2.2.2.2.2.2.1.2.2.2.2.2.2.2.2.2.2.1
  have : ∀ i, ∃ ab : Nat × Nat, i < s → ab.1 < 8 ∧ ab.2 < 8 ∧ ab.1 ≠ ab.2 ∧ tx 27 i = nI (8 * ab.1 + ab.2) ∧ tm 1 (675 + 2 * i) = nI ab.1 ∧ tm 1 (676 + 2 * i) = nI ab.2 := by
    intro i
    by_cases hi : i < s
    · obtain ⟨a, b, h⟩ := s4 i hi
      exact ⟨(a, b), fun _ => h⟩
    · exact ⟨(0, 0), fun z => absurd z hi⟩
  exact ⟨s, fun i => (this i).choose.1, fun i => (this i).choose.2, s1, s2, s3, fun i hi => (this i).choose_spec hi⟩
theorem tb_div (S j : Nat) : (S / 2 ^ j % 2 = 1) ↔ S.testBit j = true := by
  rw [Nat.testBit_eq_decide_div_mod_eq, decide_eq_true_eq]
theorem one_M {F s T : Nat} {a b : Nat → Nat} {τ : Tau} (hF : 5000 ≤ F) (hs : s ≤ 14) (hT : T < 256) (m0 : τ 1 674 = nI s) (hm : ∀ i, i < s → a i < 8 ∧ b i < 8 ∧ τ 1 (675 + 2 * i) = nI (a i) ∧ τ 1 (676 + 2 * i) = nI (b i)) : X11_canBeOne F (nI T) τ = some (bI (okE s a b T.testBit = true), τ) := by
  have key : ∀ (m i f : Nat), i + m = s → m < f → (∀ k, k < i → ¬ (T.testBit (a k) = true ∧ T.testBit (b k) = true)) → X11_canBeOne_L2 F f (nI T) (nI i) τ = some (bI (okE s a b T.testBit = true), τ) := by
    intro m
    induction m with
    | zero =>
      intro i f hi hf hk
      obtain ⟨g, rfl, -⟩ := fuel hf
      have : i = s := by omega
      subst this
      unfold X11_canBeOne_L2
      rw [ald_lit (by decide) (by decide), m0, if_pos (nI_le (Nat.le_refl _) (by omega)), bI_t (okE_iff.mpr hk)]
    | succ m ih =>
      intro i f hi hf hk
      obtain ⟨g, rfl, -⟩ := fuel hf
      obtain ⟨h1, h2, h3, h4⟩ := hm i (by omega)
      have go : ¬ (T.testBit (a i) = true ∧ T.testBit (b i) = true) → X11_canBeOne_L2 F g (nI T) (nI (i + 1)) τ = some (bI (okE s a b T.testBit = true), τ) := fun hn => ih (i + 1) g (by omega) (by omega) (fun k hki => by
        by_cases q : k = i
        · rw [q]; exact hn
        · exact hk k (by omega))
      conv => lhs; unfold X11_canBeOne_L2
      unfold X11_canBeOne_j56
      have ki : nI i + 1 = nI (i + 1) := litA'
      have i1 : (675 : Int32) + 2 * nI i = nI (675 + 2 * i) := by rw [litM, litA]
      have i2 : (676 : Int32) + 2 * nI i = nI (676 + 2 * i) := by rw [litM, litA]
      rw [ald_lit (by decide) (by decide), m0, if_neg (nI_ge (by omega) (by omega)), i1, i2, ald_nI (by omega) (by omega), ald_nI (by omega) (by omega), h3, h4, bit_nI (by omega) (by omega), bit_nI (by omega) (by omega), ki]
      have q1 : (nI (T / 2 ^ a i % 2) = 1) ↔ T.testBit (a i) = true := by rw [← tb_div, lit_eq (by decide) (by omega)]
      have q2 : (nI (T / 2 ^ b i % 2) = 1) ↔ T.testBit (b i) = true := by rw [← tb_div, lit_eq (by decide) (by omega)]
      by_cases d1 : T.testBit (a i) = true
      · rw [if_pos (q1.mpr d1)]
        by_cases d2 : T.testBit (b i) = true
        · rw [if_pos (q2.mpr d2), bI_f]
          intro z
          exact okE_iff.mp z i (by omega) ⟨d1, d2⟩
        · rw [if_neg (fun z => d2 (q2.mp z))]
          exact go (fun z => d2 z.2)
      · rw [if_neg (fun z => d1 (q1.mp z))]
        exact go (fun z => d1 z.1)
  exact key s 0 F (by omega) (by omega) (fun k hk => absurd hk (Nat.not_lt_zero k))
