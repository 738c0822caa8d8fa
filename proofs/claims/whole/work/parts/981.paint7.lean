/-! PURE PART. Maps: the class paints -/
def tbs (ms : List Nat) : List (Nat → Bool) := ms.map Nat.testBit
/-- the classes as they stand -/
def ClsP (ms : List Nat) (τ : Tau) : Prop := ms.length ≤ 5 ∧ ∀ i, i < 5 → τ 218 i = nI (ms.getD i 0)
/-- all of them below a land, without border inside -/
def Low (s : Nat) (a b : Nat → Nat) (l : Nat) (ms : List Nat) : Prop := ∀ m ∈ ms, m < 2 ^ l ∧ okE s a b m.testBit = true
/-- who borders on whom -/
def NbL (s : Nat) (a b : Nat → Nat) (l j : Nat) : Prop := ∃ i, i < s ∧ ((a i = l ∧ b i = j) ∨ (b i = l ∧ a i = j))
theorem bit_low2 {m l j : Nat} (h : m < 2 ^ l) (hj : l ≤ j) : m.testBit j = false := Nat.testBit_lt_two_pow (Nat.lt_of_lt_of_le h (Nat.pow_le_pow_right (by decide) hj))
theorem or_ins (m l : Nat) : (m ||| 2 ^ l).testBit = insL m.testBit l := by
  funext j
  rw [Nat.testBit_or, Nat.testBit_two_pow]
  show (m.testBit j || decide (l = j)) = ((j == l) || m.testBit j)
  by_cases q : j = l
  · subst q; simp
  · rw [beq_eq_false_iff_ne.mpr q, decide_eq_false (fun z => q z.symm), Bool.or_false, Bool.false_or]
theorem or_back {m l : Nat} (h : m < 2 ^ l) : dfN (m ||| 2 ^ l) (2 ^ l) = m := by
  apply Nat.eq_of_testBit_eq
  intro j
  rw [dfN_bit, or_ins, Nat.testBit_two_pow]
  by_cases q : j = l
  · rw [q, ins_at, decide_eq_true rfl, Bool.not_true, Bool.and_false, bit_low2 h (Nat.le_refl l)]
  · rw [ins_ne q, decide_eq_false (fun z => q z.symm), Bool.not_false, Bool.and_true]
theorem or_lt {m l : Nat} (h : m < 2 ^ l) : m ||| 2 ^ l < 2 ^ (l + 1) := Nat.or_lt_two_pow (Nat.lt_of_lt_of_le h (Nat.pow_le_pow_right (by decide) (by omega))) (Nat.pow_lt_pow_right (by decide) (by omega))
theorem and_0 (x y : Nat) : x &&& y = 0 ↔ ∀ j, ¬ (x.testBit j = true ∧ y.testBit j = true) := by
  constructor
  · intro h j z
    have := Nat.testBit_and x y j
    rw [h, Nat.zero_testBit, z.1, z.2] at this
    exact absurd this (by decide)
  · intro h
    apply Nat.eq_of_testBit_eq
    intro j
    rw [Nat.testBit_and, Nat.zero_testBit]
    cases p : x.testBit j
    · rfl
    · cases q : y.testBit j
      · rfl
      · exact absurd ⟨p, q⟩ (h j)
/-- the test of the class is the model's -/
theorem can_paint {s l m nb : Nat} {a b : Nat → Nat} (hab : ∀ i, i < s → a i ≠ b i) (hn : ∀ j, nb.testBit j = true ↔ NbL s a b l j) (hm : okE s a b m.testBit = true) : (m &&& nb = 0) ↔ okE s a b (insL m.testBit l) = true := by
  rw [and_0, okE_iff]
  rw [okE_iff] at hm
  constructor
  · intro h i hi z
    by_cases q1 : a i = l
    · by_cases q2 : b i = l
      · exact hab i hi (q1.trans q2.symm)
      · rw [ins_ne q2] at z
        exact h (b i) ⟨z.2, (hn _).mpr ⟨i, hi, .inl ⟨q1, rfl⟩⟩⟩
    · rw [ins_ne q1] at z
      by_cases q2 : b i = l
      · exact h (a i) ⟨z.1, (hn _).mpr ⟨i, hi, .inr ⟨q2, rfl⟩⟩⟩
      · rw [ins_ne q2] at z
        exact hm i hi z
  · rintro h j ⟨z1, z2⟩
    have insj : insL m.testBit l j = true := by
      by_cases q : j = l
      · rw [q, ins_at]
      · rw [ins_ne q, z1]
    obtain ⟨i, hi, ⟨e1, e2⟩ | ⟨e1, e2⟩⟩ := (hn j).mp z2
    · exact h i hi ⟨by rw [e1, ins_at], by rw [e2, insj]⟩
    · exact h i hi ⟨by rw [e2, insj], by rw [e1, ins_at]⟩
/-- what the counts grow by -/
def Grow (f : Nat → Nat) (τ τ' : Tau) : Prop := ∀ k, k < 6 → ∀ v, τ 219 k = nI v → τ' 219 k = nI (v + f k)
theorem Grow.trans {f g : Nat → Nat} {τ τ1 τ2 : Tau} (h1 : Grow f τ τ1) (h2 : Grow g τ1 τ2) : Grow (fun k => f k + g k) τ τ2 := fun k hk v hv => by
  rw [h2 k hk _ (h1 k hk v hv), Nat.add_assoc]
