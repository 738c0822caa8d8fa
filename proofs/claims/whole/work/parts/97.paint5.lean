/-! PURE PART. Maps: five colours do, where there are at most 14 borders -/
theorem pig : ∀ (n s : Nat) (f : Nat → Nat), (∀ p, p < n → ∃ i, i < s ∧ f i = p) → n ≤ s := by
  intro n
  induction n with
  | zero => intro s f _; exact Nat.zero_le _
  | succ n ih =>
    intro s f h
    obtain ⟨i0, h1, h2⟩ := h n (by omega)
    obtain ⟨s', rfl⟩ : ∃ s', s = s' + 1 := ⟨s - 1, by omega⟩
    have := ih s' (updN f i0 (f s')) (fun p hp => by
      obtain ⟨i, i1, i2⟩ := h p (by omega)
      have hne : i ≠ i0 := by
        intro z
        rw [z, h2] at i2
        omega
      by_cases q : i = s'
      · subst q
        exact ⟨i0, by omega, by rw [updN_k]; exact i2⟩
      · exact ⟨i, by omega, by rw [updN_n hne]; exact i2⟩)
    omega
def plA (p : Nat) : Nat := ([0, 0, 0, 0, 0, 1, 1, 1, 1, 2, 2, 2, 3, 3, 4] : List Nat).getD p 0
def plB (p : Nat) : Nat := ([1, 2, 3, 4, 5, 2, 3, 4, 5, 3, 4, 5, 4, 5, 5] : List Nat).getD p 0
def plI (x y : Nat) : Nat := ([0, 4, 7, 9, 10] : List Nat).getD x 0 + y - 1
theorem pl_fin : ∀ p, p < 15 → plA p < plB p ∧ plB p < 6 ∧ plI (plA p) (plB p) = p := by decide +kernel
/-- two of the colours in use without a border between -/
theorem free_pair {s : Nat} (hs : s ≤ 14) (u v : Nat → Nat) : ∃ x y, x < y ∧ y < 6 ∧ ∀ i, i < s → ¬ (u i = x ∧ v i = y) ∧ ¬ (u i = y ∧ v i = x) := by
  by_cases h : ∃ p, p < 15 ∧ ∀ i, i < s → ¬ (u i = plA p ∧ v i = plB p) ∧ ¬ (u i = plB p ∧ v i = plA p)
  · obtain ⟨p, hp, h⟩ := h
    obtain ⟨a, b, -⟩ := pl_fin p hp
    exact ⟨_, _, a, b, h⟩
  · exfalso
    have := pig 15 s (fun i => plI (min (u i) (v i)) (max (u i) (v i))) (fun p hp => by
      obtain ⟨a, b, c⟩ := pl_fin p hp
      apply Classical.byContradiction
      intro hn
      refine h ⟨p, hp, fun i hi => ⟨fun z => hn ⟨i, hi, ?_⟩, fun z => hn ⟨i, hi, ?_⟩⟩⟩
      · show plI (min (u i) (v i)) (max (u i) (v i)) = p
        rw [z.1, z.2, Nat.min_eq_left (by omega), Nat.max_eq_right (by omega)]
        exact c
      · show plI (min (u i) (v i)) (max (u i) (v i)) = p
        rw [z.1, z.2, Nat.min_eq_right (by omega), Nat.max_eq_left (by omega)]
        exact c)
    omega
theorem merge_two {s k : Nat} {a b c : Nat → Nat} (hs : s ≤ 14) (hk : 6 ≤ k) (hab : ∀ i, i < s → a i < 8 ∧ b i < 8) (hc : ∀ l, l < 8 → c l < k) (hp : ∀ i, i < s → c (a i) ≠ c (b i)) : ∃ d : Nat → Nat, (∀ l, l < 8 → d l < k - 1) ∧ ∀ i, i < s → d (a i) ≠ d (b i) := by
  obtain ⟨x, y, h1, h2, h3⟩ := free_pair hs (fun i => c (a i)) (fun i => c (b i))
  refine ⟨fun l => if c l = y then x else if c l = k - 1 then y else c l, fun l hl => ?_, fun i hi => ?_⟩
  · show (if c l = y then x else if c l = k - 1 then y else c l) < k - 1
    have := hc l hl
    split
    · omega
    · split <;> omega
  · show (if c (a i) = y then x else if c (a i) = k - 1 then y else c (a i)) ≠ if c (b i) = y then x else if c (b i) = k - 1 then y else c (b i)
    have ha := hc _ (hab i hi).1
    have hb := hc _ (hab i hi).2
    have hpi := hp i hi
    obtain ⟨n1, n2⟩ := h3 i hi
    replace n1 : ¬ (c (a i) = x ∧ c (b i) = y) := n1
    replace n2 : ¬ (c (a i) = y ∧ c (b i) = x) := n2
    split <;> split <;> (try split) <;> (try split) <;> omega
theorem five_do {s : Nat} {a b : Nat → Nat} (hs : s ≤ 14) (hab : ∀ i, i < s → a i < 8 ∧ b i < 8 ∧ a i ≠ b i) : ∃ c : Nat → Nat, (∀ l, l < 8 → c l < 5) ∧ ∀ i, i < s → c (a i) ≠ c (b i) := by
  have h2 : ∀ i, i < s → a i < 8 ∧ b i < 8 := fun i hi => ⟨(hab i hi).1, (hab i hi).2.1⟩
  obtain ⟨c7, l7, p7⟩ := merge_two (k := 8) (c := fun l => l) hs (by decide) h2 (fun l hl => hl) (fun i hi => (hab i hi).2.2)
  obtain ⟨c6, l6, p6⟩ := merge_two (k := 7) hs (by decide) h2 l7 p7
  exact merge_two (k := 6) hs (by decide) h2 l6 p6
theorem ss_ge : ∀ n (S T : Nat → Bool) (g : (Nat → Bool) → Nat), (∀ j, T j = true → S j = true ∧ j < n) → g T ≤ ssL n S g := by
  intro n
  induction n with
  | zero =>
    intro S T g h
    have : T = noL := funext fun j => by
      cases q : T j
      · rfl
      · exact absurd (h j q).2 (Nat.not_lt_zero j)
    rw [this]
    exact Nat.le_refl _
  | succ n ih =>
    intro S T g h
    show g T ≤ ssL n S g + if S n = true then ssL n S (fun T => g (insL T n)) else 0
    by_cases e : T n = true
    · rw [if_pos (h n e).1]
      have hT : T = insL (fun j => T j && !(j == n)) n := funext fun j => by
        by_cases q : j = n
        · rw [q, ins_at, e]
        · rw [ins_ne q, beq_eq_false_iff_ne.mpr q, Bool.not_false, Bool.and_true]
      have := ih S (fun j => T j && !(j == n)) (fun T => g (insL T n)) (fun j hj => by
        by_cases q : j = n
        · rw [q, beq_self_eq_true, Bool.not_true, Bool.and_false] at hj
          exact absurd hj (by decide)
        · rw [beq_eq_false_iff_ne.mpr q, Bool.not_false, Bool.and_true] at hj
          have := h j hj
          exact ⟨this.1, by omega⟩)
      rw [← hT] at this
      omega
    · have := ih S T g (fun j hj => by
        have hj2 := h j hj
        refine ⟨hj2.1, ?_⟩
        by_cases q : j = n
        · rw [q] at hj; exact absurd hj e
        · omega)
      omega
theorem v_pos {s : Nat} {a b c : Nat → Nat} (hp : ∀ i, i < s → c (a i) ≠ c (b i)) : ∀ k (S : Nat → Bool), (∀ j, S j = true → j < 8 ∧ c j < k) → 1 ≤ vL (okE s a b) (zsL k) S := by
  intro k
  induction k with
  | zero =>
    intro S h
    show 1 ≤ if empL S = true then 1 else 0
    rw [if_pos]
    · exact Nat.le_refl _
    · refine List.all_eq_true.mpr (fun j _ => ?_)
      cases q : S j
      · rfl
      · exact absurd (h j q).2 (Nat.not_lt_zero _)
  | succ k ih =>
    intro S h
    show 1 ≤ ssL 8 S (fun T => if okE s a b (unL noL T) = true then vL (okE s a b) (zsL k) (dfL S T) else 0)
    refine Nat.le_trans ?_ (ss_ge 8 S (fun j => S j && decide (c j = k)) _ (fun j hj => ?_))
    · rw [if_pos]
      · refine ih _ (fun j hj => ?_)
        replace hj : (S j && !(S j && decide (c j = k))) = true := hj
        rw [Bool.and_eq_true] at hj
        have := h j hj.1
        refine ⟨this.1, ?_⟩
        have h2 := hj.2
        rw [hj.1, Bool.true_and] at h2
        by_cases q : c j = k
        · rw [decide_eq_true q] at h2; exact absurd h2 (by decide)
        · omega
      · refine okE_iff.mpr (fun i hi z => hp i hi ?_)
        have z1 : (false || (S (a i) && decide (c (a i) = k))) = true := z.1
        have z2 : (false || (S (b i) && decide (c (b i) = k))) = true := z.2
        rw [Bool.false_or, Bool.and_eq_true, decide_eq_true_eq] at z1 z2
        rw [z1.2, z2.2]
    · rw [Bool.and_eq_true] at hj
      exact ⟨hj.1, (h j hj.1).1⟩
theorem five_ways {s : Nat} {a b : Nat → Nat} (hs : s ≤ 14) (hab : ∀ i, i < s → a i < 8 ∧ b i < 8 ∧ a i ≠ b i) : 1 ≤ vL (okE s a b) (zsL 5) (restL 0) := by
  obtain ⟨c, c1, c2⟩ := five_do hs hab
  refine v_pos c2 5 (restL 0) (fun j hj => ?_)
  have := of_decide_eq_true hj
  exact ⟨this.2, c1 j this.2⟩
