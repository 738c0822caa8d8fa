/-! PURE PART. Steps: word -/
def itN (p : Nat → Nat) : Nat → Nat → Nat
  | 0, x => x
  | n + 1, x => p (itN p n x)
theorem itN_lt {p : Nat → Nat} (h : ∀ x, x < 5 → p x < 5) {x : Nat} (hx : x < 5) : ∀ n, itN p n x < 5 := by
  intro n
  induction n with
  | zero => exact hx
  | succ n ih => exact h _ ih
theorem itN_back {p : Nat → Nat} (h : ∀ x, x < 5 → p x < 5) (hi : ∀ x y, x < 5 → y < 5 → p x = p y → x = y) {x : Nat} (hx : x < 5) : ∀ i d, itN p (i + d) x = itN p i x → itN p d x = x := by
  intro i
  induction i with
  | zero => intro d hd; rw [Nat.zero_add] at hd; exact hd
  | succ i ih =>
    intro d hd
    refine ih d (hi _ _ (itN_lt h hx _) (itN_lt h hx _) ?_)
    rw [show i + 1 + d = (i + d) + 1 by omega] at hd
    exact hd
theorem orbit {p : Nat → Nat} (h : ∀ x, x < 5 → p x < 5) (hi : ∀ x y, x < 5 → y < 5 → p x = p y → x = y) {x : Nat} (hx : x < 5) : ∃ o, 1 ≤ o ∧ o ≤ 5 ∧ itN p o x = x ∧ ∀ j, 1 ≤ j → j < o → itN p j x ≠ x := by
  by_cases c1 : itN p 1 x = x
  · exact ⟨1, by decide, by decide, c1, fun j _ _ => by omega⟩
  by_cases c2 : itN p 2 x = x
  · exact ⟨2, by decide, by decide, c2, fun j _ _ => by rw [show j = 1 by omega]; exact c1⟩
  by_cases c3 : itN p 3 x = x
  · refine ⟨3, by decide, by decide, c3, fun j _ _ => ?_⟩
    have : j = 1 ∨ j = 2 := by omega
    rcases this with rfl | rfl <;> assumption
  by_cases c4 : itN p 4 x = x
  · refine ⟨4, by decide, by decide, c4, fun j _ _ => ?_⟩
    have : j = 1 ∨ j = 2 ∨ j = 3 := by omega
    rcases this with rfl | rfl | rfl <;> assumption
  by_cases c5 : itN p 5 x = x
  · refine ⟨5, by decide, by decide, c5, fun j _ _ => ?_⟩
    have : j = 1 ∨ j = 2 ∨ j = 3 ∨ j = 4 := by omega
    rcases this with rfl | rfl | rfl | rfl <;> assumption
  exfalso
  have ne : ∀ i d, d = 1 ∨ d = 2 ∨ d = 3 ∨ d = 4 ∨ d = 5 → itN p (i + d) x ≠ itN p i x := by
    intro i d hd e
    have := itN_back h hi hx i d e
    rcases hd with rfl | rfl | rfl | rfl | rfl <;> exact absurd this (by assumption)
  have l := itN_lt h hx
  have b := bits_31.mpr ⟨⟨l 0, l 1, l 2, l 3, l 4⟩, (ne 0 1 (by omega)).symm, (ne 0 2 (by omega)).symm, (ne 0 3 (by omega)).symm, (ne 0 4 (by omega)).symm, (ne 1 1 (by omega)).symm, (ne 1 2 (by omega)).symm, (ne 1 3 (by omega)).symm, (ne 2 1 (by omega)).symm, (ne 2 2 (by omega)).symm, (ne 3 1 (by omega)).symm⟩
  have t5 : Nat.testBit 31 (itN p 5 x) = true := by
    have : ∀ v, v < 5 → Nat.testBit 31 v = true := by decide
    exact this _ (l 5)
  rw [← b] at t5
  simp only [Nat.testBit_or, Nat.testBit_two_pow, Bool.or_eq_true, decide_eq_true_eq] at t5
  have n0 := ne 0 5 (by omega)
  have n1 := ne 1 4 (by omega)
  have n2 := ne 2 3 (by omega)
  have n3 := ne 3 2 (by omega)
  have n4 := ne 4 1 (by omega)
  rcases t5 with (((t | t) | t) | t) | t
  · exact n0 t.symm
  · exact n1 t.symm
  · exact n2 t.symm
  · exact n3 t.symm
  · exact n4 t.symm
theorem gcN_gcd : ∀ m a b, b < m → gcN m a b = some (Nat.gcd a b) := by
  intro m
  induction m with
  | zero => intro a b h; exact absurd h (Nat.not_lt_zero b)
  | succ m ih =>
    intro a b h
    unfold gcN
    by_cases e : b = 0
    · rw [if_pos e, e, Nat.gcd_zero_right]
    · rw [if_neg e, ih b (a % b) (by have := Nat.mod_lt a (show b > 0 by omega); omega)]
      congr 1
      rw [Nat.gcd_comm b, Nat.gcd_comm a b, Nat.gcd_rec b a]
/-- all of o i, o (i + 1), ... divide A -/
def dvA (o : Nat → Nat) (A : Nat) : Nat → Nat → Bool
  | 0, _ => true
  | m + 1, i => decide (A % o i = 0) && dvA o A m (i + 1)
def lcmF (o : Nat → Nat) : Nat → Nat → Nat → Nat
  | 0, _, acc => acc
  | m + 1, i, acc => lcmF o m (i + 1) (Nat.lcm acc (o i))
theorem lcmF_dvd (o : Nat → Nat) (A : Nat) : ∀ m i acc, lcmF o m i acc ∣ A ↔ acc ∣ A ∧ dvA o A m i = true := by
  intro m
  induction m with
  | zero => intro i acc; exact ⟨fun h => ⟨h, rfl⟩, fun h => h.1⟩
  | succ m ih =>
    intro i acc
    show lcmF o m (i + 1) (Nat.lcm acc (o i)) ∣ A ↔ acc ∣ A ∧ (decide (A % o i = 0) && dvA o A m (i + 1)) = true
    rw [ih, Bool.and_eq_true, decide_eq_true_eq]
    constructor
    · rintro ⟨h1, h2⟩
      exact ⟨Nat.dvd_trans (Nat.dvd_lcm_left _ _) h1, Nat.mod_eq_zero_of_dvd (Nat.dvd_trans (Nat.dvd_lcm_right _ _) h1), h2⟩
    · rintro ⟨h1, h2, h3⟩
      exact ⟨Nat.lcm_dvd h1 (Nat.dvd_of_mod_eq_zero h2), h3⟩
theorem dvA_60 {o : Nat → Nat} (ho : ∀ k, k < 5 → 1 ≤ o k ∧ o k ≤ 5) : ∀ m i, i + m = 5 → dvA o 60 m i = true := by
  intro m
  induction m with
  | zero => intro i _; rfl
  | succ m ih =>
    intro i hi
    unfold dvA
    rw [ih (i + 1) (by omega), Bool.and_true, decide_eq_true_eq]
    obtain ⟨h1, h2⟩ := ho i (by omega)
    have : ∀ v, v < 6 → 1 ≤ v → 60 % v = 0 := by decide
    exact this _ (by omega) h1
/-- the words as both say them -/
theorem word_fn {F T nP nM : Nat} {q : Nat → Nat} {tx tm : Tau} (hF : 5000 ≤ F) (h : Pc T nP nM q tx tm) : ∃ p : Nat → Nat, (∀ x, x < 5 → p x < 5) ∧ (∀ x y, x < 5 → y < 5 → p x = p y → x = y) ∧ ∀ x, x < 5 → X4_becomes F (nI x) tx = some (nI (p x), tx) ∧ X11_becomes F (nI x) tm = some (nI (p x), tm) := by
  obtain ⟨s, s1, s2, s3, s4⟩ := h.ints
  have key : ∀ m i, i + m = s → ∃ p : Nat → Nat, (∀ x, x < 5 → p x < 5) ∧ (∀ x y, x < 5 → y < 5 → p x = p y → x = y) ∧ ∀ x, x < 5 → ∀ fx fm, m < fx → m < fm → X4_becomes_L4 F fx (nI x) (nI i) tx = some (nI (p x), tx) ∧ X11_becomes_L4 F fm (nI x) (nI i) tm = some (nI (p x), tm) := by
    intro m
    induction m with
    | zero =>
      intro i him
      have : i = s := by omega
      subst this
      refine ⟨fun x => x, fun x hx => hx, fun x y _ _ e => e, fun x hx fx fm hfx hfm => ?_⟩
      obtain ⟨gx, rfl, -⟩ := fuel hfx
      obtain ⟨gm, rfl, -⟩ := fuel hfm
      unfold X4_becomes_L4 X11_becomes_L4
      rw [s2, if_pos (nI_le (Nat.le_refl _) (by omega)), ald_lit (by decide) (by decide), s3, if_pos (nI_le (Nat.le_refl _) (by omega))]
      exact ⟨rfl, rfl⟩
    | succ m ih =>
      intro i him
      obtain ⟨p, p1, p2, p3⟩ := ih (i + 1) (by omega)
      obtain ⟨r, ⟨r0, r5, rinj⟩, r2, r3⟩ := s4 i (by omega)
      refine ⟨fun x => p (dgt r x), fun x hx => p1 _ (r5 x hx), fun x y hx hy e => rinj x y hx hy (p2 _ _ (r5 x hx) (r5 y hy) e), fun x hx fx fm hfx hfm => ?_⟩
      obtain ⟨gx, rfl, -⟩ := fuel hfx
      obtain ⟨gm, rfl, -⟩ := fuel hfm
      obtain ⟨e1, e2⟩ := p3 (dgt r x) (r5 x hx) gx gm (by omega) (by omega)
      unfold X4_becomes_L4 X11_becomes_L4
      rw [s2, if_neg (nI_ge (by omega) (by omega)), X5_get_in (cap := 6) rfl (by decide) s2 (by omega) s1, cal_some, show tx (32 + 1) i = nI r from r2, madeOf_eq hF (by omega) hx, cal_some, ald_lit (by decide) (by decide), s3, if_neg (nI_ge (by omega) (by omega)), litM, litA, nI_add, ald_nI (by omega) (by omega), r3 x hx, litA']
      exact ⟨e1, e2⟩
  obtain ⟨p, p1, p2, p3⟩ := key s 0 (by omega)
  exact ⟨p, p1, p2, fun x hx => p3 x hx F F (by omega) (by omega)⟩
theorem rounds_X {F k o : Nat} {p : Nat → Nat} {tx : Tau} (hF : 5000 ≤ F) (hk : k < 5) (h5 : ∀ x, x < 5 → p x < 5) (hp : ∀ x, x < 5 → X4_becomes F (nI x) tx = some (nI (p x), tx)) (o1 : 1 ≤ o) (o5 : o ≤ 5) (oe : itN p o k = k) (on : ∀ j, 1 ≤ j → j < o → itN p j k ≠ k) : X4_roundsOf F (nI k) tx = some (nI o, tx) := by
  have key : ∀ (m j f : Nat), j + m = o → 1 ≤ j → m < f → X4_roundsOf_L8 F f (nI k) (nI (itN p j k)) (nI j) tx = some (nI o, tx) := by
    intro m
    induction m with
    | zero =>
      intro j f hj _ hf
      obtain ⟨g, rfl, -⟩ := fuel hf
      have : j = o := by omega
      subst this
      unfold X4_roundsOf_L8
      rw [oe, if_pos rfl]
    | succ m ih =>
      intro j f hj h1 hf
      obtain ⟨g, rfl, -⟩ := fuel hf
      have hl := itN_lt h5 hk j
      conv => lhs; unfold X4_roundsOf_L8
      rw [if_neg (show ¬ nI (itN p j k) = nI k by rw [nI_eq (by omega) (by omega)]; exact on j h1 (by omega)), if_neg (by rw [lit_le' (by decide) (by omega)]; omega), hp _ hl, cal_some, litA']
      exact ih (j + 1) g (by omega) (by omega) (by omega)
  unfold X4_roundsOf
  rw [hp k hk, cal_some]
  exact key (o - 1) 1 F (by omega) (by decide) (by omega)
theorem all_X {F A : Nat} {o : Nat → Nat} {tx : Tau} {self : Int32 → Tau → Option (Int32 × Tau)} (hA : A < 1000) (ho : ∀ k, k < 5 → 1 ≤ o k ∧ o k ≤ 5) (hr : ∀ k, k < 5 → X4_roundsOf F (nI k) tx = some (nI (o k), tx)) : ∀ (m i f : Nat) (b : Bool), i + m = 5 → m < f → X4_roundsOfWords_L12 F self f (nI A) (bI (b = true)) (nI i) tx = (if (b && dvA o A m i) = true then some (nI A, tx) else self (nI (A + 1)) tx) := by
  intro m
  induction m with
  | zero =>
    intro i f b him hf
    obtain ⟨g, rfl, -⟩ := fuel hf
    have : i = 5 := by omega
    subst this
    unfold X4_roundsOfWords_L12
    rw [if_pos (by decide), ite_bI, litA', show (b && dvA o A 0 5) = b from Bool.and_true b]
  | succ m ih =>
    intro i f b him hf
    obtain ⟨g, rfl, -⟩ := fuel hf
    have hn : ¬ (5 : Int32) ≤ nI i := by rw [lit_le' (by decide) (by omega)]; omega
    have hf0 := ih (i + 1) g false (by omega) (by omega)
    have ht0 := ih (i + 1) g true (by omega) (by omega)
    rw [bI_f (by decide)] at hf0
    rw [bI_t rfl] at ht0
    obtain ⟨o1, o5⟩ := ho i (by omega)
    conv => lhs; unfold X4_roundsOfWords_L12
    unfold X4_roundsOfWords_j39 X4_roundsOfWords_j40
    rw [if_neg hn, ite_bI, litA', hr i (by omega), cal_some, show (1 : Int32) = nI 1 from rfl, nI_imax (by decide) (by omega), Nat.max_eq_right o1, if_neg (show ¬ nI (o i) = 0 by rw [show (0 : Int32) = nI 0 from rfl, nI_eq (by omega) (by omega)]; omega), nI_rmd (by omega) (by omega) (by omega), show nI 1 = (1 : Int32) from rfl, hf0, ht0]
    cases b with
    | false =>
      rw [if_neg (by decide), Bool.false_and, Bool.false_and]
    | true =>
      rw [if_pos rfl, Bool.true_and, Bool.false_and, Bool.true_and, show dvA o A (m + 1) i = (decide (A % o i = 0) && dvA o A m (i + 1)) from rfl]
      by_cases e : A % o i = 0
      · rw [if_pos (by rw [e]; rfl), decide_eq_true e, Bool.true_and]
      · rw [if_neg (show ¬ nI (A % o i) = 0 by rw [show (0 : Int32) = nI 0 from rfl, nI_eq (by have := Nat.mod_le A (o i); omega) (by omega)]; exact e), decide_eq_false e, Bool.false_and]
theorem step40 (F : Nat) (hF : 5000 ≤ F) : Step40 F Rl := by
  intro n tx tm a1 _ h
  have ok : ∀ (v : Int32) (x m : Option (Int32 × Tau)), x = some (v, tx) → m = some (v, tm) → ∃ r tx' tm', x = some (r, tx') ∧ m = some (r, tm') ∧ Rl (n + 1) tx' tm' := fun v x m e1 e2 => ⟨v, tx, tm, e1, e2, Rl_mono n tx tm h⟩
  obtain ⟨nP, nM, q, hP⟩ := h.pc
  obtain ⟨p, p1, p2, p3⟩ := word_fn (F := F) hF hP
  unfold X10_word X11_word
  rw [X10_within_eq, cal_some, X11_isIn_eq, cal_some]
  by_cases c : a1 = -1
  · rw [if_pos c, if_pos c, bI_f (show ¬ ((0 : Int32) ≤ a1 ∧ a1 ≤ 4) by rw [c]; decide), if_pos rfl]
    have hob : ∀ k, ∃ o, k < 5 → 1 ≤ o ∧ o ≤ 5 ∧ itN p o k = k ∧ ∀ j, 1 ≤ j → j < o → itN p j k ≠ k := by
      intro k
      by_cases hk : k < 5
      · obtain ⟨o, ho⟩ := orbit p1 p2 hk
        exact ⟨o, fun _ => ho⟩
      · exact ⟨0, fun z => absurd z hk⟩
    have hX1 : ∃ o : Nat → Nat, ∀ k, k < 5 → 1 ≤ o k ∧ o k ≤ 5 ∧ itN p (o k) k = k ∧ ∀ j, 1 ≤ j → j < o k → itN p j k ≠ k := ⟨fun k => (hob k).choose, fun k => (hob k).choose_spec⟩
    obtain ⟨o, ho⟩ := hX1
    have ho15 : ∀ k, k < 5 → 1 ≤ o k ∧ o k ≤ 5 := fun k hk => ⟨(ho k hk).1, (ho k hk).2.1⟩
    have hr : ∀ k, k < 5 → X4_roundsOf F (nI k) tx = some (nI (o k), tx) := fun k hk => by
      obtain ⟨h1, h2, h3, h4⟩ := ho k hk
      exact rounds_X hF hk p1 (fun x hx => (p3 x hx).1) h1 h2 h3 h4
    have hL60 : lcmF o 5 0 1 ∣ 60 := (lcmF_dvd o 60 5 0 1).mpr ⟨Nat.one_dvd _, dvA_60 ho15 5 0 (by decide)⟩
    have hLle : lcmF o 5 0 1 ≤ 60 := Nat.le_of_dvd (by decide) hL60
    have hLpos : 0 < lcmF o 5 0 1 := Nat.pos_of_dvd_of_pos hL60 (by decide)
    have hX : ∀ (m A f : Nat), A + m = lcmF o 5 0 1 → 1 ≤ A → m < f → X4_roundsOfWords_L2 F f (nI A) tx = some (nI (lcmF o 5 0 1), tx) := by
      intro m
      induction m with
      | zero =>
        intro A f hA h1 hf
        obtain ⟨g, rfl, -⟩ := fuel hf
        have hd := ((lcmF_dvd o A 5 0 1).mp ⟨1, by omega⟩).2
        conv => lhs; unfold X4_roundsOfWords_L2
        rw [if_neg (show ¬ (60 : Int32) < nI A by rw [lit_lt' (by decide) (by omega)]; omega)]
        have := all_X (F := F) (A := A) (o := o) (tx := tx) (self := X4_roundsOfWords_L2 F g) (by omega) ho15 hr 5 0 F true (by decide) (by omega)
        rw [bI_t rfl, Bool.true_and, if_pos hd] at this
        rw [show X4_roundsOfWords_L12 F (X4_roundsOfWords_L2 F g) F (nI A) 1 0 tx = _ from this, show A = lcmF o 5 0 1 by omega]
      | succ m ih =>
        intro A f hA h1 hf
        obtain ⟨g, rfl, -⟩ := fuel hf
        have hd : ¬ dvA o A 5 0 = true := fun z => by
          have := Nat.le_of_dvd (by omega) ((lcmF_dvd o A 5 0 1).mpr ⟨Nat.one_dvd _, z⟩)
          omega
        conv => lhs; unfold X4_roundsOfWords_L2
        rw [if_neg (show ¬ (60 : Int32) < nI A by rw [lit_lt' (by decide) (by omega)]; omega)]
        have := all_X (F := F) (A := A) (o := o) (tx := tx) (self := X4_roundsOfWords_L2 F g) (by omega) ho15 hr 5 0 F true (by decide) (by omega)
        rw [bI_t rfl, Bool.true_and, if_neg hd] at this
        rw [show X4_roundsOfWords_L12 F (X4_roundsOfWords_L2 F g) F (nI A) 1 0 tx = _ from this]
        exact ih (A + 1) g (by omega) (by omega) (by omega)
    have hM1 : ∀ (m j k f acc : Nat) (self : Int32 → Int32 → Tau → Option (Int32 × Tau)), k < 5 → j + m = o k → 1 ≤ j → m < f → acc ∣ 60 → X11_word_L41 F self f (nI acc) (nI k) (nI j) (nI (itN p j k)) tm = self (nI (Nat.lcm acc (o k))) (nI (k + 1)) tm := by
      intro m
      induction m with
      | zero =>
        intro j k f acc self hk hj h1 hf ha
        obtain ⟨g, rfl, -⟩ := fuel hf
        obtain ⟨o1, o5, o6, o7⟩ := ho k hk
        have ale : acc ≤ 60 := Nat.le_of_dvd (by decide) ha
        have apos : 0 < acc := Nat.pos_of_dvd_of_pos ha (by decide)
        have hj2 : j = o k := by omega
        have gpos : 0 < Nat.gcd acc (o k) := Nat.gcd_pos_of_pos_left _ apos
        have gle : Nat.gcd acc (o k) ≤ acc := Nat.gcd_le_left _ apos
        have hg : X11_common F (nI acc) (nI (o k)) tm = some (nI (Nat.gcd acc (o k)), tm) := gcd_M 10 acc (o k) F (gcN_gcd 10 _ _ (by omega)) (by omega) (by omega) (by omega)
        conv => lhs; unfold X11_word_L41
        rw [hj2, o6, if_pos rfl, hg, cal_some, if_neg (show ¬ nI (Nat.gcd acc (o k)) = 0 by rw [show (0 : Int32) = nI 0 from rfl, nI_eq (by omega) (by omega)]; omega), nI_div (by omega) gpos (by omega), nI_mul, litA']
        have : acc / Nat.gcd acc (o k) * o k = Nat.lcm acc (o k) := by
          unfold Nat.lcm
          rw [Nat.div_mul_right_comm (Nat.gcd_dvd_left _ _)]
        rw [this]
      | succ m ih =>
        intro j k f acc self hk hj h1 hf ha
        obtain ⟨g, rfl, -⟩ := fuel hf
        obtain ⟨o1, o5, o6, o7⟩ := ho k hk
        have hl := itN_lt p1 hk j
        conv => lhs; unfold X11_word_L41
        rw [if_neg (show ¬ nI (itN p j k) = nI k by rw [nI_eq (by omega) (by omega)]; exact o7 j h1 (by omega)), (p3 _ hl).2, cal_some, litA']
        exact ih (j + 1) k g acc self hk (by omega) (by omega) (by omega) ha
    have hM2 : ∀ (m i f acc : Nat), i + m = 5 → m < f → acc ∣ 60 → X11_word_L26 F f (nI acc) (nI i) tm = some (nI (lcmF o m i acc), tm) := by
      intro m
      induction m with
      | zero =>
        intro i f acc him hf _
        obtain ⟨g, rfl, -⟩ := fuel hf
        have : i = 5 := by omega
        subst this
        unfold X11_word_L26
        rw [if_pos (by decide)]
        rfl
      | succ m ih =>
        intro i f acc him hf ha
        obtain ⟨g, rfl, -⟩ := fuel hf
        obtain ⟨o1, o5⟩ := ho15 i (by omega)
        conv => lhs; unfold X11_word_L26
        rw [if_neg (by rw [lit_le' (by decide) (by omega)]; omega), (p3 i (by omega)).2, cal_some]
        rw [show X11_word_L41 F (X11_word_L26 F g) F (nI acc) (nI i) 1 (nI (p i)) tm = _ from hM1 (o i - 1) 1 i F acc (X11_word_L26 F g) (by omega) (by omega) (by decide) (by omega) ha]
        refine ih (i + 1) g _ (by omega) (by omega) (Nat.lcm_dvd ha ?_)
        have : ∀ v, v < 6 → 1 ≤ v → v ∣ 60 := by decide
        exact this _ (by omega) o1
    unfold X4_roundsOfWords
    rw [show X4_roundsOfWords_L2 F F 1 tx = _ from hX (lcmF o 5 0 1 - 1) 1 F (by omega) (by decide) (by omega), cal_some]
    exact ok _ _ _ rfl (hM2 5 0 F 1 (by decide) (by omega) (by decide))
  · rw [if_neg c, if_neg c]
    by_cases g : (0 : Int32) ≤ a1 ∧ a1 ≤ 4
    · obtain ⟨k, -, k4, rfl⟩ := in_ex (lo := 0) (hi := 4) g (by decide) (by decide)
      rw [bI_t g, if_neg n10, if_neg n10, (p3 k (by omega)).1, cal_some, (p3 k (by omega)).2, cal_some]
      exact ok _ _ _ rfl rfl
    · rw [bI_f g, if_pos rfl, if_pos rfl]
      exact ok _ _ _ rfl rfl
