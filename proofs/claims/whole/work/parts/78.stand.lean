/-! PURE PART. Steps: stand, feed -/
def lkL : Nat → Nat → Nat → Nat
  | 0, _, acc => acc
  | m + 1, i, acc => lkL m (i + 1) (acc + 27720 / i)
def lkN (k n : Nat) : Nat := if k = 0 then 27720 else k * lkL (n - k) k 0
def gcN : Nat → Nat → Nat → Option Nat
  | 0, _, _ => none
  | m + 1, a, b => if b = 0 then some a else gcN m b (a % b)
theorem lk_fin : ∀ n, n < 13 → ∀ k, k < n → lkN k n < 2 ^ 31 ∧ ∃ g, gcN 60 (lkN k n) (n * 27720) = some g ∧ 1 ≤ g ∧ g < 2 ^ 31 := by
  have : ∀ n, n < 13 → ∀ k, k < n → lkN k n < 2 ^ 31 ∧ (match gcN 60 (lkN k n) (n * 27720) with | some g => decide (1 ≤ g ∧ g < 2 ^ 31) | none => false) = true := by decide +kernel
  intro n hn k hk
  obtain ⟨h1, h2⟩ := this n hn k hk
  refine ⟨h1, ?_⟩
  revert h2
  cases gcN 60 (lkN k n) (n * 27720) with
  | none => exact fun h => absurd h (by decide)
  | some g => exact fun h => ⟨g, rfl, of_decide_eq_true h⟩
theorem luck_X {F k n : Nat} {τ : Tau} (hn : n ≤ 12) : ∀ (m i f acc : Nat), i + m = n → 1 ≤ i → m < f → X4_standChance_L13 F f (nI k) (nI n) (nI acc) (nI i) τ = some (nI (k * lkL m i acc), τ) := by
  intro m
  induction m with
  | zero =>
    intro i f acc him hi hf
    obtain ⟨g, rfl, -⟩ := fuel hf
    unfold X4_standChance_L13
    rw [if_pos (nI_le (by omega) (by omega)), nI_mul]
    rfl
  | succ m ih =>
    intro i f acc him hi hf
    obtain ⟨g, rfl, -⟩ := fuel hf
    conv => lhs; unfold X4_standChance_L13
    unfold X4_standChance_j35
    rw [if_neg (nI_ge (by omega) (by omega)), if_neg (show ¬ nI i ≤ 0 by rw [show (0 : Int32) = nI 0 from rfl, nI_leI (by omega) (by omega)]; omega), if_neg (show ¬ nI i = 0 by rw [show (0 : Int32) = nI 0 from rfl, nI_eq (by omega) (by omega)]; omega), show (27720 : Int32) = nI 27720 from rfl, nI_div (by decide) (by omega) (by omega), nI_add, litA', ih (i + 1) g _ (by omega) (by omega) (by omega)]
    rfl
theorem luck_M {F k n : Nat} {τ : Tau} (hn : n ≤ 12) : ∀ (m i f acc : Nat), i + m = n → 1 ≤ i → m < f → X11_luck_L12 F f (nI k) (nI n) (nI acc) (nI i) τ = some (nI (k * lkL m i acc), τ) := by
  intro m
  induction m with
  | zero =>
    intro i f acc him hi hf
    obtain ⟨g, rfl, -⟩ := fuel hf
    unfold X11_luck_L12
    rw [if_pos (nI_le (by omega) (by omega)), nI_mul]
    rfl
  | succ m ih =>
    intro i f acc him hi hf
    obtain ⟨g, rfl, -⟩ := fuel hf
    conv => lhs; unfold X11_luck_L12
    rw [if_neg (nI_ge (by omega) (by omega)), if_neg (show ¬ nI i = 0 by rw [show (0 : Int32) = nI 0 from rfl, nI_eq (by omega) (by omega)]; omega), show (27720 : Int32) = nI 27720 from rfl, nI_div (by decide) (by omega) (by omega), nI_add, litA', ih (i + 1) g _ (by omega) (by omega) (by omega)]
    rfl
theorem chance_X {F k n : Nat} {τ : Tau} (hF : 5000 ≤ F) (hn : n ≤ 12) (hk : k < n) : X4_standChance F (nI k) (nI n) τ = some (nI (lkN k n), τ) := by
  unfold X4_standChance lkN
  by_cases e : k = 0
  · rw [if_pos e, if_pos (by subst e; rfl)]; rfl
  · rw [if_neg e, if_neg (show ¬ nI k = 0 by rw [show (0 : Int32) = nI 0 from rfl, nI_eq (by omega) (by omega)]; exact e)]
    exact luck_X hn (n - k) k F 0 (by omega) (by omega) (by omega)
theorem chance_M {F k n : Nat} {τ : Tau} (hF : 5000 ≤ F) (hn : n ≤ 12) (hk : k < n) : X11_luck F (nI k) (nI n) τ = some (nI (lkN k n), τ) := by
  unfold X11_luck lkN
  by_cases e : k = 0
  · rw [if_pos e, if_pos (by subst e; rfl)]; rfl
  · rw [if_neg e, if_neg (show ¬ nI k = 0 by rw [show (0 : Int32) = nI 0 from rfl, nI_eq (by omega) (by omega)]; exact e)]
    exact luck_M hn (n - k) k F 0 (by omega) (by omega) (by omega)
theorem gcd_X {F g : Nat} {τ : Tau} : ∀ (m a b s f : Nat), gcN m a b = some g → a < 2 ^ 31 → b < 2 ^ 31 → s + m ≤ 100 → m < f → X4_commonPart_L8 F f (nI a) (nI b) (nI s) τ = some (nI g, τ) := by
  intro m
  induction m with
  | zero => intro a b s f h; exact absurd h (by unfold gcN; exact fun z => nomatch z)
  | succ m ih =>
    intro a b s f h ha hb hs hf
    obtain ⟨gx, rfl, -⟩ := fuel hf
    unfold gcN at h
    conv => lhs; unfold X4_commonPart_L8
    rw [if_neg (show ¬ (100 : Int32) ≤ nI s by rw [lit_le' (by decide) (by omega)]; omega)]
    by_cases e : b = 0
    · subst e
      rw [if_pos rfl] at h
      rw [if_pos (by decide), Option.some.inj h]
    · rw [if_neg e] at h
      rw [if_neg (show ¬ nI b ≤ 0 by rw [show (0 : Int32) = nI 0 from rfl, nI_leI hb (by omega)]; omega), if_neg (show ¬ nI b = 0 by rw [show (0 : Int32) = nI 0 from rfl, nI_eq hb (by omega)]; exact e), nI_rmd ha (by omega) hb, litA']
      exact ih b (a % b) (s + 1) gx h hb (by have := Nat.mod_lt a (show b > 0 by omega); omega) (by omega) (by omega)
theorem gcd_M {F g : Nat} {τ : Tau} : ∀ (m a b f : Nat), gcN m a b = some g → a < 2 ^ 31 → b < 2 ^ 31 → m < f → X11_common_L4 F f (nI a) (nI b) τ = some (nI g, τ) := by
  intro m
  induction m with
  | zero => intro a b f h; exact absurd h (by unfold gcN; exact fun z => nomatch z)
  | succ m ih =>
    intro a b f h ha hb hf
    obtain ⟨gx, rfl, -⟩ := fuel hf
    unfold gcN at h
    conv => lhs; unfold X11_common_L4
    by_cases e : b = 0
    · subst e
      rw [if_pos rfl] at h
      rw [if_pos (by decide), Option.some.inj h]
    · rw [if_neg e] at h
      have hne : ¬ nI b = 0 := by rw [show (0 : Int32) = nI 0 from rfl, nI_eq hb (by omega)]; exact e
      rw [if_neg hne, if_neg hne, nI_rmd ha (by omega) hb]
      exact ih b (a % b) gx h hb (by have := Nat.mod_lt a (show b > 0 by omega); omega) (by omega)
theorem stand_best {F N : Nat} {tx tm : Tau} (hF : 5000 ≤ F) (hN : N ≤ 12) : ∀ (m i b fx fm : Nat), i + m = N → b < N → m < fx → m < fm → ∃ v, X4_bestStand_L4 F fx (nI N) (nI b) (nI i) tx = some (v, tx) ∧ X11_stand_L48 F fm (nI N) (nI b) (nI i) tm = some (v, tm) := by
  intro m
  induction m with
  | zero =>
    intro i b fx fm him hb hfx hfm
    obtain ⟨gx, rfl, -⟩ := fuel hfx
    obtain ⟨gm, rfl, -⟩ := fuel hfm
    unfold X4_bestStand_L4 X11_stand_L48
    rw [if_pos (nI_le (by omega) (by omega)), if_pos (nI_le (by omega) (by omega))]
    exact ⟨_, rfl, rfl⟩
  | succ m ih =>
    intro i b fx fm him hb hfx hfm
    obtain ⟨gx, rfl, -⟩ := fuel hfx
    obtain ⟨gm, rfl, -⟩ := fuel hfm
    unfold X4_bestStand_L4 X11_stand_L48 X4_bestStand_j26 X11_stand_j76
    rw [if_neg (nI_ge (by omega) (by omega)), if_neg (nI_ge (by omega) (by omega)), chance_X hF hN (by omega), cal_some, chance_X hF hN hb, cal_some, chance_M hF hN (by omega), cal_some, chance_M hF hN hb, cal_some, litA']
    by_cases e : nI (lkN i N) ≤ nI (lkN b N)
    · rw [if_pos e, if_pos e]
      exact ih (i + 1) b gx gm (by omega) hb (by omega) (by omega)
    · rw [if_neg e, if_neg e]
      exact ih (i + 1) i gx gm (by omega) (by omega) (by omega) (by omega)
theorem step26 (F : Nat) (hF : 5000 ≤ F) : Step26 F Rl := by
  intro n tx tm a1 a2 a3 _ h
  have ok : ∀ (v : Int32) (x m : Option (Int32 × Tau)), x = some (v, tx) → m = some (v, tm) → ∃ r tx' tm', x = some (r, tx') ∧ m = some (r, tm') ∧ Rl (n + 1) tx' tm' := fun v x m e1 e2 => ⟨v, tx, tm, e1, e2, Rl_mono n tx tm h⟩
  unfold X10_stand X11_stand X11_stand_j37 X10_stand_j90
  rw [X10_within_eq, cal_some, X11_isIn_eq, cal_some]
  by_cases p1 : (1 : Int32) ≤ a1 ∧ a1 ≤ 12
  · obtain ⟨N, N1, N2, rfl⟩ := in_ex (lo := 1) (hi := 12) p1 (by decide) (by decide)
    rw [bI_t p1, if_neg n10, if_neg n10, X10_within_eq, cal_some, X11_isIn_eq, cal_some]
    by_cases p3 : (0 : Int32) ≤ a3 ∧ a3 ≤ 2
    · obtain ⟨c, c1, c2, rfl⟩ := in_ex (lo := 0) (hi := 2) p3 (by decide) (by decide)
      rw [bI_t p3, if_neg n10, if_neg n10]
      by_cases e : c = 2
      · subst e
        obtain ⟨v, x, m⟩ := stand_best (F := F) (tx := tx) (tm := tm) hF N2 (N - 1) 1 0 F F (by omega) (by omega) (by omega) (by omega)
        unfold X4_bestStand
        rw [if_pos (by decide), if_pos (by decide), show X4_bestStand_L4 F F (nI N) 0 1 tx = some (v, tx) from x, cal_some, if_pos (by decide), show X11_stand_L48 F F (nI N) 0 1 tm = some (v, tm) from m]
        exact ok _ _ _ rfl rfl
      · have ne2 : ¬ nI c = 2 := by rw [lit_eq (by decide) (by omega)]; exact e
        rw [if_neg ne2, if_neg (show ¬ (2 : Int32) ≤ nI c by rw [lit_le' (by decide) (by omega)]; omega), litS (show (1 : Nat) ≤ N by omega), X10_within_eq, cal_some, X11_isIn_eq, cal_some]
        by_cases p2 : (0 : Int32) ≤ a2 ∧ a2 ≤ nI (N - 1)
        · obtain ⟨k, k1, k2, rfl⟩ := in_ex (lo := 0) (hi := N - 1) p2 (by decide) (by omega)
          obtain ⟨l1, g, g1, g2, g3⟩ := lk_fin N (by omega) k (by omega)
          have hN : nI N * 27720 = nI (N * 27720) := nI_mul N 27720
          have hX : X4_commonPart F (nI (lkN k N)) (nI (N * 27720)) tx = some (nI g, tx) := gcd_X 60 _ _ 0 F g1 l1 (by omega) (by decide) (by omega)
          have hM : X11_common F (nI (lkN k N)) (nI (N * 27720)) tm = some (nI g, tm) := gcd_M 60 _ _ F g1 l1 (by omega) (by omega)
          have hg : imax 1 (nI g) = nI g := by rw [show (1 : Int32) = nI 1 from rfl, nI_imax (by decide) g3, Nat.max_eq_right g2]
          have g0 : ¬ nI g = 0 := by rw [show (0 : Int32) = nI 0 from rfl, nI_eq g3 (by omega)]; omega
          rw [bI_t p2, if_neg n10, if_neg n10, if_neg ne2, chance_X hF N2 (by omega), cal_some, chance_M hF N2 (by omega), cal_some, hN, hX, cal_some, hM, cal_some, hg, if_neg g0, if_neg g0, if_neg g0]
          by_cases z : nI c = 0
          · rw [if_pos z, if_pos z, chance_M hF N2 (by omega), cal_some, if_neg g0]
            exact ok _ _ _ rfl rfl
          · rw [if_neg z, if_neg z]
            exact ok _ _ _ rfl rfl
        · rw [bI_f p2, if_pos rfl, if_pos rfl]
          exact ok _ _ _ rfl rfl
    · rw [bI_f p3, if_pos rfl, if_pos rfl]
      exact ok _ _ _ rfl rfl
  · rw [bI_f p1, if_pos rfl, if_pos rfl]
    exact ok _ _ _ rfl rfl
