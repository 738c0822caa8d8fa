/-! PURE PART. Steps: weights, tables, worths, hats, loads, promises, borders told -/
theorem X10_put_any {F t0 N : Nat} {a v : Int32} {τ : Tau} {can : Prop} [Decidable can] (hN : lnX t0 = N) (h2 : N < 2 ^ 31) : X10_put F t0 a v (bI can) τ = (if can ∧ 0 ≤ a ∧ a < nI N then some (1, up τ t0 (ix a) v) else some (0, τ)) := by
  by_cases c : can
  · rw [bI_t c]
    by_cases p : 0 ≤ a ∧ a < nI N
    · obtain ⟨j, hj, rfl⟩ := has_ex p h2
      rw [X10_put_in hN hj h2, if_pos ⟨c, p⟩, ix_nI (by omega)]
    · rw [X10_put_out hN h2 ?_, if_neg (fun z => p z.2)]
      by_cases q : a < 0
      · exact .inl q
      · exact .inr (i32_nlt.mp (fun z => p ⟨i32_nlt.mp q, z⟩))
  · rw [bI_f c, X10_put_0, if_neg (fun z => c z.1)]
theorem cel_out {c a n m : Nat} {tx : Tau} {w : Nat → Int32} (hc : (15 ≤ c ∧ c ≤ 43)) (hl : n ≤ lim c) (ha : 257 ≤ a ∧ a + n ≤ 760) (h : Rcel c a n m (rsX c c (vX 1 tx)) (rsM a (a + n) (vM w))) : ∀ k, k < n → ∃ v, v ≤ m ∧ tx (1 + c) k = nI v ∧ w (a + k) = nI v := by
  intro k hk
  have := h k hk
  rw [rsX_at (by omega), vX_at (by omega) (by omega), rsM_at (by omega), vM_at (by omega)] at this
  exact this
theorem cel_in {c a n m : Nat} {tx : Tau} {w : Nat → Int32} (hc : (15 ≤ c ∧ c ≤ 43)) (hl : n ≤ lim c) (ha : 257 ≤ a ∧ a + n ≤ 760) (h : ∀ k, k < n → ∃ v, v ≤ m ∧ tx (1 + c) k = nI v ∧ w (a + k) = nI v) : Rcel c a n m (rsX c c (vX 1 tx)) (rsM a (a + n) (vM w)) := by
  intro k hk
  rw [rsX_at (by omega), vX_at (by omega) (by omega), rsM_at (by omega), vM_at (by omega)]
  exact h k hk
theorem cel_up {C a n m j v : Nat} {tx tm : Tau} (hv : v ≤ m) (h : ∀ k, k < n → ∃ v, v ≤ m ∧ tx C k = nI v ∧ tm 1 (a + k) = nI v) : ∀ k, k < n → ∃ u, u ≤ m ∧ up tx C j (nI v) C k = nI u ∧ up tm 1 (a + j) (nI v) 1 (a + k) = nI u := by
  intro k hk
  by_cases e : k = j
  · subst e
    exact ⟨v, hv, up_c, up_c⟩
  · rw [up_nj e, up_nj (by omega)]
    exact h k hk
theorem step17 (F : Nat) : Step17 F Rl := by
  intro n tx tm a1 a2 _ h
  obtain ⟨nP, nM, q, hP⟩ := h.pc
  have hd := hP.1.2.2.2.2.2.2.2.2.1
  have ho := cel_out (c := 33) (by decide) (by decide) (by decide) hd.2.2.2.2.2.2.2.2.2.2.2.2.2.2.1
  unfold X10_weighs X11_weighs
  rw [X10_within_eq, cal_some, X10_put_any (N := 12) rfl (by decide), X11_isIn_eq, cal_some]
  by_cases p : (0 : Int32) ≤ a1 ∧ a1 ≤ 11
  · obtain ⟨j, j1, j2, rfl⟩ := in_ex (lo := 0) (hi := 11) p (by decide) (by decide)
    rw [bI_t p, if_neg n10, X11_isIn_eq, cal_some]
    by_cases g : (0 : Int32) ≤ a2 ∧ a2 ≤ 99
    · obtain ⟨v, v1, v2, rfl⟩ := in_ex (lo := 0) (hi := 99) g (by decide) (by decide)
      rw [bI_t g, if_neg n10, if_pos ⟨g, nI_has (by omega) (by decide)⟩, ix_nI (by omega), cal_some, nar1, litA, ast_nI (by omega) (by omega)]
      exact ⟨1, _, _, rfl, rfl, Rl.tell hP (fun c j hc => up_nc (by omega)) (fun c j hc => up_nc hc) (fun k hk => up_nj (by omega)) (Wd0_rep15 hd (vX_ne (fun c j hc => up_nc (by omega))) (vM_ne (fun k hk => up_nj (by omega))) (cel_in (by decide) (by decide) (by decide) (cel_up (by omega) ho)))⟩
    · rw [bI_f g, if_pos rfl, if_neg (fun z => g z.1), cal_some, nar0]
      exact ⟨0, tx, tm, rfl, rfl, Rl_mono n tx tm h⟩
  · rw [bI_f p, if_pos rfl, if_neg, cal_some, nar0]
    · exact ⟨0, tx, tm, rfl, rfl, Rl_mono n tx tm h⟩
    · rintro ⟨-, z⟩
      obtain ⟨j, hj, rfl⟩ := has_ex z (by decide)
      exact p ((in_iff (lo := 0) (hi := 11) (by decide) (by omega) (by decide)).mpr ⟨by omega, by omega⟩)
theorem step33 (F : Nat) : Step33 F Rl := by
  intro n tx tm a1 a2 _ h
  obtain ⟨nP, nM, q, hP⟩ := h.pc
  have hd := hP.1.2.2.2.2.2.2.2.2.1
  have ho := cel_out (c := 37) (by decide) (by decide) (by decide) hd.2.2.2.2.2.2.2.2.2.2.2.2.2.2.2.2.2
  unfold X10_hat X11_hat
  rw [X10_within_eq, cal_some, X10_put_any (N := 8) rfl (by decide), X11_isIn_eq, cal_some]
  by_cases p : (0 : Int32) ≤ a1 ∧ a1 ≤ 7
  · obtain ⟨j, j1, j2, rfl⟩ := in_ex (lo := 0) (hi := 7) p (by decide) (by decide)
    rw [bI_t p, if_neg n10, X11_isIn_eq, cal_some]
    by_cases g : (0 : Int32) ≤ a2 ∧ a2 ≤ 255
    · obtain ⟨v, v1, v2, rfl⟩ := in_ex (lo := 0) (hi := 255) g (by decide) (by decide)
      rw [bI_t g, if_neg n10, if_pos ⟨g, nI_has (by omega) (by decide)⟩, ix_nI (by omega), cal_some, nar1, litA, ast_nI (by omega) (by omega)]
      exact ⟨1, _, _, rfl, rfl, Rl.tell hP (fun c j hc => up_nc (by omega)) (fun c j hc => up_nc hc) (fun k hk => up_nj (by omega)) (Wd0_rep18 hd (vX_ne (fun c j hc => up_nc (by omega))) (vM_ne (fun k hk => up_nj (by omega))) (cel_in (by decide) (by decide) (by decide) (cel_up (by omega) ho)))⟩
    · rw [bI_f g, if_pos rfl, if_neg (fun z => g z.1), cal_some, nar0]
      exact ⟨0, tx, tm, rfl, rfl, Rl_mono n tx tm h⟩
  · rw [bI_f p, if_pos rfl, if_neg, cal_some, nar0]
    · exact ⟨0, tx, tm, rfl, rfl, Rl_mono n tx tm h⟩
    · rintro ⟨-, z⟩
      obtain ⟨j, hj, rfl⟩ := has_ex z (by decide)
      exact p ((in_iff (lo := 0) (hi := 7) (by decide) (by omega) (by decide)).mpr ⟨by omega, by omega⟩)
theorem step27 (F : Nat) : Step27 F Rl := by
  intro n tx tm a1 a2 a3 _ h
  obtain ⟨nP, nM, q, hP⟩ := h.pc
  have hd := hP.1.2.2.2.2.2.2.2.2.1
  have ho := cel_out (c := 36) (by decide) (by decide) (by decide) hd.2.2.2.2.2.2.2.2.2.2.2.2.2.2.2.2.1
  have no : ∀ (x m : Option (Int32 × Tau)), x = some (0, tx) → m = some (0, tm) → ∃ r tx' tm', x = some (r, tx') ∧ m = some (r, tm') ∧ Rl (n + 1) tx' tm' := fun x m e1 e2 => ⟨0, tx, tm, e1, e2, Rl_mono n tx tm h⟩
  unfold X10_worth X10_worth_j22 X10_worth_j23 X11_worth
  rw [X10_within_eq, cal_some, X11_isIn_eq, cal_some]
  by_cases p : (0 : Int32) ≤ a1 ∧ a1 ≤ 5
  · obtain ⟨i, i1, i2, rfl⟩ := in_ex (lo := 0) (hi := 5) p (by decide) (by decide)
    rw [bI_t p, if_neg n10, if_neg n10, X10_within_eq, cal_some, X11_isIn_eq, cal_some]
    by_cases p2 : (0 : Int32) ≤ a2 ∧ a2 ≤ 5
    · obtain ⟨j, j1, j2, rfl⟩ := in_ex (lo := 0) (hi := 5) p2 (by decide) (by decide)
      rw [bI_t p2, if_neg n10, if_neg n10, if_neg n10, X10_within_eq, cal_some, X11_isIn_eq, cal_some, litM, nI_add, X10_put_any (N := 36) rfl (by decide)]
      by_cases g : (0 : Int32) ≤ a3 ∧ a3 ≤ 99
      · obtain ⟨v, v1, v2, rfl⟩ := in_ex (lo := 0) (hi := 99) g (by decide) (by decide)
        rw [bI_t g, if_neg n10, if_pos ⟨g, nI_has (by omega) (by decide)⟩, ix_nI (by omega), cal_some, if_neg n10, litA, nI_add, ast_nI (by omega) (by omega), Nat.add_assoc]
        exact ⟨1, _, _, rfl, rfl, Rl.tell hP (fun c j hc => up_nc (by omega)) (fun c j hc => up_nc hc) (fun k hk => up_nj (by omega)) (Wd0_rep17 hd (vX_ne (fun c j hc => up_nc (by omega))) (vM_ne (fun k hk => up_nj (by omega))) (cel_in (by decide) (by decide) (by decide) (cel_up (by omega) ho)))⟩
      · rw [bI_f g, if_pos rfl, if_neg (fun z => g z.1), cal_some, if_pos rfl]
        exact no _ _ rfl rfl
    · rw [bI_f p2, if_pos rfl, if_pos rfl, if_pos rfl]
      exact no _ _ rfl rfl
  · rw [bI_f p, if_pos rfl, if_pos rfl, if_pos rfl]
    exact no _ _ rfl rfl
theorem tab_out {tx : Tau} {w : Nat → Int32} (h : Rtab (rsX 34 35 (vX 1 tx)) (rsM 554 572 (vM w))) : ∀ k, k < 9 → tx 35 k = w (554 + k) ∧ tx 36 k = w (563 + k) ∧ -9 ≤ (w (554 + k)).toInt ∧ (w (554 + k)).toInt ≤ 9 ∧ -9 ≤ (w (563 + k)).toInt ∧ (w (563 + k)).toInt ≤ 9 := by
  intro k hk
  have := h k hk
  rw [rsX_at (by omega), vX_at (by omega) (by show k < 9; omega), rsX_at (by omega), vX_at (by omega) (by show k < 9; omega), rsM_at (by omega), vM_at (by omega), rsM_at (by omega), vM_at (by omega)] at this
  exact this
theorem tab_in {tx : Tau} {w : Nat → Int32} (h : ∀ k, k < 9 → tx 35 k = w (554 + k) ∧ tx 36 k = w (563 + k) ∧ -9 ≤ (w (554 + k)).toInt ∧ (w (554 + k)).toInt ≤ 9 ∧ -9 ≤ (w (563 + k)).toInt ∧ (w (563 + k)).toInt ≤ 9) : Rtab (rsX 34 35 (vX 1 tx)) (rsM 554 572 (vM w)) := by
  intro k hk
  rw [rsX_at (by omega), vX_at (by omega) (by show k < 9; omega), rsX_at (by omega), vX_at (by omega) (by show k < 9; omega), rsM_at (by omega), vM_at (by omega), rsM_at (by omega), vM_at (by omega)]
  exact h k hk
theorem step24 (F : Nat) : Step24 F Rl := by
  intro n tx tm a1 a2 a3 _ h
  obtain ⟨nP, nM, q, hP⟩ := h.pc
  have hd := hP.1.2.2.2.2.2.2.2.2.1
  have ho := tab_out hd.2.2.2.2.2.2.2.2.2.2.2.2.2.2.2.1
  have no : ∀ (x m : Option (Int32 × Tau)), x = some (0, tx) → m = some (0, tm) → ∃ r tx' tm', x = some (r, tx') ∧ m = some (r, tm') ∧ Rl (n + 1) tx' tm' := fun x m e1 e2 => ⟨0, tx, tm, e1, e2, Rl_mono n tx tm h⟩
  have out9 : ¬ ((0 : Int32) ≤ a2 ∧ a2 ≤ 8) → ¬ ((0 : Int32) ≤ a2 ∧ a2 < nI 9) := fun p z => by
    obtain ⟨j, hj, rfl⟩ := has_ex z (by decide)
    exact p ((in_iff (lo := 0) (hi := 8) (by decide) (by omega) (by decide)).mpr ⟨by omega, by omega⟩)
  have rng : ((-9 : Int32) ≤ a3 ∧ a3 ≤ 9) → -9 ≤ a3.toInt ∧ a3.toInt ≤ 9 := fun z => by
    have i9 : (-9 : Int32).toInt = -9 := by decide
    have j9 : (9 : Int32).toInt = 9 := by decide
    rw [Int32.le_iff_toInt_le, Int32.le_iff_toInt_le, i9, j9] at z
    exact z
  unfold X10_table X11_table
  rw [X10_within_eq, cal_some, X11_isIn_eq, cal_some]
  by_cases c0 : a1 = 0
  · rw [if_pos c0, X10_put_any (t0 := 35) (N := 9) rfl (by decide)]
    subst c0
    rw [bI_t (show (0 : Int32) ≤ 0 ∧ (0 : Int32) ≤ 1 by decide), if_neg n10, X11_isIn_eq, cal_some]
    by_cases p2 : (0 : Int32) ≤ a2 ∧ a2 ≤ 8
    · obtain ⟨j, j1, j2, rfl⟩ := in_ex (lo := 0) (hi := 8) p2 (by decide) (by decide)
      rw [bI_t p2, if_neg n10, X11_isIn_eq, cal_some, show (554 : Int32) + 9 * 0 = nI 554 by decide, nI_add]
      by_cases g : (-9 : Int32) ≤ a3 ∧ a3 ≤ 9
      · have gi := rng g
        rw [bI_t g, if_neg n10, if_pos ⟨g, nI_has (show j < 9 by omega) (by decide)⟩, ix_nI (by omega), cal_some, nar1, ast_nI (by omega) (by omega)]
        refine ⟨1, _, _, rfl, rfl, Rl.tell hP (fun c j hc => up_nc (by omega)) (fun c j hc => up_nc hc) (fun k hk => up_nj (by omega)) (Wd0_rep16 hd (vX_ne (fun c j hc => up_nc (by omega))) (vM_ne (fun k hk => up_nj (by omega))) (tab_in (fun k hk => ?_)))⟩
        obtain ⟨b1, b2, b3, b4, b5, b6⟩ := ho k hk
        rw [up_nc (show (36 : Nat) ≠ 35 by decide), up_nj (show 563 + k ≠ 554 + j by omega)]
        by_cases e : k = j
        · subst e
          rw [up_c, up_c]
          exact ⟨rfl, b2, gi.1, gi.2, b5, b6⟩
        · rw [up_nj e, up_nj (by omega)]
          exact ⟨b1, b2, b3, b4, b5, b6⟩
      · rw [bI_f g, if_pos rfl, if_neg (fun z => g z.1), cal_some, nar0]
        exact no _ _ rfl rfl
    · rw [bI_f p2, if_pos rfl, if_neg (fun z => out9 p2 z.2), cal_some, nar0]
      exact no _ _ rfl rfl
  · rw [if_neg c0]
    by_cases c1 : a1 = 1
    · rw [if_pos c1, X10_put_any (t0 := 36) (N := 9) rfl (by decide)]
      subst c1
      rw [bI_t (show (0 : Int32) ≤ 1 ∧ (1 : Int32) ≤ 1 by decide), if_neg n10, X11_isIn_eq, cal_some]
      by_cases p2 : (0 : Int32) ≤ a2 ∧ a2 ≤ 8
      · obtain ⟨j, j1, j2, rfl⟩ := in_ex (lo := 0) (hi := 8) p2 (by decide) (by decide)
        rw [bI_t p2, if_neg n10, X11_isIn_eq, cal_some, show (554 : Int32) + 9 * 1 = nI 563 by decide, nI_add]
        by_cases g : (-9 : Int32) ≤ a3 ∧ a3 ≤ 9
        · have gi := rng g
          rw [bI_t g, if_neg n10, if_pos ⟨g, nI_has (show j < 9 by omega) (by decide)⟩, ix_nI (by omega), cal_some, nar1, ast_nI (by omega) (by omega)]
          refine ⟨1, _, _, rfl, rfl, Rl.tell hP (fun c j hc => up_nc (by omega)) (fun c j hc => up_nc hc) (fun k hk => up_nj (by omega)) (Wd0_rep16 hd (vX_ne (fun c j hc => up_nc (by omega))) (vM_ne (fun k hk => up_nj (by omega))) (tab_in (fun k hk => ?_)))⟩
          obtain ⟨b1, b2, b3, b4, b5, b6⟩ := ho k hk
          rw [up_nc (show (35 : Nat) ≠ 36 by decide), up_nj (show 554 + k ≠ 563 + j by omega)]
          by_cases e : k = j
          · subst e
            rw [up_c, up_c]
            exact ⟨b1, rfl, b3, b4, gi.1, gi.2⟩
          · rw [up_nj e, up_nj (by omega)]
            exact ⟨b1, b2, b3, b4, b5, b6⟩
        · rw [bI_f g, if_pos rfl, if_neg (fun z => g z.1), cal_some, nar0]
          exact no _ _ rfl rfl
      · rw [bI_f p2, if_pos rfl, if_neg (fun z => out9 p2 z.2), cal_some, nar0]
        exact no _ _ rfl rfl
    · rw [if_neg c1, bI_f, if_pos rfl]
      · exact no _ _ rfl rfl
      · intro z
        obtain ⟨j, j1, j2, rfl⟩ := in_ex (lo := 0) (hi := 1) z (by decide) (by decide)
        have : j = 0 ∨ j = 1 := by omega
        rcases this with rfl | rfl
        · exact c0 rfl
        · exact c1 rfl
theorem step29 (F : Nat) : Step29 F Rl := by
  intro n tx tm a1 a2 _ h
  obtain ⟨nP, nM, q, hP⟩ := h.pc
  have hd := hP.1.2.2.2.2.2.2.2.2.1
  obtain ⟨s, s1, s2, s3, s4⟩ := hd.2.2.2.2.2.2.2.2.1
  rw [rsX_at (by omega), vX_at (by omega) (by decide)] at s2
  rw [rsM_at (by omega), vM_at (by omega)] at s3
  have s5 : ∀ i, i < s → ∃ g v, 1 ≤ g ∧ g ≤ 30 ∧ v ≤ 99 ∧ tx 23 i = nI (100 * g + v) ∧ tm 1 (609 + 2 * i) = nI g ∧ tm 1 (610 + 2 * i) = nI v := fun i hi => by
    have := s4 i hi
    rw [rsX_at (by omega), vX_at (by omega) (by show i < 10; omega), rsM_at (by omega), vM_at (by omega), rsM_at (by omega), vM_at (by omega)] at this
    exact this
  replace s2 : tx 22 0 = nI s := s2
  have no : ∀ (x m : Option (Int32 × Tau)), x = some (-1, tx) → m = some (-1, tm) → ∃ r tx' tm', x = some (r, tx') ∧ m = some (r, tm') ∧ Rl (n + 1) tx' tm' := fun x m e1 e2 => ⟨-1, tx, tm, e1, e2, Rl_mono n tx tm h⟩
  have fin : ∀ (tx' tm' : Tau), (∀ c j, c < 22 ∨ 23 < c → tx' c j = tx c j) → (∀ c j, c ≠ 1 → tm' c j = tm c j) → (∀ k, k < 608 ∨ 629 ≤ k → tm' 1 k = tm 1 k) → (∃ s, s ≤ 10 ∧ tx' 22 0 = nI s ∧ tm' 1 608 = nI s ∧ ∀ i, i < s → ∃ g v, 1 ≤ g ∧ g ≤ 30 ∧ v ≤ 99 ∧ tx' 23 i = nI (100 * g + v) ∧ tm' 1 (609 + 2 * i) = nI g ∧ tm' 1 (610 + 2 * i) = nI v) → Rl (n + 1) tx' tm' := by
    rintro tx' tm' e1 e2 e3 ⟨s, t1, t2, t3, t4⟩
    refine Rl.tell hP (fun c j hc => e1 c j (by omega)) e2 (fun k hk => e3 k (by omega)) (Wd0_rep9 hd (vX_ne e1) (vM_ne e3) ⟨s, t1, ?_, ?_, fun i hi => ?_⟩)
    · rw [rsX_at (by omega), vX_at (by omega) (by decide)]; exact t2
    · rw [rsM_at (by omega), vM_at (by omega)]; exact t3
    · rw [rsX_at (by omega), vX_at (by omega) (by show i < 10; omega), rsM_at (by omega), vM_at (by omega), rsM_at (by omega), vM_at (by omega)]
      exact t4 i hi
  unfold X10_load X10_load_j24 X10_load_j25 X11_load
  by_cases e : a1 = -1
  · subst e
    unfold X5_empty X11_endsRow
    rw [X10_within_eq, cal_some, bI_f (by decide), if_pos rfl, if_pos rfl, if_pos rfl, pst_eq, cal_some, ast_lit (by decide) (by decide), cal_some]
    exact ⟨0, _, _, rfl, rfl, fin _ _ (fun c j hc => up_nc (by omega)) (fun c j hc => up_nc hc) (fun k hk => up_nj (by omega)) ⟨0, by decide, up_c, up_c, fun i hi => absurd hi (Nat.not_lt_zero i)⟩⟩
  · simp only [if_neg e]
    rw [X10_within_eq, cal_some, X11_isIn_eq, cal_some, X5_add_0]
    by_cases p : (1 : Int32) ≤ a1 ∧ a1 ≤ 30
    · obtain ⟨g, g1, g2, rfl⟩ := in_ex (lo := 1) (hi := 30) p (by decide) (by decide)
      rw [bI_t p, if_neg n10, if_neg n10, X10_within_eq, cal_some, X11_isIn_eq, cal_some]
      by_cases p2 : (0 : Int32) ≤ a2 ∧ a2 ≤ 99
      · obtain ⟨v, v1, v2, rfl⟩ := in_ex (lo := 0) (hi := 99) p2 (by decide) (by decide)
        have l : ∀ (σ : Tau) (k : Int32 → Option (Int32 × Tau)), ald σ 1 2244 608 k = k (σ 1 608) := fun σ k => ald_nI (j := 608) (by decide) (by decide)
        rw [bI_t p2, if_neg n10, if_neg n10, l, s3]
        by_cases hs : s = 10
        · subst hs
          rw [X5_add_full (cap := 10) rfl s2, cal_some, if_pos (show nI 10 = 10 from rfl)]
          exact no _ _ rfl rfl
        · rw [litM, nI_add, X5_add_in (cap := 10) rfl (by decide) s2 (by omega), cal_some, if_neg (by rw [lit_eq (by decide) (by omega)]; exact hs), l, s3, litM, litA, ast_nI (by omega) (by omega), l, up_nj (by omega), s3, litM, litA, ast_nI (by omega) (by omega), l, up_nj (by omega), up_nj (by omega), s3, litA', af 1 2244 608 608 rfl (by decide) (by decide), l, up_c]
          refine ⟨_, _, _, rfl, rfl, fin _ _ (fun c j hc => ?_) (fun c j hc => ?_) (fun k hk => ?_) ⟨s + 1, by omega, up_c, up_c, fun i hi => ?_⟩⟩
          · rw [up_nc (by omega), up_nc (by omega)]
          · rw [up_nc hc, up_nc hc, up_nc hc]
          · rw [up_nj (by omega), up_nj (by omega), up_nj (by omega)]
          · rw [up_nc (by decide)]
            by_cases ei : i = s
            · subst ei
              exact ⟨g, v, g1, g2, v2, up_c, by rw [up_nj (by omega), up_nj (by omega), up_c], by rw [up_nj (by omega), up_c]⟩
            · rw [up_nj ei, up_nj (by omega), up_nj (by omega), up_nj (by omega), up_nj (by omega), up_nj (by omega), up_nj (by omega)]
              exact s5 i (by omega)
      · rw [bI_f p2, if_pos rfl, if_pos rfl]
        first | rw [X5_add_0, cal_some] | rw [cal_some]
        exact no _ _ rfl rfl
    · rw [bI_f p, if_pos rfl, if_pos rfl]
      first | rw [X5_add_0, cal_some] | rw [cal_some]
      exact no _ _ rfl rfl
theorem step35 (F : Nat) : Step35 F Rl := by
  intro n tx tm a1 a2 _ h
  obtain ⟨nP, nM, q, hP⟩ := h.pc
  have hd := hP.1.2.2.2.2.2.2.2.2.1
  obtain ⟨s, s1, s2, s3, s4⟩ := hd.2.2.2.2.2.2.2.2.2.2.1
  rw [rsX_at (by omega), vX_at (by omega) (by decide)] at s2
  rw [rsM_at (by omega), vM_at (by omega)] at s3
  have s5 : ∀ i, i < s → ∃ a b, a < 8 ∧ b < 8 ∧ a ≠ b ∧ tx 27 i = nI (8 * a + b) ∧ tm 1 (675 + 2 * i) = nI a ∧ tm 1 (676 + 2 * i) = nI b := fun i hi => by
    have := s4 i hi
    rw [rsX_at (by omega), vX_at (by omega) (by show i < 14; omega), rsM_at (by omega), vM_at (by omega), rsM_at (by omega), vM_at (by omega)] at this
    exact this
  replace s2 : tx 26 0 = nI s := s2
  have no : ∀ (x m : Option (Int32 × Tau)), x = some (-1, tx) → m = some (-1, tm) → ∃ r tx' tm', x = some (r, tx') ∧ m = some (r, tm') ∧ Rl (n + 1) tx' tm' := fun x m e1 e2 => ⟨-1, tx, tm, e1, e2, Rl_mono n tx tm h⟩
  have fin : ∀ (tx' tm' : Tau), (∀ c j, c < 26 ∨ 27 < c → tx' c j = tx c j) → (∀ c j, c ≠ 1 → tm' c j = tm c j) → (∀ k, k < 674 ∨ 703 ≤ k → tm' 1 k = tm 1 k) → (∃ s, s ≤ 14 ∧ tx' 26 0 = nI s ∧ tm' 1 674 = nI s ∧ ∀ i, i < s → ∃ a b, a < 8 ∧ b < 8 ∧ a ≠ b ∧ tx' 27 i = nI (8 * a + b) ∧ tm' 1 (675 + 2 * i) = nI a ∧ tm' 1 (676 + 2 * i) = nI b) → Rl (n + 1) tx' tm' := by
    rintro tx' tm' e1 e2 e3 ⟨s, t1, t2, t3, t4⟩
    refine Rl.tell hP (fun c j hc => e1 c j (by omega)) e2 (fun k hk => e3 k (by omega)) (Wd0_rep11 hd (vX_ne e1) (vM_ne e3) ⟨s, t1, ?_, ?_, fun i hi => ?_⟩)
    · rw [rsX_at (by omega), vX_at (by omega) (by decide)]; exact t2
    · rw [rsM_at (by omega), vM_at (by omega)]; exact t3
    · rw [rsX_at (by omega), vX_at (by omega) (by show i < 14; omega), rsM_at (by omega), vM_at (by omega), rsM_at (by omega), vM_at (by omega)]
      exact t4 i hi
  unfold X10_border X10_border_j29 X10_border_j30 X11_border
  by_cases e : a1 = -1
  · subst e
    unfold X5_empty X11_endsRow
    rw [X10_within_eq, cal_some, bI_f (by decide), if_pos rfl, if_pos rfl, if_pos rfl, pst_eq, cal_some, ast_lit (by decide) (by decide), cal_some]
    exact ⟨0, _, _, rfl, rfl, fin _ _ (fun c j hc => up_nc (by omega)) (fun c j hc => up_nc hc) (fun k hk => up_nj (by omega)) ⟨0, by decide, up_c, up_c, fun i hi => absurd hi (Nat.not_lt_zero i)⟩⟩
  · simp only [if_neg e]
    rw [X10_within_eq, cal_some, X11_isIn_eq, cal_some, X5_add_0]
    by_cases p : (0 : Int32) ≤ a1 ∧ a1 ≤ 7
    · obtain ⟨a, g1, g2, rfl⟩ := in_ex (lo := 0) (hi := 7) p (by decide) (by decide)
      rw [bI_t p, if_neg n10, if_neg n10, X10_within_eq, cal_some, X11_isIn_eq, cal_some]
      by_cases p2 : (0 : Int32) ≤ a2 ∧ a2 ≤ 7
      · obtain ⟨b, v1, v2, rfl⟩ := in_ex (lo := 0) (hi := 7) p2 (by decide) (by decide)
        have l : ∀ (σ : Tau) (k : Int32 → Option (Int32 × Tau)), ald σ 1 2244 674 k = k (σ 1 674) := fun σ k => ald_nI (j := 674) (by decide) (by decide)
        rw [bI_t p2, if_neg n10, if_neg n10]
        by_cases hab : a = b
        · subst hab
          rw [if_pos rfl, if_pos rfl]
          first | rw [X5_add_0, cal_some] | rw [cal_some]
          exact no _ _ rfl rfl
        · have hne : ¬ nI a = nI b := fun z => hab (nI_inj (by omega) (by omega) z)
          rw [if_neg hne, if_neg hne, l, s3]
          by_cases hs : s = 14
          · subst hs
            rw [X5_add_full (cap := 14) rfl s2, cal_some, if_pos (show nI 14 = 14 from rfl)]
            exact no _ _ rfl rfl
          · rw [litM, nI_add, X5_add_in (cap := 14) rfl (by decide) s2 (by omega), cal_some, if_neg (by rw [lit_eq (by decide) (by omega)]; exact hs), l, s3, litM, litA, ast_nI (by omega) (by omega), l, up_nj (by omega), s3, litM, litA, ast_nI (by omega) (by omega), l, up_nj (by omega), up_nj (by omega), s3, litA', af 1 2244 674 674 rfl (by decide) (by decide), l, up_c]
            refine ⟨_, _, _, rfl, rfl, fin _ _ (fun c j hc => ?_) (fun c j hc => ?_) (fun k hk => ?_) ⟨s + 1, by omega, up_c, up_c, fun i hi => ?_⟩⟩
            · rw [up_nc (by omega), up_nc (by omega)]
            · rw [up_nc hc, up_nc hc, up_nc hc]
            · rw [up_nj (by omega), up_nj (by omega), up_nj (by omega)]
            · rw [up_nc (by decide)]
              by_cases ei : i = s
              · subst ei
                exact ⟨a, b, by omega, by omega, hab, up_c, by rw [up_nj (by omega), up_nj (by omega), up_c], by rw [up_nj (by omega), up_c]⟩
              · rw [up_nj ei, up_nj (by omega), up_nj (by omega), up_nj (by omega), up_nj (by omega), up_nj (by omega), up_nj (by omega)]
                exact s5 i (by omega)
      · rw [bI_f p2, if_pos rfl, if_pos rfl]
        first | rw [X5_add_0, cal_some] | rw [cal_some]
        exact no _ _ rfl rfl
    · rw [bI_f p, if_pos rfl, if_pos rfl]
      first | rw [X5_add_0, cal_some] | rw [cal_some]
      exact no _ _ rfl rfl
theorem step31 (F : Nat) : Step31 F Rl := by
  intro n tx tm a1 a2 a3 _ h
  obtain ⟨nP, nM, q, hP⟩ := h.pc
  have hd := hP.1.2.2.2.2.2.2.2.2.1
  obtain ⟨s, s1, s2, s3, s4⟩ := hd.2.2.2.2.2.2.2.2.2.1
  rw [rsX_at (by omega), vX_at (by omega) (by decide)] at s2
  rw [rsM_at (by omega), vM_at (by omega)] at s3
  have s5 : ∀ i, i < s → ∃ a b g, a < 8 ∧ b < 8 ∧ g < 4 ∧ tx 25 i = nI (64 * g + 8 * b + a) ∧ tm 1 (630 + 3 * i) = nI a ∧ tm 1 (631 + 3 * i) = nI b ∧ tm 1 (632 + 3 * i) = nI g := fun i hi => by
    have := s4 i hi
    rw [rsX_at (by omega), vX_at (by omega) (by show i < 12; omega), rsM_at (by omega), vM_at (by omega), rsM_at (by omega), vM_at (by omega), rsM_at (by omega), vM_at (by omega)] at this
    exact this
  replace s2 : tx 24 0 = nI s := s2
  have no : ∀ (x m : Option (Int32 × Tau)), x = some (-1, tx) → m = some (-1, tm) → ∃ r tx' tm', x = some (r, tx') ∧ m = some (r, tm') ∧ Rl (n + 1) tx' tm' := fun x m e1 e2 => ⟨-1, tx, tm, e1, e2, Rl_mono n tx tm h⟩
  have fin : ∀ (tx' tm' : Tau), (∀ c j, c < 24 ∨ 25 < c → tx' c j = tx c j) → (∀ c j, c ≠ 1 → tm' c j = tm c j) → (∀ k, k < 629 ∨ 666 ≤ k → tm' 1 k = tm 1 k) → (∃ s, s ≤ 12 ∧ tx' 24 0 = nI s ∧ tm' 1 629 = nI s ∧ ∀ i, i < s → ∃ a b g, a < 8 ∧ b < 8 ∧ g < 4 ∧ tx' 25 i = nI (64 * g + 8 * b + a) ∧ tm' 1 (630 + 3 * i) = nI a ∧ tm' 1 (631 + 3 * i) = nI b ∧ tm' 1 (632 + 3 * i) = nI g) → Rl (n + 1) tx' tm' := by
    rintro tx' tm' e1 e2 e3 ⟨s, t1, t2, t3, t4⟩
    refine Rl.tell hP (fun c j hc => e1 c j (by omega)) e2 (fun k hk => e3 k (by omega)) (Wd0_rep10 hd (vX_ne e1) (vM_ne e3) ⟨s, t1, ?_, ?_, fun i hi => ?_⟩)
    · rw [rsX_at (by omega), vX_at (by omega) (by decide)]; exact t2
    · rw [rsM_at (by omega), vM_at (by omega)]; exact t3
    · rw [rsX_at (by omega), vX_at (by omega) (by show i < 12; omega), rsM_at (by omega), vM_at (by omega), rsM_at (by omega), vM_at (by omega), rsM_at (by omega), vM_at (by omega)]
      exact t4 i hi
  unfold X10_promise X10_promise_j38 X10_promise_j39 X11_promise
  by_cases e : a1 = -1
  · subst e
    unfold X5_empty X11_endsRow
    rw [X10_within_eq, cal_some, bI_f (by decide), if_pos rfl, if_pos rfl, if_pos rfl, pst_eq, cal_some, ast_lit (by decide) (by decide), cal_some]
    exact ⟨0, _, _, rfl, rfl, fin _ _ (fun c j hc => up_nc (by omega)) (fun c j hc => up_nc hc) (fun k hk => up_nj (by omega)) ⟨0, by decide, up_c, up_c, fun i hi => absurd hi (Nat.not_lt_zero i)⟩⟩
  · simp only [if_neg e]
    rw [X10_within_eq, cal_some, X11_isIn_eq, cal_some, X5_add_0]
    by_cases p : (0 : Int32) ≤ a1 ∧ a1 ≤ 7
    · obtain ⟨a, g1, g2, rfl⟩ := in_ex (lo := 0) (hi := 7) p (by decide) (by decide)
      rw [bI_t p, if_neg n10, if_neg n10, X10_within_eq, cal_some, X11_isIn_eq, cal_some]
      by_cases p2 : (0 : Int32) ≤ a2 ∧ a2 ≤ 7
      · obtain ⟨b, v1, v2, rfl⟩ := in_ex (lo := 0) (hi := 7) p2 (by decide) (by decide)
        have l : ∀ (σ : Tau) (k : Int32 → Option (Int32 × Tau)), ald σ 1 2244 629 k = k (σ 1 629) := fun σ k => ald_nI (j := 629) (by decide) (by decide)
        rw [bI_t p2, if_neg n10, if_neg n10]
        by_cases hab : a = b
        · subst hab
          rw [if_pos rfl, if_pos rfl]
          first | rw [X5_add_0, cal_some] | rw [cal_some]
          exact no _ _ rfl rfl
        · have hne : ¬ nI a = nI b := fun z => hab (nI_inj (by omega) (by omega) z)
          rw [if_neg hne, if_neg hne, X10_within_eq, cal_some, X11_isIn_eq, cal_some]
          by_cases p3 : (0 : Int32) ≤ a3 ∧ a3 ≤ 3
          · obtain ⟨g, y1, y2, rfl⟩ := in_ex (lo := 0) (hi := 3) p3 (by decide) (by decide)
            rw [bI_t p3, if_neg n10, if_neg n10, l, s3]
            by_cases hs : s = 12
            · subst hs
              rw [X5_add_full (cap := 12) rfl s2, cal_some, if_pos (show nI 12 = 12 from rfl)]
              exact no _ _ rfl rfl
            · rw [litM, litM, nI_add, nI_add, X5_add_in (cap := 12) rfl (by decide) s2 (by omega), cal_some, if_neg (by rw [lit_eq (by decide) (by omega)]; exact hs), l, s3, litM, litA, ast_nI (by omega) (by omega), litA', ast_nI (by omega) (by omega), litA', ast_nI (by omega) (by omega), l, up_nj (by omega), up_nj (by omega), up_nj (by omega), s3, litA', af 1 2244 629 629 rfl (by decide) (by decide), l, up_c]
              refine ⟨_, _, _, rfl, rfl, fin _ _ (fun c j hc => ?_) (fun c j hc => ?_) (fun k hk => ?_) ⟨s + 1, by omega, up_c, up_c, fun i hi => ?_⟩⟩
              · rw [up_nc (by omega), up_nc (by omega)]
              · rw [up_nc hc, up_nc hc, up_nc hc, up_nc hc]
              · rw [up_nj (by omega), up_nj (by omega), up_nj (by omega), up_nj (by omega)]
              · rw [up_nc (by decide)]
                by_cases ei : i = s
                · subst ei
                  refine ⟨a, b, g, by omega, by omega, by omega, up_c, by rw [up_nj (by omega), up_nj (by omega), up_nj (by omega), up_c], ?_, ?_⟩
                  · rw [up_nj (by omega), up_nj (by omega), show 631 + 3 * i = 630 + 3 * i + 1 by omega, up_c]
                  · rw [up_nj (by omega), show 632 + 3 * i = 630 + 3 * i + 2 by omega, up_c]
                · have eM : ∀ k, k = 630 + 3 * i ∨ k = 631 + 3 * i ∨ k = 632 + 3 * i → up (up (up (up tm 1 (630 + 3 * s) (nI a)) 1 (630 + 3 * s + 1) (nI b)) 1 (630 + 3 * s + 2) (nI g)) 1 629 (nI (s + 1)) 1 k = tm 1 k := fun k hk => by
                    rw [up_nj (by omega), up_nj (by omega), up_nj (by omega), up_nj (by omega)]
                  rw [up_nj ei, eM _ (.inl rfl), eM _ (.inr (.inl rfl)), eM _ (.inr (.inr rfl))]
                  exact s5 i (by omega)
          · rw [bI_f p3, if_pos rfl, if_pos rfl]
            first | rw [X5_add_0, cal_some] | rw [cal_some]
            exact no _ _ rfl rfl
      · rw [bI_f p2, if_pos rfl, if_pos rfl]
        first | rw [X5_add_0, cal_some] | rw [cal_some]
        exact no _ _ rfl rfl
    · rw [bI_f p, if_pos rfl, if_pos rfl]
      first | rw [X5_add_0, cal_some] | rw [cal_some]
      exact no _ _ rfl rfl
