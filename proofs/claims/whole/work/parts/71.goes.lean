/-! PURE PART. Steps: goes, peace -/
theorem blk_out {τ : Tau} {a b o s n lo c j : Nat} (h : c ≠ b ∨ j < o + lo ∨ o + n ≤ j) : blk τ a b o s n lo c j = τ c j := by
  unfold blk
  rw [if_neg (by omega)]
theorem blk_in {τ : Tau} {a b o s n lo j : Nat} (h : o + lo ≤ j ∧ j < o + n) : blk τ a b o s n lo b j = τ a (j - o + s) := by
  unfold blk
  rw [if_pos ⟨rfl, h.1, h.2⟩]
theorem think_eq {F : Nat} : ∀ (m lo f : Nat) (τ : Tau), lo + m = 255 → m < f → X11_thinks_L2 F f (nI lo) τ = some (0, up (blk τ 1 4 0 0 255 lo) 0 26 0) := by
  intro m
  induction m with
  | zero =>
    intro lo f τ hlo hf
    obtain ⟨g, rfl, -⟩ := fuel hf
    have : lo = 255 := by omega
    subst this
    unfold X11_thinks_L2
    rw [if_pos (show (255 : Int32) ≤ nI 255 by decide), pst_eq, blk_end]
  | succ m ih =>
    intro lo f τ hlo hf
    obtain ⟨g, rfl, -⟩ := fuel hf
    conv => lhs; unfold X11_thinks_L2
    rw [if_neg (by rw [lit_le' (by decide) (by omega)]; omega), ald_nI (by omega) (by omega), ast_nI (by omega) (by omega), litA', ih (lo + 1) g _ (by omega) (by omega)]
    have := blk_step (τ := τ) (a := 1) (b := 4) (o := 0) (s := 0) (n := 255) (lo := lo) (by omega) (.inl (by decide))
    rw [Nat.zero_add] at this
    rw [this]
theorem back_eq {F : Nat} : ∀ (m lo f : Nat) (τ : Tau), lo + m = 255 → m < f → X11_putsBack_L2 F f (nI lo) τ = some (0, blk τ 4 1 0 0 255 lo) := by
  intro m
  induction m with
  | zero =>
    intro lo f τ hlo hf
    obtain ⟨g, rfl, -⟩ := fuel hf
    have : lo = 255 := by omega
    subst this
    unfold X11_putsBack_L2
    rw [if_pos (show (255 : Int32) ≤ nI 255 by decide), blk_end]
  | succ m ih =>
    intro lo f τ hlo hf
    obtain ⟨g, rfl, -⟩ := fuel hf
    conv => lhs; unfold X11_putsBack_L2
    rw [if_neg (by rw [lit_le' (by decide) (by omega)]; omega), ald_nI (by omega) (by omega), ast_nI (by omega) (by omega), litA', ih (lo + 1) g _ (by omega) (by omega)]
    have := blk_step (τ := τ) (a := 4) (b := 1) (o := 0) (s := 0) (n := 255) (lo := lo) (by omega) (.inl (by decide))
    rw [Nat.zero_add] at this
    rw [this]
theorem Rl.flag {n : Nat} {tx tm : Tau} (h : Rl n tx tm) : Rl n tx (up tm 0 26 0) := by
  obtain ⟨nP, nM, q, hW, hH, hI, hT, ⟨f1, f2, f3⟩, hS⟩ := h
  exact ⟨nP, nM, q, hW.congr (fun _ _ _ => rfl) (fun k _ => up_nc (by decide)), hH.congr (fun _ _ _ => rfl) (up_nj (by decide)) (fun k => up_nc (by decide)), hI.congr (fun _ _ _ => rfl) (up_nj (by decide)) (fun k _ => up_nc (by decide)), hT.congr (fun _ _ _ => rfl) (up_nj (by decide)) (fun k => up_nc (by decide)), ⟨by rw [up_nj (by decide)]; exact f1, by rw [up_nj (by decide)]; exact f2, .inl up_c⟩, hS⟩
/-- thought begins -/
theorem think_st {T nP nM : Nat} {q : Nat → Nat} {tx tm : Tau} (h : Pc T nP nM q tx tm) : St 103 false true T nP nM q (cpK 103 2 lmT 13 tx) (up (blk tm 1 4 0 0 255 0) 0 26 0) (cpK 103 2 lmT 13 tx) (up (blk tm 1 4 0 0 255 0) 0 26 0) := by
  obtain ⟨⟨a1, a2, a3, a4, a5, a6, a7, a8, a9, ⟨k, k1, k2⟩, a11⟩, -⟩ := h
  have ew : ∀ k, up (blk tm 1 4 0 0 255 0) 0 26 0 1 k = tm 1 k := fun k => by
    rw [up_nc (by decide)]
    unfold blk
    rw [if_neg (by omega)]
  have ew1 : up (blk tm 1 4 0 0 255 0) 0 26 0 1 = tm 1 := funext ew
  have ei : ∀ o j, o < 13 → j < lmT o → cpK 103 2 lmT 13 tx (103 + o) j = tx (2 + o) j := fun o j ho hj => cpK_in ho hj
  refine ⟨⟨fun k hk h4 => ?_, (ei 0 0 (by decide) (by decide)).trans a2, (ei 0 1 (by decide) (by decide)).trans a3, by rw [ew]; exact a4, by rw [ew]; exact a5, a6, a7⟩, by rw [ew1]; exact a8, ?_, up_c, ⟨.inr rfl, fun z => (by cases z), fun _ => ⟨k, k1, ?_, by rw [ew]; exact k2, fun i hi => ?_⟩⟩, fun _ _ _ _ _ _ => rfl, ⟨fun _ _ _ _ _ => rfl, fun _ _ => rfl⟩⟩
  · obtain ⟨i1, i2, i3, i4⟩ := sl_inv k hk
    rw [ew, ei _ _ i2 i3]
    exact a1 k hk
  · rw [ew1]
    unfold Wd at a9 ⊢
    rw [vX_congr (tx := tx) (fun c j hc _ => cpK_out (by omega))]
    exact a9
  · rw [cpK_out (by omega)]
    exact (a1 4 (by decide)).symm.trans k2
  · rw [ew, cpK_out (by omega)]
    exact a11 i hi
/-- thought ends: nothing of it stays -/
theorem think_end {n T' nP nM : Nat} {q : Nat → Nat} {tx tm tx' tm' : Tau} (h : Rl n tx tm) (hs : St 103 false true T' nP nM q (cpK 103 2 lmT 13 tx) (up (blk tm 1 4 0 0 255 0) 0 26 0) tx' tm') : Rl (n + 1) tx' (blk tm' 4 1 0 0 255 0) := by
  obtain ⟨-, -, -, -, -, gX, gM⟩ := hs
  refine h.flag.same (fun c j hc => ?_) (fun c j hc => ?_)
  · have : (c < 103 ∨ 115 < c) ∧ c ≠ 45 ∧ c ≠ 212 := by unfold wnX coX at hc; omega
    rw [gX c j (by omega) this.2.1 this.2.2 (.inr rfl), cpK_out (by omega)]
  · by_cases c1 : c = 1
    · subst c1
      rw [up_nc (by decide)]
      by_cases hj : j < 255
      · rw [blk_in (by omega), gM.1 _ _ (by decide) (by decide) (by decide), up_nc (by decide), blk_in (by omega)]
        rfl
      · rw [blk_out (by omega), gM.2 j (.inl ⟨by omega, .inr (.inr rfl)⟩), up_nc (by decide), blk_out (by omega)]
    · have hc2 : coM c j := hc.resolve_left c1
      unfold coM at hc2
      rw [blk_out (by omega), gM.1 _ _ (by omega) (by omega) (by omega), up_if, up_if]
      split
      · rfl
      · rw [blk_out (by omega)]
theorem ftL_add {α : Type} {f : Nat → α → α} : ∀ (m n k : Nat) (a : α), ftL f (m + n) k a = ftL f n (k + m) (ftL f m k a) := by
  intro m
  induction m with
  | zero => intro n k a; rw [Nat.zero_add]; rfl
  | succ m ih =>
    intro n k a
    rw [show m + 1 + n = (m + n) + 1 by omega]
    show ftL f (m + n) (k + 1) (f k a) = ftL f n (k + (m + 1)) (ftL f m (k + 1) (f k a))
    rw [ih, show k + 1 + m = k + (m + 1) by omega]
theorem ftL_id {α : Type} {f : Nat → α → α} : ∀ (m k : Nat) (a : α), (∀ j b, k ≤ j → j < k + m → f j b = b) → ftL f m k a = a := by
  intro m
  induction m with
  | zero => intro k a _; rfl
  | succ m ih =>
    intro k a h
    show ftL f m (k + 1) (f k a) = a
    rw [h k a (Nat.le_refl _) (by omega), ih (k + 1) a (fun j b h1 h2 => h j b (by omega) (by omega))]
theorem ftL_congr {α : Type} {f g : Nat → α → α} : ∀ (m k : Nat) (a : α), (∀ j b, k ≤ j → j < k + m → f j b = g j b) → ftL f m k a = ftL g m k a := by
  intro m
  induction m with
  | zero => intro k a _; rfl
  | succ m ih =>
    intro k a h
    show ftL f m (k + 1) (f k a) = ftL g m (k + 1) (g k a)
    rw [h k a (Nat.le_refl _) (by omega), ih (k + 1) _ (fun j b h1 h2 => h j b (by omega) (by omega))]
theorem together_eq {F nP pl : Nat} {τ : Tau} {g : Nat → Int32} (hP : τ 1 255 = nI nP) (h10 : nP ≤ 10) (hpl : pl ≤ 100) (hF : 20 < F) (hg : ∀ p, p < 10 → τ 1 (pl + p) = g p) (h0 : ∀ p, nP ≤ p → p < 10 → τ 1 (pl + p) = 0) : X11_together F (nI pl) τ = some (smN g, τ) := by
  have key : ∀ (m i f : Nat) (acc : Int32), i + m = nP → m < f → X11_together_L4 F f (nI pl) acc (nI i) τ = some (ftL (fun k a => a + τ 1 (pl + k)) m i acc, τ) := by
    intro m
    induction m with
    | zero =>
      intro i f acc hi hf
      obtain ⟨g, rfl, -⟩ := fuel hf
      have : i = nP := by omega
      subst this
      unfold X11_together_L4
      rw [ald_lit (by decide) (by decide), hP, if_pos (nI_le (Nat.le_refl _) (by omega))]
      rfl
    | succ m ih =>
      intro i f acc hi hf
      obtain ⟨g, rfl, -⟩ := fuel hf
      unfold X11_together_L4
      rw [ald_lit (by decide) (by decide), hP, if_neg (nI_ge (by omega) (by omega)), nI_add, ald_nI (by omega) (by omega), litA', ih (i + 1) g _ (by omega) (by omega)]
      rfl
  unfold X11_together
  rw [show X11_together_L4 F F (nI pl) 0 0 τ = _ from key nP 0 F 0 (by omega) (by omega)]
  congr 2
  have e1 : ftL (fun k a => a + τ 1 (pl + k)) 10 0 0 = ftL (fun k a => a + τ 1 (pl + k)) nP 0 0 := by
    have := ftL_add (f := fun k a => a + τ 1 (pl + k)) nP (10 - nP) 0 0
    rw [show nP + (10 - nP) = 10 by omega] at this
    rw [this]
    refine ftL_id _ _ _ (fun j b h1 h2 => ?_)
    show b + τ 1 (pl + j) = b
    rw [h0 j (by omega) (by omega), Int32.add_zero]
  have e2 : ftL (fun k a => a + τ 1 (pl + k)) 10 0 0 = ftL (fun k a => a + g k) 10 0 0 := ftL_congr _ _ _ (fun j b _ h2 => by rw [hg j (by omega)])
  rw [← e1, e2]
  show 0 + g 0 + g 1 + g 2 + g 3 + g 4 + g 5 + g 6 + g 7 + g 8 + g 9 = smN g
  rw [Int32.zero_add]
  rfl
theorem goes_loop {F N nP nM : Nat} {q : Nat → Nat} {a2 : Int32} {tx0 tm0 : Tau} (hF : 5000 ≤ F) (hN : N ≤ 60) (ha : (0 : Int32) ≤ a2 ∧ a2 ≤ 3) : ∀ (m i fx fm T : Nat) (tx tm : Tau), i + m = N → m < fx → m < fm → T + 14 * m < 2 ^ 30 → St 103 false true T nP nM q tx0 tm0 tx tm → ∃ r tx' tm', X10_goes_L37 F fx (nI N) a2 (nI i) tx = some (r, tx') ∧ X11_goes_L27 F fm (nI N) a2 (nI i) tm = some (r, blk tm' 4 1 0 0 255 0) ∧ St 103 false true (T + 14 * m) nP nM q tx0 tm0 tx' tm' := by
  intro m
  induction m with
  | zero =>
    intro i fx fm T tx tm hi hfx hfm hT h
    obtain ⟨gx, rfl, -⟩ := fuel hfx
    obtain ⟨gm, rfl, -⟩ := fuel hfm
    obtain ⟨hP, hM⟩ := h.lt
    have hz := h.V.2.2.2.2.2.2.2.2
    have : i = N := by omega
    subst this
    have hb : ∀ τ, X11_putsBack F τ = some (0, blk τ 4 1 0 0 255 0) := fun τ => back_eq 255 0 F τ (by decide) (by omega)
    unfold X10_goes_L37 X11_goes_L27 X11_goes_j78 X11_goes_j81
    rw [if_pos (nI_le (Nat.le_refl _) (by omega)), if_pos (nI_le (Nat.le_refl _) (by omega))]
    obtain ⟨w, w1, w2, rfl⟩ := in_ex (lo := 0) (hi := 3) ha (by decide) (by decide)
    have hw : w = 0 ∨ w = 1 ∨ w = 2 ∨ w = 3 := by omega
    rcases hw with rfl | rfl | rfl | rfl
    · rw [if_pos (show nI 0 = 0 from rfl), if_neg (show ¬ nI 0 = 2 by decide), if_pos (show nI 0 = 0 from rfl), sum_eq rfl (by omega), cal_some, show X11_together F 25 tm = _ from together_eq (pl := 25) h.mP hP (by decide) (by omega) (fun p hp => h.R.nods hp) (fun p h1 h2 => (hz p h1 h2).2.2.1), cal_some, hb, cal_some]
      exact ⟨_, tx, tm, rfl, rfl, h⟩
    · rw [if_neg (show ¬ nI 1 = 0 by decide), if_pos (show nI 1 = 1 from rfl), if_neg (show ¬ nI 1 = 2 by decide), if_neg (show ¬ nI 1 = 0 by decide), if_pos (show nI 1 = 1 from rfl), sum_eq rfl (by omega), cal_some, show X11_together F 35 tm = _ from together_eq (pl := 35) h.mP hP (by decide) (by omega) (fun p hp => h.R.treaty hp) (fun p h1 h2 => (hz p h1 h2).2.2.2), cal_some, hb, cal_some]
      exact ⟨_, tx, tm, rfl, rfl, h⟩
    · rw [if_neg (show ¬ nI 2 = 0 by decide), if_neg (show ¬ nI 2 = 1 by decide), if_pos (show nI 2 = 2 from rfl), if_pos (show nI 2 = 2 from rfl), show (ald tm 1 2244 0 fun v7 => cal (X11_putsBack F tm) fun r8 τ9 => some (v7, τ9)) = (cal (X11_putsBack F tm) fun r8 τ9 => some (tm 1 0, τ9)) from ald_nI (j := 0) (by decide) (by decide), hb, cal_some, h.R.ports]
      exact ⟨_, tx, tm, rfl, rfl, h⟩
    · rw [if_neg (show ¬ nI 3 = 0 by decide), if_neg (show ¬ nI 3 = 1 by decide), if_neg (show ¬ nI 3 = 2 by decide), if_neg (show ¬ nI 3 = 2 by decide), if_neg (show ¬ nI 3 = 0 by decide), if_neg (show ¬ nI 3 = 1 by decide), sum_eq rfl (by omega), cal_some, show X11_together F 5 tm = _ from together_eq (pl := 5) h.mP hP (by decide) (by omega) (fun p hp => h.R.trust hp) (fun p h1 h2 => (hz p h1 h2).1), cal_some, hb, cal_some]
      exact ⟨_, tx, tm, rfl, rfl, h⟩
  | succ m ih =>
    intro i fx fm T tx tm hi hfx hfm hT h
    obtain ⟨gx, rfl, -⟩ := fuel hfx
    obtain ⟨gm, rfl, -⟩ := fuel hfm
    obtain ⟨v, tx2, tm2, d1, d2, d3, d4, -⟩ := o_pass (F := F) (by omega) h (by omega)
    unfold X10_goes_L37 X11_goes_L27
    rw [if_neg (nI_ge (by omega) (by omega)), if_neg (nI_ge (by omega) (by omega)), show X0_pass F 103 0 tx = some (0, tx2) from d1, d2, cal_some, cal_some, litA']
    obtain ⟨r, tx', tm', r1, r2, r3⟩ := ih (i + 1) gx gm (T + 14) tx2 tm2 (by omega) (by omega) (by omega) (by omega) d3
    exact ⟨r, tx', tm', r1, r2, by rw [show T + 14 * (m + 1) = T + 14 + 14 * m by omega]; exact r3⟩
theorem step13 (F : Nat) (hF : 5000 ≤ F) : Step13 F Rl := by
  intro n tx tm a1 a2 hn h
  obtain ⟨nP, nM, q, hP⟩ := h.pc
  unfold X10_goes X11_goes
  rw [X10_within_eq, cal_some, X11_isIn_eq, cal_some]
  by_cases c : (1 : Int32) ≤ a1 ∧ a1 ≤ 60
  · obtain ⟨N, n1, n2, rfl⟩ := in_ex (lo := 1) (hi := 60) c (by decide) (by decide)
    rw [bI_t c, if_neg n10, if_neg n10, X10_within_eq, cal_some, X11_isIn_eq, cal_some]
    by_cases c2 : (0 : Int32) ≤ a2 ∧ a2 ≤ 3
    · have ht : X11_thinks F tm = some (0, up (blk tm 1 4 0 0 255 0) 0 26 0) := think_eq 255 0 F tm (by decide) (by omega)
      rw [bI_t c2, if_neg n10, if_neg n10, X8_copyFrom_eq town_103 town_2 (by omega), cal_some, ht, cal_some]
      obtain ⟨r, tx', tm', r1, r2, r3⟩ := goes_loop (F := F) hF n2 c2 N 0 F F (840 * n) _ _ (by omega) (by omega) (by omega) (by omega) (think_st hP)
      exact ⟨r, tx', _, r1, r2, think_end h r3⟩
    · rw [bI_f c2, if_pos rfl, if_pos rfl]
      exact ⟨-1, tx, tm, rfl, rfl, Rl_mono n tx tm h⟩
  · rw [bI_f c, if_pos rfl, if_pos rfl]
    exact ⟨-1, tx, tm, rfl, rfl, Rl_mono n tx tm h⟩
theorem peace_loop {F p z nP nM : Nat} {q : Nat → Nat} {tx0 tm0 : Tau} (hF : 5000 ≤ F) (hp : p < nP) (hz : z < 2 ^ 30) : ∀ (m i fx fm T : Nat) (tx tm : Tau), i + m = 60 → m < fx → m < fm → T + 14 * m < 2 ^ 30 → St 103 false true T nP nM q tx0 tm0 tx tm → tx 107 p = nI z → tx0 6 p = nI z → tm0 4 (35 + p) = nI z → ∃ r tx' tm', X10_peace_L32 F fx (nI p) (nI (i + 1)) tx = some (r, tx') ∧ X11_peace_L16 F fm (nI p) (nI i) tm = some (r, blk tm' 4 1 0 0 255 0) ∧ St 103 false true (T + 14 * m) nP nM q tx0 tm0 tx' tm' := by
  have hb : ∀ τ, X11_putsBack F τ = some (0, blk τ 4 1 0 0 255 0) := fun τ => back_eq 255 0 F τ (by decide) (by omega)
  intro m
  induction m with
  | zero =>
    intro i fx fm T tx tm hi hfx hfm hT h ht h6 h4
    obtain ⟨gx, rfl, -⟩ := fuel hfx
    obtain ⟨gm, rfl, -⟩ := fuel hfm
    obtain ⟨hP, hM⟩ := h.lt
    have : i = 60 := by omega
    subst this
    have e4 : tm 4 (35 + p) = nI z := by rw [h.2.2.2.2.2.2.1 _ _ (by decide) (by decide) (by decide)]; exact h4
    have e1 : tm 1 (35 + p) = nI z := (h.R.treaty (by omega)).trans ht
    unfold X10_peace_L32 X11_peace_L16 X11_peace_j54 X11_peace_j80
    rw [if_pos (show (60 : Int32) < nI (60 + 1) by decide), if_pos (show (60 : Int32) ≤ nI 60 by decide), litA, ald_nI (by omega) (by omega), ald_nI (by omega) (by omega), e1, e4, if_pos (Int32.le_refl _), hb, cal_some, if_pos rfl]
    exact ⟨-1, tx, tm, rfl, rfl, h⟩
  | succ m ih =>
    intro i fx fm T tx tm hi hfx hfm hT h ht h6 h4
    obtain ⟨gx, rfl, -⟩ := fuel hfx
    obtain ⟨gm, rfl, -⟩ := fuel hfm
    obtain ⟨hP, hM⟩ := h.lt
    have e4 : tm 4 (35 + p) = nI z := by rw [h.2.2.2.2.2.2.1 _ _ (by decide) (by decide) (by decide)]; exact h4
    have e1 : tm 1 (35 + p) = nI z := (h.R.treaty (by omega)).trans ht
    obtain ⟨v, tx2, tm2, d1, d2, d3, d4, d5⟩ := o_pass (F := F) (by omega) h (by omega)
    obtain ⟨z', g1, g2, g3⟩ := d5 p z (by omega) (by omega) ht
    replace g3 : tx2 107 p = nI z' := g3
    have e6 : tx2 6 p = nI z := by rw [d3.2.2.2.2.2.1 6 p (by omega) (by decide) (by decide) (by decide)]; exact h6
    have hX : X10_peace_L32 F (gx + 1) (nI p) (nI (i + 1)) tx = (if z' ≤ z then X10_peace_L32 F gx (nI p) (nI (i + 1 + 1)) tx2 else some (nI (i + 1), tx2)) := by
      conv => lhs; unfold X10_peace_L32
      rw [if_neg (by rw [lit_lt' (by decide) (by omega)]; omega), show X0_pass F 103 0 tx = some (0, tx2) from d1, cal_some, ald_nI (by omega) (by omega), ald_nI (by omega) (by omega), g3, e6, litA']
      by_cases hh : z' ≤ z
      · rw [if_pos (nI_le hh (by omega)), if_pos hh]
      · rw [if_neg (nI_ge (by omega) (by omega)), if_neg hh]
    have hMm : X11_peace_L16 F (gm + 1) (nI p) (nI i) tm = X11_peace_L16 F gm (nI p) (nI (i + 1)) tm2 := by
      conv => lhs; unfold X11_peace_L16
      rw [if_neg (by rw [lit_le' (by decide) (by omega)]; omega), litA, ald_nI (by omega) (by omega), ald_nI (by omega) (by omega), e1, e4, if_pos rfl, d2, cal_some, litA']
    rw [hX, hMm]
    by_cases hh : z' ≤ z
    · have : z' = z := by omega
      subst this
      rw [if_pos hh]
      obtain ⟨r, tx', tm', r1, r2, r3⟩ := ih (i + 1) gx gm (T + 14) tx2 tm2 (by omega) (by omega) (by omega) (by omega) d3 g3 h6 h4
      exact ⟨r, tx', tm', r1, r2, by rw [show T + 14 * (m + 1) = T + 14 + 14 * m by omega]; exact r3⟩
    · rw [if_neg hh]
      have e4' : tm2 4 (35 + p) = nI z := by rw [d3.2.2.2.2.2.2.1 _ _ (by decide) (by decide) (by decide)]; exact h4
      have e1' : tm2 1 (35 + p) = nI z' := (d3.R.treaty (by omega)).trans g3
      have hj : X11_peace_j54 F (nI p) (nI (i + 1)) tm2 = some (nI (i + 1), blk tm2 4 1 0 0 255 0) := by
        unfold X11_peace_j54 X11_peace_j80
        rw [litA, ald_nI (by omega) (by omega), ald_nI (by omega) (by omega), e1', e4', if_neg (nI_ge (by omega) (by omega)), hb, cal_some, if_neg n10]
      obtain ⟨gm2, rfl, -⟩ := fuel (show 0 < gm by omega)
      have hM2 : X11_peace_L16 F (gm2 + 1) (nI p) (nI (i + 1)) tm2 = some (nI (i + 1), blk tm2 4 1 0 0 255 0) := by
        unfold X11_peace_L16
        split
        · exact hj
        · rw [litA, ald_nI (by omega) (by omega), ald_nI (by omega) (by omega), e1', e4', if_neg (fun e => hh (by have := nI_inj g2 (by omega) e; omega))]
          exact hj
      rw [hM2]
      exact ⟨nI (i + 1), tx2, tm2, rfl, rfl, d3.mono (by omega)⟩
theorem step14 (F : Nat) (hF : 5000 ≤ F) : Step14 F Rl := by
  intro n tx tm a1 hn h
  obtain ⟨nP, nM, q, hP⟩ := h.pc
  obtain ⟨w1, w2, w3, w4, w5, w6, w7, w8, w9, w10, w11⟩ := id hP.1
  unfold X10_peace X11_peace
  rw [X8_hasPower_eq (show tx 2 0 = nI nP from w2) w6, X11_isPower_eq w4 w6, cal_some, cal_some]
  by_cases p : (0 : Int32) ≤ a1 ∧ a1 < nI nP
  · obtain ⟨j, hj, rfl⟩ := has_ex p (by omega)
    have ht : X11_thinks F tm = some (0, up (blk tm 1 4 0 0 255 0) 0 26 0) := think_eq 255 0 F tm (by decide) (by omega)
    obtain ⟨z, zT, hz⟩ := w8.2.2.2.2.2.2.1 j (by omega)
    have hz6 : tx 6 j = nI z := (hP.1.tw.treaty (show j < 10 by omega)).symm.trans hz
    rw [bI_t p, if_neg n10, if_neg n10, X8_copyFrom_eq town_103 town_2 (by omega), cal_some, ht, cal_some]
    obtain ⟨r, tx', tm', r1, r2, r3⟩ := peace_loop (F := F) (z := z) hF hj (by omega) 60 0 F F (840 * n) _ _ (by omega) (by omega) (by omega) (by omega) (think_st hP) ((cpK_in (t0 := 103) (o := 4) (by decide) (by show j < 10; omega)).trans hz6) (by rw [cpK_out (by omega)]; exact hz6) (by
      rw [up_nc (by decide)]
      unfold blk
      rw [if_pos ⟨rfl, by omega, by omega⟩]
      exact hz)
    exact ⟨r, tx', _, r1, r2, think_end h r3⟩
  · rw [bI_f p, if_pos rfl, if_pos rfl]
    exact ⟨-1, tx, tm, rfl, rfl, Rl_mono n tx tm h⟩
