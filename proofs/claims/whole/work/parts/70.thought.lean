/-! PURE PART. Steps: days, THE IMAGE, in thought -/
theorem i32_sub_add (a b : Int32) : b + a - b = a := by rw [Int32.add_comm]; exact Int32.add_sub_cancel ..
theorem sum_eq {F t : Nat} {τ : Tau} (ht : lnX t = 10) (hF : 20 < F) : X10_sum F t τ = some (smN (τ t), τ) := by
  have key : ∀ (m i f : Nat) (acc : Int32), i + m = 10 → m < f → X10_sum_L4 F t f acc (nI i) τ = some (ftL (fun k a => a + τ t k) m i acc, τ) := by
    intro m
    induction m with
    | zero =>
      intro i f acc hi hf
      obtain ⟨g, rfl, -⟩ := fuel hf
      have : i = 10 := by omega
      subst this
      unfold X10_sum_L4
      rw [ht, if_pos (by decide)]
      rfl
    | succ m ih =>
      intro i f acc hi hf
      obtain ⟨g, rfl, -⟩ := fuel hf
      unfold X10_sum_L4
      rw [ht, litN, if_neg (nI_ge (by omega) (by omega)), ald_nI (by omega) (by omega), litA', ih (i + 1) g _ (by omega) (by omega)]
      rfl
  unfold X10_sum
  rw [show X10_sum_L4 F t F 0 0 τ = _ from key 10 0 F 0 (by decide) (by omega)]
  congr 2
  show 0 + τ t 0 + τ t 1 + τ t 2 + τ t 3 + τ t 4 + τ t 5 + τ t 6 + τ t 7 + τ t 8 + τ t 9 = smN (τ t)
  rw [Int32.zero_add]
  rfl
theorem days_loop {F N : Nat} (hF : 5000 ≤ F) (hN : N ≤ 60) (bef : Int32) {nP nM : Nat} {q : Nat → Nat} : ∀ (m i fx fm T : Nat) (tx tm : Tau) (acc : Int32), i + m = N → m < fx → m < fm → T + 14 * m < 2 ^ 30 → Pc T nP nM q tx tm → smN (tx 5) = bef + acc → ∃ r tx' tm', X10_days_L46 F fx (nI N) bef (nI i) tx = some (r, tx') ∧ X11_days_L30 F fm (nI N) acc (nI i) tm = some (r, tm') ∧ Pc (T + 14 * m) nP nM q tx' tm' := by
  intro m
  induction m with
  | zero =>
    intro i fx fm T tx tm acc hi hfx hfm hT h hs
    obtain ⟨gx, rfl, -⟩ := fuel hfx
    obtain ⟨gm, rfl, -⟩ := fuel hfm
    have : i = N := by omega
    subst this
    unfold X10_days_L46 X11_days_L30
    rw [if_pos (nI_le (Nat.le_refl _) (by omega)), if_pos (nI_le (Nat.le_refl _) (by omega)), sum_eq rfl (by omega), cal_some, hs, i32_sub_add]
    exact ⟨acc, tx, tm, rfl, rfl, h⟩
  | succ m ih =>
    intro i fx fm T tx tm acc hi hfx hfm hT h hs
    obtain ⟨gx, rfl, -⟩ := fuel hfx
    obtain ⟨gm, rfl, -⟩ := fuel hfm
    obtain ⟨tx1, tm1, k1, k2, k3, k4, k5⟩ := h.kept (F := F) (by omega)
    obtain ⟨v, tx2, tm2, d1, d2, d3, d4, -⟩ := o_pass (F := F) (by omega) (k3.1.toSt k4) (by omega)
    have h2 := k3.done (Nat.le_add_right T 14) d3
    have e5 : tx1 5 = tx 5 := funext fun j => k5 _ _ (by omega) (by omega)
    unfold X10_days_L46 X11_days_L30
    rw [if_neg (nI_ge (by omega) (by omega)), if_neg (nI_ge (by omega) (by omega)), k1, k2, cal_some, cal_some, show X0_pass F 2 1 tx1 = some (0, tx2) from d1, d2, cal_some, cal_some, litA']
    obtain ⟨r, tx', tm', r1, r2, r3⟩ := ih (i + 1) gx gm (T + 14) tx2 tm2 (acc + v) (by omega) (by omega) (by omega) (by omega) h2 (by
      show smN (tx2 (2 + 3)) = _
      rw [d4]
      show smN (tx1 5) + v = _
      rw [e5, hs, Int32.add_assoc])
    exact ⟨r, tx', tm', r1, r2, by rw [show T + 14 * (m + 1) = T + 14 + 14 * m by omega]; exact r3⟩
theorem step5 (F : Nat) (hF : 5000 ≤ F) : Step5 F Rl := by
  intro n tx tm a1 hn h
  obtain ⟨nP, nM, q, hP⟩ := h.pc
  unfold X10_days X11_days
  rw [X10_within_eq, cal_some, X11_isIn_eq, cal_some]
  by_cases c : (1 : Int32) ≤ a1 ∧ a1 ≤ 60
  · obtain ⟨N, n1, n2, rfl⟩ := in_ex (lo := 1) (hi := 60) c (by decide) (by decide)
    rw [bI_t c, if_neg n10, if_neg n10, ald_lit (by decide) (by decide), hP.1.tw.day]
    by_cases g : tx 2 4 + nI N ≤ 9999
    · rw [if_pos g, if_pos g, sum_eq rfl (by omega), cal_some]
      obtain ⟨r, tx', tm', r1, r2, r3⟩ := days_loop (F := F) hF n2 (smN (tx 5)) N 0 F F (840 * n) tx tm 0 (by omega) (by omega) (by omega) (by omega) hP (by rw [Int32.add_zero])
      exact ⟨r, tx', tm', r1, r2, r3.rl (by omega)⟩
    · rw [if_neg g, if_neg g]
      exact ⟨-1, tx, tm, rfl, rfl, Rl_mono n tx tm h⟩
  · rw [bI_f c, if_pos rfl, if_pos rfl]
    exact ⟨-1, tx, tm, rfl, rfl, Rl_mono n tx tm h⟩
/-! THE IMAGE -/
theorem img_out {F : Nat} : ∀ (m lo f : Nat) (τ : Tau), lo + m = 2244 → m < f → X11_image_L15 F f 1 (nI lo) τ = some (1, up (blk τ 1 2 0 0 2244 lo) 0 5 1) := by
  intro m
  induction m with
  | zero =>
    intro lo f τ hlo hf
    obtain ⟨g, rfl, -⟩ := fuel hf
    have : lo = 2244 := by omega
    subst this
    unfold X11_image_L15 X11_image_j69
    rw [if_pos (show (2244 : Int32) ≤ nI 2244 by decide), if_neg n10, pst_eq, blk_end]
  | succ m ih =>
    intro lo f τ hlo hf
    obtain ⟨g, rfl, -⟩ := fuel hf
    conv => lhs; unfold X11_image_L15
    unfold X11_image_j55
    rw [if_neg (by rw [lit_le' (by decide) (by omega)]; omega), if_neg n10, ald_nI (by omega) (by omega), ast_nI (by omega) (by omega), litA', ih (lo + 1) g _ (by omega) (by omega)]
    have := blk_step (τ := τ) (a := 1) (b := 2) (o := 0) (s := 0) (n := 2244) (lo := lo) (by omega) (.inl (by decide))
    rw [Nat.zero_add] at this
    rw [this]
theorem img_in {F : Nat} : ∀ (m lo f : Nat) (τ : Tau), lo + m = 2244 → m < f → X11_image_L15 F f 0 (nI lo) τ = some (1, up (up (blk τ 2 1 0 0 2244 lo) 0 4 0) 0 5 1) := by
  intro m
  induction m with
  | zero =>
    intro lo f τ hlo hf
    obtain ⟨g, rfl, -⟩ := fuel hf
    have : lo = 2244 := by omega
    subst this
    unfold X11_image_L15 X11_image_j69 X11_forgets
    rw [if_pos (show (2244 : Int32) ≤ nI 2244 by decide), if_pos rfl, pst_eq, cal_some, pst_eq, blk_end]
  | succ m ih =>
    intro lo f τ hlo hf
    obtain ⟨g, rfl, -⟩ := fuel hf
    conv => lhs; unfold X11_image_L15
    unfold X11_image_j55
    rw [if_neg (by rw [lit_le' (by decide) (by omega)]; omega), if_pos rfl, ald_nI (by omega) (by omega), ast_nI (by omega) (by omega), litA', ih (lo + 1) g _ (by omega) (by omega)]
    have := blk_step (τ := τ) (a := 2) (b := 1) (o := 0) (s := 0) (n := 2244) (lo := lo) (by omega) (.inl (by decide))
    rw [Nat.zero_add] at this
    rw [this]
theorem lmW_town : ∀ o, o < 13 → lmW (1 + o) = lmT o := by decide +kernel
theorem lmW_view : ∀ o, o < 51 → (15 ≤ o ∧ o ≤ 43) ∨ (46 ≤ o ∧ o ≤ 50) → lim o = lmW o := by decide +kernel
/-- a world copied -/
theorem RW.copied {T nP nM t0 t1 : Nat} {q : Nat → Nat} {tx tx' : Tau} {w w' : Nat → Int32} (h : RW T nP nM q t1 tx w) (hx : ∀ o j, o < 51 → j < lmW o → tx' (t0 + o) j = tx (t1 + o) j) (hw : ∀ k, k < 2244 → w' k = w k) : RW T nP nM q t0 tx' w' := by
  obtain ⟨a1, a2, a3, a4, a5, a6, a7, a8, a9, a10, a11⟩ := h
  have ht : ∀ o j, o < 13 → j < lmT o → tx' (t0 + 1 + o) j = tx (t1 + 1 + o) j := fun o j ho hj => by
    rw [Nat.add_assoc, Nat.add_assoc]
    exact hx _ _ (by omega) (by rw [lmW_town o ho]; exact hj)
  refine ⟨fun k hk => ?_, (ht 0 0 (by decide) (by decide)).trans a2, (ht 0 1 (by decide) (by decide)).trans a3, by rw [hw _ (by omega)]; exact a4, by rw [hw _ (by omega)]; exact a5, a6, a7, Val_congr a7 a8 (fun k hk => hw k (by omega)), ?_, by rw [hw _ (by omega)]; exact a10, fun i hi => ?_⟩
  · obtain ⟨i1, i2, i3, i4⟩ := sl_inv k hk
    rw [hw _ (by omega), ht _ _ i2 i3]
    exact a1 k hk
  · have : vX t0 tx' = vX t1 tx := by
      funext c j
      unfold vX
      by_cases hc : ((15 ≤ c ∧ c ≤ 43) ∨ (46 ≤ c ∧ c ≤ 50)) ∧ j < lim c
      · rw [if_pos hc, if_pos hc, hx _ _ (by omega) (by rw [← lmW_view c (by omega) hc.1]; exact hc.2)]
      · rw [if_neg hc, if_neg hc]
    unfold Wd at a9 ⊢
    rw [this, vM_congr (w := w) (fun k hk => hw k (by omega))]
    exact a9
  · rw [hw _ (by omega), hx 45 i (by decide) hi]
    exact a11 i hi
theorem step43 (F : Nat) (hF : 5000 ≤ F) : Step43 F Rl := by
  intro n tx tm a1 _ h
  obtain ⟨nP, nM, q, hW, hH, hI, hT, hFa, hS⟩ := id h
  rcases bz_cases a1 with hz | hz
  · rw [hz]
    unfold X10_image X11_image X11_image_j13
    rw [if_pos rfl, if_pos rfl]
    rcases hI with ⟨i1, i2⟩ | ⟨i1, i2, nP', nM', q', hW'⟩
    · rw [if_pos i1, if_pos i2]
      exact ⟨0, tx, tm, rfl, rfl, Rl_mono n tx tm h⟩
    · rw [i1, i2, if_neg n10, if_neg n10, X9_copyFrom_eq (.inl ⟨rfl, rfl⟩), cal_some, show X11_image_L15 F F 0 0 tm = _ from img_in 2244 0 F tm (by decide) (by omega)]
      unfold X1_forget
      rw [pst_eq, cal_some]
      have ex : ∀ c j, ¬ (1 ≤ c ∧ c ≤ 51) → ¬ (c = 116 ∧ j = 0) → up (cpK 1 52 lmW 51 tx) 116 0 0 c j = tx c j := fun c j h1 h2 => by rw [up_if, if_neg (by omega), cpK_out (by omega)]
      have em : ∀ c j, c ≠ 1 → ¬ (c = 0 ∧ (j = 4 ∨ j = 5)) → up (up (blk tm 2 1 0 0 2244 0) 0 4 0) 0 5 1 c j = tm c j := fun c j h1 h2 => by
        rw [up_if, if_neg (by omega), up_if, if_neg (by omega)]
        unfold blk
        rw [if_neg (by omega)]
      have ew : ∀ k, k < 2244 → up (up (blk tm 2 1 0 0 2244 0) 0 4 0) 0 5 1 1 k = tm 2 k := fun k hk => by
        rw [up_nc (by decide), up_nc (by decide)]
        unfold blk
        rw [if_pos ⟨rfl, by omega, by omega⟩]
        rfl
      refine ⟨1, _, _, rfl, rfl, ?_⟩
      refine Rl.forgot (n := n) (Nat.le_succ n) ((hW'.mono (by omega)).copied (fun o j ho hj => ?_) ew) ⟨hH, .inr ⟨i1, i2, nP', nM', q', hW'⟩, hT, hFa, hS⟩ (fun c j hc => ?_) (fun c j hc => ?_) up_c ?_
      · rw [up_nc (by omega), cpK_in ho hj]
      · unfold coXf at hc
        exact ex _ _ (by omega) (by omega)
      · unfold coMf at hc
        by_cases e5 : c = 0 ∧ j = 5
        · rw [e5.1, e5.2, up_c, i2]
        · exact em _ _ (by omega) (by omega)
      · rw [up_nj (by decide), up_c]
  · rw [hz]
    unfold X10_image X11_image X11_image_j13
    rw [if_neg n10, if_neg n10, X9_copyFrom_eq (.inr ⟨rfl, rfl⟩), cal_some, show X11_image_L15 F F 1 0 tm = _ from img_out 2244 0 F tm (by decide) (by omega), pst_eq]
    have ex : ∀ c j, ¬ (52 ≤ c ∧ c ≤ 102) → ¬ (c = 0 ∧ j = 2) → up (cpK 52 1 lmW 51 tx) 0 2 1 c j = tx c j := fun c j h1 h2 => by rw [up_if, if_neg (by omega), cpK_out (by omega)]
    have em : ∀ c j, c ≠ 2 → ¬ (c = 0 ∧ j = 5) → up (blk tm 1 2 0 0 2244 0) 0 5 1 c j = tm c j := fun c j h1 h2 => by
      rw [up_if, if_neg (by omega)]
      unfold blk
      rw [if_neg (by omega)]
    have ew : ∀ k, k < 2244 → up (blk tm 1 2 0 0 2244 0) 0 5 1 2 k = tm 1 k := fun k hk => by
      rw [up_nc (by decide)]
      unfold blk
      rw [if_pos ⟨rfl, by omega, by omega⟩]
      rfl
    refine ⟨1, _, _, rfl, rfl, nP, nM, q, (hW.mono (by omega)).congr (fun c j hc => ex _ _ (by omega) (by omega)) (fun k _ => em _ _ (by decide) (by omega)), (hH.mono (by omega)).congr (fun c j hc => ex _ _ (by omega) (by omega)) (em _ _ (by decide) (by omega)) (fun k => em _ _ (by decide) (by omega)), .inr ⟨up_c, up_c, nP, nM, q, (hW.mono (by omega)).copied (fun o j ho hj => ?_) ew⟩, hT.congr (fun c j hc => ex _ _ (by omega) (by omega)) (em _ _ (by decide) (by omega)) (fun k => em _ _ (by decide) (by omega)), ?_, hS.congr (ex _ _ (by omega) (by omega)) (fun j => ex _ _ (by omega) (by omega))⟩
    · rw [up_nc (by omega), cpK_in ho hj]
    · unfold Rfa at hFa ⊢
      rw [ex _ _ (by omega) (by omega), ex _ _ (by omega) (by omega), em _ _ (by omega) (by omega), em _ _ (by omega) (by omega), em _ _ (by omega) (by omega)]
      exact hFa
