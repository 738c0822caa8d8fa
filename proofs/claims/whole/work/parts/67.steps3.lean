/-! PURE PART. Steps: the tape's end, fault, book, look -/
theorem le_pred {a : Int32} {n : Nat} (hn : n < 2 ^ 31) : (a ≤ nI n - 1) ↔ a < nI n := by
  have e1 : (nI n - 1).toInt = (n : Int) - 1 := by
    rw [Int32.toInt_sub, nI_toInt hn]
    have : (1 : Int32).toInt = 1 := by decide
    rw [this]
    exact Int.bmod_eq_of_le (by omega) (by omega)
  rw [Int32.le_iff_toInt_le, Int32.lt_iff_toInt_lt, e1, nI_toInt hn]
  omega
theorem step7 (F : Nat) : Step7 F Rl := by
  intro n tx tm a1 _ h
  obtain ⟨nP, nM, q, hW, hH, hI, hT, hFa, hS⟩ := id h
  obtain ⟨l, l1, l2, l3, l4⟩ := hT
  unfold X10_end X11_end
  rw [X10_within_eq, cal_some, X11_isIn_eq, cal_some, l2, l3]
  by_cases c : (0 : Int32) ≤ a1 ∧ a1 ≤ nI l
  · obtain ⟨j, j1, j2, rfl⟩ := in_ex (lo := 0) c (by decide) (by omega)
    rw [bI_t c, if_neg n10, if_neg n10, pst_eq, pst_eq]
    refine ⟨1, _, _, rfl, rfl, nP, nM, q, (hW.mono (by omega)).congr (fun c j hc => up_nc (by omega)) (fun k _ => up_nc (by decide)), (hH.mono (by omega)).congr (fun c j hc => up_nc (by omega)) (up_nj (by decide)) (fun k => up_nc (by decide)), (hI.mono (by omega)).congr (fun c j hc => up_nc (by omega)) (up_nj (by decide)) (fun k _ => up_nc (by decide)), ⟨j, by omega, up_c, up_c, fun i hi => ?_⟩, ?_, hS.congr (up_nc (by decide)) (fun j => up_nc (by decide))⟩
    · rw [up_nc (by decide), up_nc (by decide)]; exact l4 i (by omega)
    · unfold Rfa at hFa ⊢
      rw [up_nj (by decide), up_nj (by decide), up_nj (by decide), up_nj (by decide), up_nj (by decide)]
      exact hFa
  · rw [bI_f c, if_pos rfl, if_pos rfl]
    exact ⟨0, tx, tm, rfl, rfl, Rl_mono n tx tm h⟩
theorem step9 (F : Nat) : Step9 F Rl := by
  intro n tx tm a1 _ h
  obtain ⟨nP, nM, q, hW, hH, hI, hT, ⟨f1, f2, f3⟩, hS⟩ := id h
  unfold X10_fault X11_fault
  by_cases c : a1 = 0
  · rw [if_pos c, if_pos c, f1]
    exact ⟨_, tx, tm, rfl, rfl, Rl_mono n tx tm h⟩
  · rw [if_neg c, if_neg c]
    by_cases c : a1 = 1
    · rw [if_pos c, if_pos c, f2]
      exact ⟨_, tx, tm, rfl, rfl, Rl_mono n tx tm h⟩
    · rw [if_neg c, if_neg c]
      exact ⟨_, tx, tm, rfl, rfl, Rl_mono n tx tm h⟩
theorem step12 (F : Nat) : Step12 F Rl := by
  intro n tx tm a1 a2 _ h
  obtain ⟨nP, nM, q, hW, h2⟩ := id h
  obtain ⟨w1, w2, w3, w4, w5, w6, w7, w8, w9, ⟨k, k1, k2⟩, w11⟩ := id hW
  have k3 : tx 2 6 = nI k := (w1 4 (by decide)).symm.trans k2
  have e1 : ∀ p : Prop, (a1 ≤ nI k - 1) = (a1 < nI k) := fun _ => propext (le_pred (by omega))
  unfold X10_book X11_book
  rw [X10_within_eq, cal_some, ald_lit (by decide) (by decide), k2, X11_isIn_eq, cal_some, k3]
  by_cases c : (0 : Int32) ≤ a1 ∧ a1 ≤ nI k - 1
  · rw [bI_t c, if_neg n10, if_neg n10, X10_within_eq, cal_some, X11_isIn_eq, cal_some]
    obtain ⟨i, hi, rfl⟩ := has_ex ⟨c.1, (le_pred (by omega)).mp c.2⟩ (show k < 2 ^ 31 by omega)
    by_cases c2 : (0 : Int32) ≤ a2 ∧ a2 ≤ 3
    · obtain ⟨j, j1, j2, rfl⟩ := in_ex (lo := 0) (hi := 3) c2 (by decide) (by decide)
      rw [bI_t c2, if_neg n10, if_neg n10, litM, nI_add, X10_entry_in (N := 600) rfl (by omega) (by decide), cal_some, litA, nI_add, ald_nI (by omega) (by omega), Nat.add_assoc, w11 _ (by omega)]
      exact ⟨_, tx, tm, rfl, rfl, Rl_mono n tx tm h⟩
    · rw [bI_f c2, if_pos rfl, if_pos rfl]
      exact ⟨_, tx, tm, rfl, rfl, Rl_mono n tx tm h⟩
  · rw [bI_f c, if_pos rfl, if_pos rfl]
    exact ⟨_, tx, tm, rfl, rfl, Rl_mono n tx tm h⟩
theorem away_eq {F nM : Nat} {tx tm : Tau} (hT : Tw 2 tx tm) (hx : tx 2 1 = nI nM) (hm : tm 1 256 = nI nM) (h14 : nM ≤ 14) : ∀ (m i fx fm : Nat) (acc : Int32), i + m = nM → m < fx → m < fm → ∃ v, X8_whoIsAway_L4 F 2 fx acc (nI i) tx = some (v, tx) ∧ X11_those_L4 F fm 0 acc (nI i) tm = some (v, tm) := by
  intro m
  induction m with
  | zero =>
    intro i fx fm acc hi hfx hfm
    obtain ⟨gx, rfl, -⟩ := fuel hfx
    obtain ⟨gm, rfl, -⟩ := fuel hfm
    have : i = nM := by omega
    subst this
    unfold X8_whoIsAway_L4 X11_those_L4
    rw [hx, if_pos (nI_le (Nat.le_refl _) (by omega)), ald_lit (by decide) (by decide), hm, if_pos (nI_le (Nat.le_refl _) (by omega))]
    exact ⟨acc, rfl, rfl⟩
  | succ m ih =>
    intro i fx fm acc hi hfx hfm
    obtain ⟨gx, rfl, -⟩ := fuel hfx
    obtain ⟨gm, rfl, -⟩ := fuel hfm
    unfold X8_whoIsAway_L4 X11_those_L4 X8_whoIsAway_j28 X11_those_j56 X11_those_j50 X11_those_j57
    rw [hx, if_neg (nI_ge (by omega) (by omega)), ald_lit (by decide) (by decide), hm, if_neg (nI_ge (by omega) (by omega)), X8_isAway_in hx (by omega) h14, cal_some, if_pos rfl, litA, ald_nI (by omega) (by omega), hT.at_ (by omega)]
    by_cases e : tx (2 + 8) i = -1
    · rw [bI_f (fun z => z e), if_pos rfl, if_pos e, litA']
      exact ih (i + 1) gx gm _ (by omega) (by omega) (by omega)
    · rw [bI_t e, if_neg n10, if_neg e, litA']
      exact ih (i + 1) gx gm _ (by omega) (by omega) (by omega)
theorem known_eq {F nM : Nat} {tx tm : Tau} (hT : Tw 2 tx tm) (hx : tx 2 1 = nI nM) (hm : tm 1 256 = nI nM) (h14 : nM ≤ 14) (hk : ∀ m, m < 14 → tm 1 (101 + m) = 0 ∨ tm 1 (101 + m) = 1) : ∀ (m i fx fm : Nat) (acc : Int32), i + m = nM → m < fx → m < fm → ∃ v, X8_whoIsKnown_L4 F 2 fx acc (nI i) tx = some (v, tx) ∧ X11_those_L4 F fm 1 acc (nI i) tm = some (v, tm) := by
  intro m
  induction m with
  | zero =>
    intro i fx fm acc hi hfx hfm
    obtain ⟨gx, rfl, -⟩ := fuel hfx
    obtain ⟨gm, rfl, -⟩ := fuel hfm
    have : i = nM := by omega
    subst this
    unfold X8_whoIsKnown_L4 X11_those_L4
    rw [hx, if_pos (nI_le (Nat.le_refl _) (by omega)), ald_lit (by decide) (by decide), hm, if_pos (nI_le (Nat.le_refl _) (by omega))]
    exact ⟨acc, rfl, rfl⟩
  | succ m ih =>
    intro i fx fm acc hi hfx hfm
    obtain ⟨gx, rfl, -⟩ := fuel hfx
    obtain ⟨gm, rfl, -⟩ := fuel hfm
    have hk' := hk i (by omega)
    rw [hT.known (by omega)] at hk'
    unfold X8_whoIsKnown_L4 X11_those_L4 X8_whoIsKnown_j31 X11_those_j56 X11_those_j50 X11_those_j57
    rw [hx, if_neg (nI_ge (by omega) (by omega)), ald_lit (by decide) (by decide), hm, if_neg (nI_ge (by omega) (by omega)), X10_entry_in (N := 14) rfl (by omega) (by decide), cal_some, if_neg n10, litA, ald_nI (by omega) (by omega), hT.known (by omega)]
    rcases hk' with e | e
    · rw [e, if_pos rfl, if_neg (by decide), litA']
      exact ih (i + 1) gx gm _ (by omega) (by omega) (by omega)
    · rw [e, if_neg n10, if_pos rfl, litA']
      exact ih (i + 1) gx gm _ (by omega) (by omega) (by omega)
theorem step44 (F : Nat) (hF : 5000 ≤ F) : Step44 F Rl := by
  intro n tx tm a1 _ h
  obtain ⟨nP, nM, q, hW, hH, h3⟩ := id h
  obtain ⟨w1, w2, w3, w4, w5, w6, w7, w8, w9, ⟨k, k1, k2⟩, w11⟩ := id hW
  obtain ⟨sz, nx, s6, n6, x0, x1, m4, hK⟩ := hH
  obtain ⟨r1, -, -, -, ⟨ops, nL, -, -, -, -, -, -, l16, l1, l2, -⟩, -⟩ := id w9
  rw [rsX_at (by omega), vX_at (by omega) (by decide)] at l1
  rw [rsL_at (by omega), vM_at (by omega)] at l2
  obtain ⟨a, b, c⟩ := r1
  rw [rsM_at (by omega), vM_at (by omega), rsX_at (by omega), vX_at (by omega) (by decide)] at a b c
  have ok : ∀ (v : Int32) (x m : Option (Int32 × Tau)), x = some (v, tx) → m = some (v, tm) → ∃ r tx' tm', x = some (r, tx') ∧ m = some (r, tm') ∧ Rl (n + 1) tx' tm' := fun v x m e1 e2 => ⟨v, tx, tm, e1, e2, Rl_mono n tx tm h⟩
  have am : ∀ (j : Nat) (k : Int32 → Option (Int32 × Tau)), j < 2244 → ald tm 1 2244 (nI j) k = k (tm 1 j) := fun j k hj => ald_nI hj (by omega)
  have ax : ∀ (j : Nat) (k : Int32 → Option (Int32 × Tau)), j < 4 → ald tx 47 4 (nI j) k = k (tx 47 j) := fun j k hj => ald_nI hj (by omega)
  unfold X10_look X11_look
  by_cases c0 : a1 = 0
  · rw [if_pos c0, if_pos c0]
    exact ok _ _ _ rfl ((am 255 _ (by decide)).trans (by rw [w4]; exact congrArg (fun v => some (v, tm)) w2.symm))
  rw [if_neg c0, if_neg c0]
  by_cases c0 : a1 = 1
  · rw [if_pos c0, if_pos c0]
    exact ok _ _ _ rfl ((am 256 _ (by decide)).trans (by rw [w5]; exact congrArg (fun v => some (v, tm)) w3.symm))
  rw [if_neg c0, if_neg c0]
  by_cases c0 : a1 = 2
  · rw [if_pos c0, if_pos c0]
    exact ok _ _ _ rfl ((am 0 _ (by decide)).trans (by rw [hW.tw.ports]))
  rw [if_neg c0, if_neg c0]
  by_cases c0 : a1 = 3
  · rw [if_pos c0, if_pos c0]
    exact ok _ _ _ rfl ((am 1 _ (by decide)).trans (by rw [hW.tw.lost]))
  rw [if_neg c0, if_neg c0]
  by_cases c0 : a1 = 4
  · rw [if_pos c0, if_pos c0]
    exact ok _ _ _ rfl ((am 2 _ (by decide)).trans (by rw [hW.tw.day]))
  rw [if_neg c0, if_neg c0]
  by_cases c0 : a1 = 5
  · rw [if_pos c0, if_pos c0]
    obtain ⟨v, e1, e2⟩ := away_eq (F := F) hW.tw w3 w5 w7 nM 0 F F 0 (by omega) (by omega) (by omega)
    exact ok v _ _ (by unfold X8_whoIsAway; rw [show X8_whoIsAway_L4 F 2 F 0 0 tx = some (v, tx) from e1, cal_some]) (by unfold X11_those; rw [show X11_those_L4 F F 0 0 0 tm = some (v, tm) from e2, cal_some])
  rw [if_neg c0, if_neg c0]
  by_cases c0 : a1 = 6
  · rw [if_pos c0, if_pos c0]
    obtain ⟨v, e1, e2⟩ := known_eq (F := F) hW.tw w3 w5 w7 w8.2.2.2.2.1 nM 0 F F 0 (by omega) (by omega) (by omega)
    exact ok v _ _ (by unfold X8_whoIsKnown; rw [show X8_whoIsKnown_L4 F 2 F 0 0 tx = some (v, tx) from e1, cal_some]) (by unfold X11_those; rw [show X11_those_L4 F F 1 0 0 tm = some (v, tm) from e2, cal_some])
  rw [if_neg c0, if_neg c0]
  by_cases c0 : a1 = 7
  · rw [if_pos c0, if_pos c0]
    exact ok _ _ _ rfl ((am 4 _ (by decide)).trans (congrArg (fun v => some (v, tm)) (w1 4 (by decide))))
  rw [if_neg c0, if_neg c0]
  by_cases c0 : a1 = 8
  · rw [if_pos c0, if_pos c0]
    exact ok _ _ _ rfl ((am 3 _ (by decide)).trans (by rw [hW.tw.draws]))
  rw [if_neg c0, if_neg c0]
  by_cases c0 : a1 = 9
  · rw [if_pos c0, if_pos c0]
    exact ok _ _ _ rfl ((am 257 _ (by decide)).trans (by rw [l2]; exact congrArg (fun v => some (v, tm)) l1.symm))
  rw [if_neg c0, if_neg c0]
  by_cases c0 : a1 = 10
  · rw [if_pos c0, if_pos c0]
    exact ok _ _ _ (ax 1 _ (by decide)) ((am 258 _ (by decide)).trans (congrArg (fun v => some (v, tm)) a))
  rw [if_neg c0, if_neg c0]
  by_cases c0 : a1 = 11
  · rw [if_pos c0, if_pos c0]
    exact ok _ _ _ (ax 2 _ (by decide)) ((am 259 _ (by decide)).trans (congrArg (fun v => some (v, tm)) b))
  rw [if_neg c0, if_neg c0]
  by_cases c0 : a1 = 12
  · rw [if_pos c0, if_pos c0]
    exact ok _ _ _ (ax 3 _ (by decide)) ((am 260 _ (by decide)).trans (congrArg (fun v => some (v, tm)) c))
  rw [if_neg c0, if_neg c0]
  by_cases c0 : a1 = 13
  · rw [if_pos c0, if_pos c0]
    exact ok _ _ _ rfl (by rw [m4, x0])
  rw [if_neg c0, if_neg c0]
  exact ok _ _ _ rfl rfl
