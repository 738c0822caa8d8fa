/-! PURE PART. Steps: the town told, read -/
theorem n10 : ¬ (1 : Int32) = 0 := by decide
theorem up_id {τ : Tau} {c j : Nat} {v : Int32} (h : τ c j = v) : up τ c j v = τ := by
  funext a b
  rw [up_if]
  split
  · rename_i e
    rw [e.1, e.2, h]
  · rfl
theorem RW.tw {T nP nM : Nat} {q : Nat → Nat} {tx tm : Tau} (h : RW T nP nM q 1 tx (tm 1)) : Tw 2 tx tm := fun k hk _ => h.1 k hk
theorem RW.of {T nP nM : Nat} {q : Nat → Nat} {tx tm : Tau} (h : Tw 2 tx tm) (h4 : tm 1 4 = tx 2 6) (a : tx 2 0 = nI nP ∧ tx 2 1 = nI nM ∧ tm 1 255 = nI nP ∧ tm 1 256 = nI nM ∧ nP ≤ 10 ∧ nM ≤ 14) (hV : Val T nP nM q (tm 1)) (hd : Wd nP nM q 1 tx (tm 1)) (hb : ∃ k, k ≤ 150 ∧ tm 1 4 = nI k) (h46 : ∀ i, i < 600 → tm 1 (760 + i) = tx 46 i) : RW T nP nM q 1 tx (tm 1) :=
  ⟨fun k hk => by
    by_cases e : k = 4
    · subst e; exact h4
    · exact h k hk e, a.1, a.2.1, a.2.2.1, a.2.2.2.1, a.2.2.2.2.1, a.2.2.2.2.2, hV, hd, hb, h46⟩
/-- a slot of the town of now changes alike -/
theorem RW.chg {T nP nM o j k : Nat} {q : Nat → Nat} {tx tm : Tau} {v : Int32} (h : RW T nP nM q 1 tx (tm 1)) (hk : k < 255 ∧ k ≠ 4) (e : slo k = o ∧ sli k = j) (hv : Val T nP nM q (upd (tm 1) k v)) : RW T nP nM q 1 (up tx (2 + o) j v) (up tm 1 k v 1) := by
  obtain ⟨a1, a2, a3, a4, a5, a6, a7, a8, a9, a10, a11⟩ := id h
  obtain ⟨s1, s2, s3, s4⟩ := sl_inv k hk.1
  rw [e.1] at s1 s2 s3 s4
  rw [e.2] at s1 s3 s4
  have hj : o = 0 → j ≠ 6 := by
    intro ho hj
    rw [ho, hj] at s1
    exact hk.2 s1.symm
  have h4 : up tm 1 k v 1 4 = tm 1 4 := up_nj (Ne.symm hk.2)
  refine RW.of (h.tw.chg v hk.1 e) ?_ ⟨?_, ?_, ?_, ?_, a6, a7⟩ ?_ ?_ ?_ (fun i hi => ?_)
  · rw [h4, up_if, if_neg (fun z => hj (by omega) z.2.symm)]; exact a1 4 (by decide)
  · rw [up_if, if_neg (fun z => by have := s4 (by omega); omega)]; exact a2
  · rw [up_if, if_neg (fun z => by have := s4 (by omega); omega)]; exact a3
  · rw [up_nj (by omega)]; exact a4
  · rw [up_nj (by omega)]; exact a5
  · rw [up_eq]; exact hv
  · rw [up_eq]; exact Wd_up a9 (by omega) (by omega)
  · rw [h4]; exact a10
  · rw [up_nj (by omega), up_nc (by omega)]; exact a11 i hi
def coXf (c j : Nat) : Prop := (c = 0 ∧ j = 2) ∨ (53 ≤ c ∧ c ≤ 95) ∨ (97 ≤ c ∧ c ≤ 102) ∨ (c = 116 ∧ j = 1) ∨ (c = 197 ∧ j < 3) ∨ c = 198 ∨ (c = 213 ∧ j = 10) ∨ c = 221
def coMf (c j : Nat) : Prop := c = 2 ∨ c = 8 ∨ (c = 0 ∧ (j = 5 ∨ j = 16 ∨ j = 23 ∨ j = 25 ∨ j = 26))
/-- what was told forgets what can be undone -/
theorem Rl.forgot {n n' nP nM nP' nM' : Nat} {q q' : Nat → Nat} {tx tm tx' tm' : Tau} (hn : n ≤ n') (hW : RW (840 * n') nP' nM' q' 1 tx' (tm' 1)) (h : RH (840 * n) nP nM q tx tm ∧ Rim (840 * n) tx tm ∧ Rtp tx tm ∧ Rfa tx tm ∧ Rsi tx) (hx : ∀ c j, coXf c j → tx' c j = tx c j) (hm : ∀ c j, coMf c j → tm' c j = tm c j) (h1 : tx' 116 0 = 0) (h2 : tm' 0 4 = 0) : Rl n' tx' tm' := by
  obtain ⟨⟨sz, nx, s1, s2, s3, s4, s5, s6⟩, h3, h4, h5, h6⟩ := h
  unfold coXf at hx
  unfold coMf at hm
  refine ⟨nP', nM', q', hW, ⟨0, nx, by decide, s2, h1, by rw [hx _ _ (by omega)]; exact s4, h2, fun j hj => absurd hj (Nat.not_lt_zero j)⟩, (h3.mono (by omega)).congr (fun c j hc => hx _ _ (by omega)) (hm _ _ (by omega)) (fun k _ => hm _ _ (by omega)), h4.congr (fun c j hc => hx _ _ (by omega)) (hm _ _ (by omega)) (fun k => hm _ _ (by omega)), ?_, h6.congr (hx _ _ (by omega)) (fun j => hx _ _ (by omega))⟩
  unfold Rfa at h5 ⊢
  rw [hx _ _ (by omega), hx _ _ (by omega), hm _ _ (by omega), hm _ _ (by omega), hm _ _ (by omega)]
  exact h5
/-- .. with one slot of the town changed alike -/
theorem Rl.told {n nP nM o j k : Nat} {q : Nat → Nat} {tx tm : Tau} {v : Int32} (hW : RW (840 * n) nP nM q 1 tx (tm 1)) (h : RH (840 * n) nP nM q tx tm ∧ Rim (840 * n) tx tm ∧ Rtp tx tm ∧ Rfa tx tm ∧ Rsi tx) (hk : k < 255 ∧ k ≠ 4) (e : slo k = o ∧ sli k = j) (hv : Val (840 * n) nP nM q (upd (tm 1) k v)) : Rl (n + 1) (up (up tx (2 + o) j v) 116 0 0) (up (up tm 1 k v) 0 4 0) := by
  have ho := (sl_inv k hk.1).2.1
  rw [e.1] at ho
  refine Rl.forgot (Nat.le_succ n) (((hW.chg hk e hv).mono (by omega)).congr (fun c j hc => up_nc (by omega)) (fun k _ => up_nc (by decide))) h (fun c j hc => ?_) (fun c j hc => ?_) up_c up_c
  · unfold coXf at hc
    rw [up_if, if_neg (by omega), up_nc (by omega)]
  · unfold coMf at hc
    rw [up_if, if_neg (by omega), up_nc (by omega)]
theorem X11_isPower_eq {F nP : Nat} {a : Int32} {τ : Tau} (h : τ 1 255 = nI nP) (h2 : nP ≤ 10) : X11_isPower F a τ = some (bI (0 ≤ a ∧ a < nI nP), τ) := by
  unfold X11_isPower
  rw [ald_lit (by decide) (by decide), h, X11_isIn_eq, cal_some, narB]
  have e : (a ≤ nI nP - 1) ↔ a < nI nP := by
    have e1 : (nI nP - 1).toInt = (nP : Int) - 1 := pk_sub_toInt (a := nP) (b := 1) (by omega) (by omega)
    rw [Int32.le_iff_toInt_le, Int32.lt_iff_toInt_lt, e1, nI_toInt (by omega)]
    omega
  by_cases c : 0 ≤ a ∧ a < nI nP
  · rw [bI_t c, bI_t ⟨c.1, e.mpr c.2⟩]
  · rw [bI_f c, bI_f (fun z => c ⟨z.1, e.mp z.2⟩)]
theorem X11_isMute_eq {F nM : Nat} {a : Int32} {τ : Tau} (h : τ 1 256 = nI nM) (h2 : nM ≤ 14) : X11_isMute F a τ = some (bI (0 ≤ a ∧ a < nI nM), τ) := by
  unfold X11_isMute
  rw [ald_lit (by decide) (by decide), h, X11_isIn_eq, cal_some, narB]
  have e : (a ≤ nI nM - 1) ↔ a < nI nM := by
    have e1 : (nI nM - 1).toInt = (nM : Int) - 1 := pk_sub_toInt (a := nM) (b := 1) (by omega) (by omega)
    rw [Int32.le_iff_toInt_le, Int32.lt_iff_toInt_lt, e1, nI_toInt (by omega)]
    omega
  by_cases c : 0 ≤ a ∧ a < nI nM
  · rw [bI_t c, bI_t ⟨c.1, e.mpr c.2⟩]
  · rw [bI_f c, bI_f (fun z => c ⟨z.1, e.mp z.2⟩)]
theorem has_ex {a : Int32} {n : Nat} (h : 0 ≤ a ∧ a < nI n) (hn : n < 2 ^ 31) : ∃ j, j < n ∧ a = nI j := by
  obtain ⟨j, hj, rfl⟩ := nI_of (i32_nlt.mpr h.1)
  exact ⟨j, (nI_ltI hj hn).mp h.2, rfl⟩
theorem in_lit {a : Int32} {lo hi : Nat} (h : (OfNat.ofNat lo : Int32) ≤ a ∧ a ≤ (OfNat.ofNat hi : Int32)) (hl : (OfNat.ofNat lo : Nat) < 2 ^ 31) (hh : (OfNat.ofNat hi : Nat) < 2 ^ 31) : ∃ j, (OfNat.ofNat lo : Nat) ≤ j ∧ j ≤ (OfNat.ofNat hi : Nat) ∧ a = nI j := in_ex h hl hh
theorem step0 (F : Nat) : Step0 F Rl := by
  intro n tx tm a1 _ h
  obtain ⟨nP, nM, q, hW, h2⟩ := h
  have r := Rl.told hW h2 (v := a1) (k := 3) (o := 0) (j := 5) (by decide) (by decide) (Val_upd hW.2.2.2.2.2.2.2.1 hW.2.2.2.2.2.1 hW.2.2.2.2.2.2.1 _ _)
  refine ⟨tx 2 5, _, _, ?_, ?_, r⟩
  · rfl
  · unfold X11_state X11_forgets
    rw [ald_lit (by decide) (by decide), ast_lit (by decide) (by decide), pst_eq, cal_some, hW.tw.draws]
theorem Wd_mono {nP nM nP' nM' b : Nat} {q : Nat → Nat} {tx : Tau} {w : Nat → Int32} (h : Wd nP nM q b tx w) (h1 : nP ≤ nP') (h2 : nM ≤ nM') : Wd nP' nM' q b tx w := by
  obtain ⟨a1, a2, ⟨c, c1, c2, c3, c4⟩, a4⟩ := h
  refine ⟨a1, a2, ⟨c, c1, c2, c3, fun i hi => ?_⟩, a4⟩
  obtain ⟨d1, d2⟩ := c4 i hi
  refine ⟨d1, ?_⟩
  rcases d2 with ⟨m, p, e1, e2, e3⟩ | ⟨m, e1, e3⟩ | ⟨p, e1, e3⟩ | ⟨m, e1, e3⟩
  · exact .inl ⟨m, p, by omega, by omega, e3⟩
  · exact .inr (.inl ⟨m, by omega, e3⟩)
  · exact .inr (.inr (.inl ⟨p, by omega, e3⟩))
  · exact .inr (.inr (.inr ⟨m, by omega, e3⟩))
theorem step1 (F : Nat) : Step1 F Rl := by
  intro n tx tm a1 _ h
  obtain ⟨nP, nM, q, hW, h2⟩ := id h
  obtain ⟨w1, w2, w3, w4, w5, w6, w7, w8, w9, w10, w11⟩ := id hW
  unfold X10_power X11_power
  rw [X10_within_eq, cal_some, X11_isIn_eq, cal_some]
  by_cases c : (0 : Int32) ≤ a1 ∧ a1 ≤ 99
  · rw [bI_t c, if_neg n10, if_neg n10, show tx 2 0 = nI nP from w2, ald_lit (by decide) (by decide), w4]
    by_cases hP : nP = 10
    · subst hP
      rw [if_neg (show ¬ nI 10 < 10 by decide), if_pos (show nI 10 = 10 from rfl)]
      exact ⟨-1, tx, tm, rfl, rfl, Rl_mono n tx tm h⟩
    · rw [if_pos (by rw [lit_lt (by decide) (by omega)]; omega), if_neg (by rw [lit_eq (by decide) (by omega)]; exact hP)]
      have hX : (cal (X1_forget F tx) fun r3 τ4 => cal (X8_addPower F 2 a1 τ4) fun r5 τ6 => some (r5, τ6)) = some (nI nP, up (up (up (up (up (up tx 116 0 0) 3 nP a1) 4 nP 0) 5 nP 0) 6 nP 0) 2 0 (nI (nP + 1))) := by
        unfold X1_forget X8_addPower
        rw [pst_eq, cal_some]
        have e0 : ∀ σ : Tau, σ 2 0 = nI nP → ∀ c v, c ≠ 2 → up σ c nP v 2 0 = nI nP := fun σ hσ c v hc => by rw [up_nc (Ne.symm hc)]; exact hσ
        have f0 : up tx 116 0 0 2 0 = nI nP := by rw [up_nc (by decide)]; exact w2
        have f1 := e0 _ f0 3 a1 (by decide)
        have f2 := e0 _ f1 4 0 (by decide)
        have f3 := e0 _ f2 5 0 (by decide)
        have f4 := e0 _ f3 6 0 (by decide)
        rw [f0, if_pos (by rw [lit_lt (by decide) (by omega)]; omega), ast_nI (by omega) (by omega)]
        show (cal (ast (up (up tx 116 0 0) 3 nP a1) 4 10 (up (up tx 116 0 0) 3 nP a1 2 0) 0 fun τ2 => ast τ2 5 10 (τ2 2 0) 0 fun τ3 => ast τ3 6 10 (τ3 2 0) 0 fun τ4 => pst τ4 2 0 (τ4 2 0 + 1) fun τ5 => some (τ5 2 0 - 1, τ5)) fun r5 τ6 => some (r5, τ6)) = _
        rw [f1, ast_nI (by omega) (by omega), f2, ast_nI (by omega) (by omega), f3, ast_nI (by omega) (by omega), f4, litA', pst_eq, up_c, cal_some, litS (by omega), Nat.add_sub_cancel]
      have hMm : (ald tm 1 2244 255 fun v4 => ast tm 1 2244 (5 + v4) a1 fun τ5 => ald τ5 1 2244 255 fun v6 => ast τ5 1 2244 255 (v6 + 1) fun τ7 => cal (X11_forgets F τ7) fun _ τ9 => ald τ9 1 2244 255 fun v10 => some (v10 - 1, τ9)) = some (nI nP, up (up (up tm 1 (5 + nP) a1) 1 255 (nI (nP + 1))) 0 4 0) := by
        have l : ∀ (σ : Tau) (k : Int32 → Option (Int32 × Tau)), ald σ 1 2244 255 k = k (σ 1 255) := fun σ k => ald_nI (j := 255) (by decide) (by decide)
        unfold X11_forgets
        rw [l, w4, litA, ast_nI (by omega) (by omega), l, up_nj (by omega), w4, litA', af 1 2244 255 255 rfl (by decide) (by decide), pst_eq, cal_some, l, up_nc (by decide), up_c, litS (by omega), Nat.add_sub_cancel]
      rw [hX, hMm]
      refine ⟨nI nP, _, _, rfl, rfl, ?_⟩
      obtain ⟨v1, v2, v3, v4, v5, v6, v7, v8, v9⟩ := w8
      obtain ⟨z1, z2, z3, z4⟩ := v9 nP (Nat.le_refl _) (by omega)
      have t0 : Tw 2 (up tx 116 0 0) tm := hW.tw.upX (by omega)
      have t1 : Tw 2 (up (up tx 116 0 0) 3 nP a1) (up tm 1 (5 + nP) a1) := t0.chg a1 (by omega) (sl_5 nP (by omega))
      have t2 := t1.chg (0 : Int32) (show 15 + nP < 255 by omega) (sl_15 nP (by omega))
      have t3 := t2.chg (0 : Int32) (show 25 + nP < 255 by omega) (sl_25 nP (by omega))
      have t4 := t3.chg (0 : Int32) (show 35 + nP < 255 by omega) (sl_35 nP (by omega))
      have i1 : up (up tm 1 (5 + nP) a1) 1 (15 + nP) 0 = up tm 1 (5 + nP) a1 := up_id (by rw [up_nj (by omega)]; exact z2)
      have i2 : up (up tm 1 (5 + nP) a1) 1 (25 + nP) 0 = up tm 1 (5 + nP) a1 := up_id (by rw [up_nj (by omega)]; exact z3)
      have i3 : up (up tm 1 (5 + nP) a1) 1 (35 + nP) 0 = up tm 1 (5 + nP) a1 := up_id (by rw [up_nj (by omega)]; exact z4)
      rw [i1, i2, i3] at t4
      have t5 : Tw 2 (up (up (up (up (up (up tx 116 0 0) 3 nP a1) 4 nP 0) 5 nP 0) 6 nP 0) 2 0 (nI (nP + 1))) (up (up (up tm 1 (5 + nP) a1) 1 255 (nI (nP + 1))) 0 4 0) := ((t4.upX (by omega)).upM (by omega)).upM (by omega)
      have ex : ∀ c j, c < 2 ∨ (c = 2 ∧ j ≠ 0) ∨ 6 < c → ¬ (c = 116 ∧ j = 0) → up (up (up (up (up (up tx 116 0 0) 3 nP a1) 4 nP 0) 5 nP 0) 6 nP 0) 2 0 (nI (nP + 1)) c j = tx c j := fun c j hc hj => by
        rw [up_if, if_neg (by omega), up_nc (by omega), up_nc (by omega), up_nc (by omega), up_nc (by omega), up_if, if_neg (by omega)]
      have em : ∀ c j, ¬ (c = 1 ∧ (j = 5 + nP ∨ j = 255)) → ¬ (c = 0 ∧ j = 4) → up (up (up tm 1 (5 + nP) a1) 1 255 (nI (nP + 1))) 0 4 0 c j = tm c j := fun c j h1 h2 => by
        rw [up_if, if_neg (by omega), up_if, if_neg (by omega), up_if, if_neg (by omega)]
      have hV : Val (840 * (n + 1)) (nP + 1) nM q (up (up (up tm 1 (5 + nP) a1) 1 255 (nI (nP + 1))) 0 4 0 1) := by
        have e : ∀ k, k < 255 → k ≠ 5 + nP → up (up (up tm 1 (5 + nP) a1) 1 255 (nI (nP + 1))) 0 4 0 1 k = tm 1 k := fun k hk hk2 => em _ _ (by omega) (by omega)
        refine ⟨fun m hm => ?_, fun m hm => ?_, fun m hm => ?_, fun m hm => ?_, fun m hm => ?_, fun p hp => ?_, fun p hp => ?_, fun m hm hm2 => ?_, fun p hp hp2 => ?_⟩
        · rw [e _ (by omega) (by omega)]
          rcases v1 m hm with e1 | ⟨p, e1, e2⟩
          · exact .inl e1
          · exact .inr ⟨p, by omega, e2⟩
        · rw [e _ (by omega) (by omega)]; exact v2 m hm
        · rw [e _ (by omega) (by omega)]; exact v3 m hm
        · rw [e _ (by omega) (by omega)]; exact v4 m hm
        · rw [e _ (by omega) (by omega)]; exact v5 m hm
        · rw [e _ (by omega) (by omega)]; exact v6 p hp
        · rw [e _ (by omega) (by omega)]
          obtain ⟨z, zz, ze⟩ := v7 p hp
          exact ⟨z, by omega, ze⟩
        · rw [e _ (by omega) (by omega), e _ (by omega) (by omega), e _ (by omega) (by omega)]; exact v8 m hm hm2
        · rw [e _ (by omega) (by omega), e _ (by omega) (by omega), e _ (by omega) (by omega), e _ (by omega) (by omega)]; exact v9 p (by omega) hp2
      refine Rl.forgot (Nat.le_succ n) (RW.of t5 ?_ ⟨up_c, ?_, ?_, ?_, by omega, w7⟩ hV ?_ ?_ (fun i hi => ?_)) h2 (fun c j hc => ?_) (fun c j hc => ?_) ?_ up_c
      · rw [em _ _ (by omega) (by omega), ex _ _ (by omega) (by omega)]; exact w1 4 (by decide)
      · rw [ex _ _ (by omega) (by omega)]; exact w3
      · rw [up_nc (by decide), up_c]
      · rw [em _ _ (by omega) (by omega)]; exact w5
      · have := Wd_mono w9 (Nat.le_succ nP) (Nat.le_refl nM)
        unfold Wd at this ⊢
        rw [vX_congr (tx := tx) (fun c j hc _ => ex _ _ (by omega) (by omega)), vM_congr (w := tm 1) (fun k hk => em _ _ (by omega) (by omega))]
        exact this
      · rw [em _ _ (by omega) (by omega)]; exact w10
      · rw [em _ _ (by omega) (by omega), ex _ _ (by omega) (by omega)]; exact w11 i hi
      · unfold coXf at hc
        exact ex _ _ (by omega) (by omega)
      · unfold coMf at hc
        exact em _ _ (by omega) (by omega)
      · rw [up_nc (by decide), up_nc (by decide), up_nc (by decide), up_nc (by decide), up_nc (by decide), up_c]
  · rw [bI_f c, if_pos rfl, if_pos rfl]
    exact ⟨-1, tx, tm, rfl, rfl, Rl_mono n tx tm h⟩
