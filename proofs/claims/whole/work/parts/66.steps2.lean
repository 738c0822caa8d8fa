/-! PURE PART. Steps: a mute, set, the tape's end, fault, book, look -/
theorem bz_cases (a : Int32) : bz a = 0 ∨ bz a = 1 := by
  unfold bz
  split
  · exact .inl rfl
  · exact .inr rfl
theorem step2 (F : Nat) : Step2 F Rl := by
  intro n tx tm a1 a2 a3 _ h
  obtain ⟨nP, nM, q, hW, h2⟩ := id h
  obtain ⟨w1, w2, w3, w4, w5, w6, w7, w8, w9, w10, w11⟩ := id hW
  generalize hz : bz a3 = z
  have z01 : z = 0 ∨ z = 1 := hz ▸ bz_cases a3
  unfold X10_mute X11_mute X10_mute_j24 X10_mute_j25
  rw [X10_within_eq, cal_some, X11_isIn_eq, cal_some]
  by_cases c : (0 : Int32) ≤ a1 ∧ a1 ≤ 9
  · rw [bI_t c, if_neg n10, if_neg n10, X10_within_eq, cal_some, X11_isIn_eq, cal_some]
    by_cases c2 : (0 : Int32) ≤ a2 ∧ a2 ≤ 9
    · rw [bI_t c2, if_neg n10, if_neg n10, if_neg n10, show tx 2 1 = nI nM from w3, ald_lit (by decide) (by decide), w5]
      by_cases hM : nM = 14
      · subst hM
        rw [if_neg (show ¬ nI 14 < 14 by decide), if_pos (show nI 14 = 14 from rfl)]
        exact ⟨-1, tx, tm, rfl, rfl, Rl_mono n tx tm h⟩
      · rw [if_pos (by rw [lit_lt (by decide) (by omega)]; omega), if_neg (by rw [lit_eq (by decide) (by omega)]; exact hM)]
        have hX : (cal (X1_forget F tx) fun r3 τ4 => cal (X8_addMute F 2 a1 a2 z τ4) fun r5 τ6 => some (r5, τ6)) = some (nI nM, up (up (up (up (up (up (up (up (up tx 116 0 0) 7 nM a1) 8 nM a2) 9 nM z) 10 nM (-1)) 11 nM 0) 12 nM 0) 13 nM 0) 2 1 (nI (nM + 1))) := by
          have e0 : ∀ σ : Tau, σ 2 1 = nI nM → ∀ c v, c ≠ 2 → up σ c nM v 2 1 = nI nM := fun σ hσ c v hc => by rw [up_nc (Ne.symm hc)]; exact hσ
          have f0 : up tx 116 0 0 2 1 = nI nM := by rw [up_nc (by decide)]; exact w3
          have f1 := e0 _ f0 7 a1 (by decide)
          have f2 := e0 _ f1 8 a2 (by decide)
          have tail : ∀ z, X8_addMute_j48 F 2 z (nI nM) (up (up (up tx 116 0 0) 7 nM a1) 8 nM a2) = some (nI nM, up (up (up (up (up (up (up (up (up tx 116 0 0) 7 nM a1) 8 nM a2) 9 nM z) 10 nM (-1)) 11 nM 0) 12 nM 0) 13 nM 0) 2 1 (nI (nM + 1))) := by
            intro z
            have f3 := e0 _ f2 9 z (by decide)
            have f4 := e0 _ f3 10 (-1) (by decide)
            have f5 := e0 _ f4 11 0 (by decide)
            have f6 := e0 _ f5 12 0 (by decide)
            have f7 := e0 _ f6 13 0 (by decide)
            unfold X8_addMute_j48
            simp only [Nat.reduceAdd]
            rw [ast_nI (by omega) (by omega), f3, ast_nI (by omega) (by omega), f4, ast_nI (by omega) (by omega), f5, ast_nI (by omega) (by omega), f6, ast_nI (by omega) (by omega), f7, litA', pst_eq, up_c, litS (by omega), Nat.add_sub_cancel]
          unfold X1_forget X8_addMute
          rw [pst_eq, cal_some]
          simp only [Nat.reduceAdd]
          rw [f0, if_pos (by rw [lit_lt (by decide) (by omega)]; omega), ast_nI (by omega) (by omega), f1, ast_nI (by omega) (by omega), f2]
          rcases z01 with rfl | rfl
          · rw [if_pos rfl, tail, cal_some]
          · rw [if_neg n10, tail, cal_some]
        have hMm : (ald tm 1 2244 256 fun v6 => ast tm 1 2244 (45 + v6) a1 fun τ7 => ast τ7 1 2244 (59 + v6) a2 fun τ8 => if z = 0 then X11_mute_j85 F v6 0 (73 + v6) τ8 else X11_mute_j85 F v6 1 (73 + v6) τ8) = some (nI nM, up (up (up (up (up (up tm 1 (45 + nM) a1) 1 (59 + nM) a2) 1 (73 + nM) z) 1 (87 + nM) (-1)) 1 256 (nI (nM + 1))) 0 4 0) := by
          have l : ∀ (σ : Tau) (k : Int32 → Option (Int32 × Tau)), ald σ 1 2244 256 k = k (σ 1 256) := fun σ k => ald_nI (j := 256) (by decide) (by decide)
          have tail : ∀ z, X11_mute_j85 F (nI nM) z (nI (73 + nM)) (up (up tm 1 (45 + nM) a1) 1 (59 + nM) a2) = some (nI nM, up (up (up (up (up (up tm 1 (45 + nM) a1) 1 (59 + nM) a2) 1 (73 + nM) z) 1 (87 + nM) (-1)) 1 256 (nI (nM + 1))) 0 4 0) := by
            intro z
            unfold X11_mute_j85 X11_forgets
            rw [ast_nI (by omega) (by omega), litA, ast_nI (by omega) (by omega), l, up_nj (by omega), up_nj (by omega), up_nj (by omega), up_nj (by omega), w5, litA', af 1 2244 256 256 rfl (by decide) (by decide), pst_eq, cal_some]
          rw [l, w5, litA, ast_nI (by omega) (by omega), litA, ast_nI (by omega) (by omega), litA]
          rcases z01 with rfl | rfl
          · rw [if_pos rfl, tail]
          · rw [if_neg n10, tail]
        rw [hX, hMm]
        refine ⟨nI nM, _, _, rfl, rfl, ?_⟩
        obtain ⟨v1, v2, v3, v4, v5, v6, v7, v8, v9⟩ := w8
        obtain ⟨z1, z2, z3⟩ := v8 nM (Nat.le_refl _) (by omega)
        have t0 : Tw 2 (up tx 116 0 0) tm := hW.tw.upX (by omega)
        have t1 := t0.chg a1 (show 45 + nM < 255 by omega) (sl_45 nM (by omega))
        have t2 := t1.chg a2 (show 59 + nM < 255 by omega) (sl_59 nM (by omega))
        have t3 := t2.chg z (show 73 + nM < 255 by omega) (sl_73 nM (by omega))
        have t4 := t3.chg (-1) (show 87 + nM < 255 by omega) (sl_87 nM (by omega))
        have t5 := t4.chg 0 (show 101 + nM < 255 by omega) (sl_101 nM (by omega))
        have t6 := t5.chg 0 (show 115 + nM < 255 by omega) (sl_115 nM (by omega))
        have t7 := t6.chg 0 (show 129 + nM < 255 by omega) (sl_129 nM (by omega))
        generalize hB : up (up (up (up tm 1 (45 + nM) a1) 1 (59 + nM) a2) 1 (73 + nM) z) 1 (87 + nM) (-1) = B at t4 t5 t6 t7
        have eB : ∀ c j, ¬ (c = 1 ∧ (j = 45 + nM ∨ j = 59 + nM ∨ j = 73 + nM ∨ j = 87 + nM)) → B c j = tm c j := fun c j hc => by
          rw [← hB, up_if, if_neg (by omega), up_if, if_neg (by omega), up_if, if_neg (by omega), up_if, if_neg (by omega)]
        have eB2 : B 1 (87 + nM) = -1 := by rw [← hB, up_c]
        have i1 : up B 1 (101 + nM) 0 = B := up_id (by rw [eB _ _ (by omega)]; exact z1)
        have i2 : up B 1 (115 + nM) 0 = B := up_id (by rw [eB _ _ (by omega)]; exact z2)
        have i3 : up B 1 (129 + nM) 0 = B := up_id (by rw [eB _ _ (by omega)]; exact z3)
        rw [i1, i2, i3] at t7
        have t8 : Tw 2 (up (up (up (up (up (up (up (up (up tx 116 0 0) 7 nM a1) 8 nM a2) 9 nM z) 10 nM (-1)) 11 nM 0) 12 nM 0) 13 nM 0) 2 1 (nI (nM + 1))) (up (up B 1 256 (nI (nM + 1))) 0 4 0) := ((t7.upX (by omega)).upM (by omega)).upM (by omega)
        have ex : ∀ c j, c < 2 ∨ (c = 2 ∧ j ≠ 1) ∨ (2 < c ∧ c < 7) ∨ 13 < c → ¬ (c = 116 ∧ j = 0) → up (up (up (up (up (up (up (up (up tx 116 0 0) 7 nM a1) 8 nM a2) 9 nM z) 10 nM (-1)) 11 nM 0) 12 nM 0) 13 nM 0) 2 1 (nI (nM + 1)) c j = tx c j := fun c j hc hj => by
          rw [up_if, if_neg (by omega), up_nc (by omega), up_nc (by omega), up_nc (by omega), up_nc (by omega), up_nc (by omega), up_nc (by omega), up_nc (by omega), up_if, if_neg (by omega)]
        have em : ∀ c j, ¬ (c = 1 ∧ j = 256) → ¬ (c = 0 ∧ j = 4) → up (up B 1 256 (nI (nM + 1))) 0 4 0 c j = B c j := fun c j h1 h2 => by
          rw [up_if, if_neg (by omega), up_if, if_neg (by omega)]
        have e : ∀ k, k < 255 → k ≠ 45 + nM → k ≠ 59 + nM → k ≠ 73 + nM → k ≠ 87 + nM → up (up B 1 256 (nI (nM + 1))) 0 4 0 1 k = tm 1 k := fun k hk h1 h2 h3 h4 => by rw [em _ _ (by omega) (by omega), eB _ _ (by omega)]
        have hV : Val (840 * (n + 1)) nP (nM + 1) q (up (up B 1 256 (nI (nM + 1))) 0 4 0 1) := by
          refine ⟨fun m hm => ?_, fun m hm => ?_, fun m hm => ?_, fun m hm => ?_, fun m hm => ?_, fun p hp => ?_, fun p hp => ?_, fun m hm hm2 => ?_, fun p hp hp2 => ?_⟩
          · by_cases em2 : m = nM
            · subst em2
              exact .inl (by rw [em _ _ (by omega) (by omega)]; exact eB2)
            · rw [e _ (by omega) (by omega) (by omega) (by omega) (by omega)]; exact v1 m (by omega)
          · rw [e _ (by omega) (by omega) (by omega) (by omega) (by omega)]
            by_cases em2 : m = nM
            · subst em2; exact ⟨0, by decide, z2⟩
            · exact v2 m (by omega)
          · rw [e _ (by omega) (by omega) (by omega) (by omega) (by omega)]
            by_cases em2 : m = nM
            · subst em2; exact ⟨0, by decide, z3⟩
            · exact v3 m (by omega)
          · rw [e _ (by omega) (by omega) (by omega) (by omega) (by omega)]; exact v4 m hm
          · rw [e _ (by omega) (by omega) (by omega) (by omega) (by omega)]; exact v5 m hm
          · rw [e _ (by omega) (by omega) (by omega) (by omega) (by omega)]; exact v6 p hp
          · rw [e _ (by omega) (by omega) (by omega) (by omega) (by omega)]
            obtain ⟨z, zz, ze⟩ := v7 p hp
            exact ⟨z, by omega, ze⟩
          · rw [e _ (by omega) (by omega) (by omega) (by omega) (by omega), e _ (by omega) (by omega) (by omega) (by omega) (by omega), e _ (by omega) (by omega) (by omega) (by omega) (by omega)]; exact v8 m (by omega) hm2
          · rw [e _ (by omega) (by omega) (by omega) (by omega) (by omega), e _ (by omega) (by omega) (by omega) (by omega) (by omega), e _ (by omega) (by omega) (by omega) (by omega) (by omega), e _ (by omega) (by omega) (by omega) (by omega) (by omega)]; exact v9 p hp hp2
        refine Rl.forgot (Nat.le_succ n) (RW.of t8 ?_ ⟨?_, up_c, ?_, ?_, w6, by omega⟩ hV ?_ ?_ (fun i hi => ?_)) h2 (fun c j hc => ?_) (fun c j hc => ?_) ?_ up_c
        · rw [e _ (by omega) (by omega) (by omega) (by omega) (by omega), ex _ _ (by omega) (by omega)]; exact w1 4 (by decide)
        · rw [ex _ _ (by omega) (by omega)]; exact w2
        · rw [em _ _ (by omega) (by omega), eB _ _ (by omega)]; exact w4
        · rw [up_nc (by decide), up_c]
        · have := Wd_mono w9 (Nat.le_refl nP) (Nat.le_succ nM)
          unfold Wd at this ⊢
          rw [vX_congr (tx := tx) (fun c j hc _ => ex _ _ (by omega) (by omega)), vM_congr (w := tm 1) (fun k hk => by rw [em _ _ (by omega) (by omega), eB _ _ (by omega)])]
          exact this
        · rw [e _ (by omega) (by omega) (by omega) (by omega) (by omega)]; exact w10
        · rw [em _ _ (by omega) (by omega), eB _ _ (by omega), ex _ _ (by omega) (by omega)]; exact w11 i hi
        · unfold coXf at hc
          exact ex _ _ (by omega) (by omega)
        · unfold coMf at hc
          rw [em _ _ (by omega) (by omega), eB _ _ (by omega)]
        · rw [up_nc (by decide), up_nc (by decide), up_nc (by decide), up_nc (by decide), up_nc (by decide), up_nc (by decide), up_nc (by decide), up_nc (by decide), up_c]
    · rw [bI_f c2, if_pos rfl, if_pos rfl, if_pos rfl]
      exact ⟨-1, tx, tm, rfl, rfl, Rl_mono n tx tm h⟩
  · rw [bI_f c, if_pos rfl, if_pos rfl, if_pos rfl]
    exact ⟨-1, tx, tm, rfl, rfl, Rl_mono n tx tm h⟩
theorem step3 (F : Nat) : Step3 F Rl := by
  intro n tx tm a1 a2 a3 _ h
  obtain ⟨nP, nM, q, hW, h2⟩ := id h
  obtain ⟨w1, w2, w3, w4, w5, w6, w7, w8, w9, w10, w11⟩ := id hW
  have no : ∀ (x m : Option (Int32 × Tau)), x = some (0, tx) → m = some (0, tm) → ∃ r tx' tm', x = some (r, tx') ∧ m = some (r, tm') ∧ Rl (n + 1) tx' tm' := fun x m e1 e2 => ⟨0, tx, tm, e1, e2, Rl_mono n tx tm h⟩
  have tl : ∀ (b : Nat) (j o k : Nat) (x m : Option (Int32 × Tau)), k < 255 ∧ k ≠ 4 → slo k = o ∧ sli k = j → Val (840 * n) nP nM q (upd (tm 1) k a3) → x = some (1, up (up tx (2 + o) j a3) 116 0 0) → m = some (1, up (up tm 1 k a3) 0 4 0) → ∃ r tx' tm', x = some (r, tx') ∧ m = some (r, tm') ∧ Rl (n + 1) tx' tm' :=
    fun _ j o k x m hk e hv e1 e2 => ⟨1, _, _, e1, e2, Rl.told hW h2 hk e hv⟩
  unfold X10_set X8_change X1_forget X11_set X11_set_j26 X11_set_j40 X11_set_j62 X11_set_j92 X11_set_j115 X11_set_j116 X11_set_j176 X11_forgets
  rw [X8_hasPower_eq (show tx 2 0 = nI nP from w2) w6, X11_isPower_eq w4 w6, X8_hasMute_eq (show tx 2 1 = nI nM from w3) w7, X11_isMute_eq w5 w7]
  simp only [X10_within_eq, X11_isIn_eq, cal_some, pst_eq, if_true]
  by_cases c0 : a1 = 0
  · rw [if_pos c0, if_pos c0]
    by_cases p : (0 : Int32) ≤ a2 ∧ a2 < nI nP
    · obtain ⟨j, hj, rfl⟩ := has_ex p (by omega)
      rw [bI_t p, if_neg n10, if_neg n10]
      by_cases c : (0 : Int32) ≤ a3 ∧ a3 ≤ 99
      · rw [bI_t c, if_neg n10, if_neg n10, if_pos c0, X10_put_in (N := 10) rfl (by omega) (by decide), cal_some, if_neg n10, cal_some, if_neg n10, litA, ast_nI (by omega) (by omega), nar1]
        exact tl 0 j 1 (5 + j) _ _ (by omega) (sl_5 j (by omega)) (Val_upd w8 w6 w7 _ _) rfl rfl
      · simp only [bI_f c, X10_put_0, cal_some, if_true, nar0]
        exact no _ _ rfl rfl
    · simp only [bI_f p, cal_some, if_true, nar0]
      exact no _ _ rfl rfl
  · rw [if_neg c0, if_neg c0]
    by_cases c1 : a1 = 1
    · rw [if_pos c1, if_pos c1]
      by_cases p : (0 : Int32) ≤ a2 ∧ a2 < nI nM
      · obtain ⟨j, hj, rfl⟩ := has_ex p (by omega)
        rw [bI_t p, if_neg n10, if_neg n10]
        by_cases c : (0 : Int32) ≤ a3 ∧ a3 ≤ 9
        · rw [bI_t c, if_neg n10, if_neg n10, if_neg c0, if_pos c1, X10_put_in (N := 14) rfl (by omega) (by decide), cal_some, if_neg n10, cal_some, if_neg n10, litA, ast_nI (by omega) (by omega), nar1]
          exact tl 0 j 5 (45 + j) _ _ (by omega) (sl_45 j (by omega)) (Val_upd w8 w6 w7 _ _) rfl rfl
        · simp only [bI_f c, X10_put_0, cal_some, if_true, nar0]
          exact no _ _ rfl rfl
      · simp only [bI_f p, cal_some, if_true, nar0]
        exact no _ _ rfl rfl
    · rw [if_neg c1, if_neg c1]
      by_cases c2 : a1 = 2
      · rw [if_pos c2, if_pos c2]
        by_cases p : (0 : Int32) ≤ a2 ∧ a2 < nI nM
        · obtain ⟨j, hj, rfl⟩ := has_ex p (by omega)
          rw [bI_t p, if_neg n10, if_neg n10]
          by_cases c : (0 : Int32) ≤ a3 ∧ a3 ≤ 9
          · rw [bI_t c, if_neg n10, if_neg n10, if_neg c0, if_neg c1, if_pos c2, X10_put_in (N := 14) rfl (by omega) (by decide), cal_some, if_neg n10, cal_some, if_neg n10, litA, ast_nI (by omega) (by omega), nar1]
            exact tl 0 j 6 (59 + j) _ _ (by omega) (sl_59 j (by omega)) (Val_upd w8 w6 w7 _ _) rfl rfl
          · simp only [bI_f c, X10_put_0, cal_some, if_true, nar0]
            exact no _ _ rfl rfl
        · simp only [bI_f p, cal_some, if_true, nar0]
          exact no _ _ rfl rfl
      · rw [if_neg c2, if_neg c2]
        by_cases c3 : a1 = 3
        · rw [if_pos c3, if_pos c3]
          by_cases p : (0 : Int32) ≤ a2 ∧ a2 < nI nM
          · obtain ⟨j, hj, rfl⟩ := has_ex p (by omega)
            rw [bI_t p, if_neg n10, if_neg n10]
            by_cases c : (0 : Int32) ≤ a3 ∧ a3 ≤ 1
            · rw [bI_t c, if_neg n10, if_neg n10, if_neg c0, if_neg c1, if_neg c2, if_pos c3, X10_put_in (N := 14) rfl (by omega) (by decide), cal_some, if_neg n10, cal_some, if_neg n10, litA, ast_nI (by omega) (by omega), nar1]
              exact tl 0 j 7 (73 + j) _ _ (by omega) (sl_73 j (by omega)) (Val_upd w8 w6 w7 _ _) rfl rfl
            · simp only [bI_f c, X10_put_0, cal_some, if_true, nar0]
              exact no _ _ rfl rfl
          · simp only [bI_f p, cal_some, if_true, nar0]
            exact no _ _ rfl rfl
        · rw [if_neg c3, if_neg c3]
          by_cases c4 : a1 = 4
          · rw [if_pos c4, if_pos c4]
            by_cases c : (0 : Int32) ≤ a3 ∧ a3 ≤ 99
            · rw [bI_t c, if_neg n10, if_neg n10, if_neg n10, cal_some, if_neg n10, if_neg c0, if_neg c1, if_neg c2, if_neg c3, ast_lit (by decide) (by decide), nar1]
              exact tl 0 2 0 0 _ _ (by decide) (by decide) (Val_upd w8 w6 w7 _ _) rfl rfl
            · simp only [bI_f c, cal_some, if_true, nar0]
              exact no _ _ rfl rfl
          · simp only [if_neg c4, cal_some, if_true, nar0]
            exact no _ _ rfl rfl
