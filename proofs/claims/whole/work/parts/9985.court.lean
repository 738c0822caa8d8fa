/-! PURE PART. Texts: a row of a court -/
def CouR (nP nM r : Nat) (cx cm : Nat → Int32) : Prop := cx (8 * r) = cm (4 * r) ∧
  ((∃ m p, m < nM ∧ p < nP ∧ cx (8 * r + 1) = 1 ∧ cm (4 * r + 1) = 11 ∧ cx (8 * r + 2) = nI m ∧ cm (4 * r + 2) = nI m ∧ cx (8 * r + 3) = nI p ∧ cm (4 * r + 3) = nI p) ∨
   (∃ m, m < nM ∧ cx (8 * r + 1) = 2 ∧ cm (4 * r + 1) = 12 ∧ cx (8 * r + 2) = nI m ∧ cm (4 * r + 2) = nI m) ∨
   (∃ p, p < nP ∧ cx (8 * r + 1) = 3 ∧ cm (4 * r + 1) = 13 ∧ cx (8 * r + 2) = nI p ∧ cm (4 * r + 2) = nI p ∧ cx (8 * r + 3) = cm (4 * r + 3)) ∨
   (∃ m, m < nM ∧ cx (8 * r + 1) = 4 ∧ cm (4 * r + 1) = 14 ∧ cx (8 * r + 2) = nI m ∧ cm (4 * r + 2) = nI m ∧ cx (8 * r + 3) = cm (4 * r + 3)))
theorem CouR.congr {nP nM r : Nat} {cx cm cx' cm' : Nat → Int32} (h : CouR nP nM r cx cm) (h1 : ∀ j, j < 8 → cx' (8 * r + j) = cx (8 * r + j)) (h2 : ∀ j, j < 4 → cm' (4 * r + j) = cm (4 * r + j)) : CouR nP nM r cx' cm' := by
  unfold CouR at h ⊢
  rw [show cx' (8 * r) = cx (8 * r) from h1 0 (by decide), h1 1 (by decide), h1 2 (by decide), h1 3 (by decide), show cm' (4 * r) = cm (4 * r) from h2 0 (by decide), h2 1 (by decide), h2 2 (by decide), h2 3 (by decide)]
  exact h
def I2 (nP nM n : Nat) (cx cm : Nat → Int32) : Prop := ∀ r, r < n → CouR nP nM r cx cm
theorem I2.snoc {nP nM n : Nat} {cx cm cx' cm' : Nat → Int32} (h : I2 nP nM n cx cm) (h1 : ∀ j, j < 8 * n → cx' j = cx j) (h2 : ∀ j, j < 4 * n → cm' j = cm j) (hn : CouR nP nM n cx' cm') : I2 nP nM (n + 1) cx' cm' := by
  intro r hr
  by_cases c : r = n
  · rw [c]; exact hn
  · exact (h r (by omega)).congr (fun j hj => h1 _ (by omega)) (fun j hj => h2 _ (by omega))
theorem court_tail {F l N i i0 n : Nat} {y : Nat → Nat} {Bx Bm τx τm : Tau} {lo hi : Int32} {I : (Nat → Int32) → (Nat → Int32) → Prop} (hF : 5000 ≤ F) (E : EnvT 2 y l N Bx Bm) (hn : n < 16) (h : XS 2 y l N Bx i τx) (h' : MS 2 y l Bm i τm) (hi0 : i0 ≤ i) (hI : ∀ v, v ≤ 9999 → lo ≤ nI v ∧ nI v ≤ hi → I (up τx 210 (8 * n + 3) (nI v) 210) (up τm 7 (4 * n + 3) (nI v) 7)) :
    Ok 2 y l N Bx Bm i0 I (cal (cal (X6_takeNumber F lo hi τx) fun r19 τ20 => cal (X10_put F 210 (nI (8 * n + 3)) r19 1 τ20) fun r21 τ22 => some (0, τ22)) fun r τ8 => X3_readRow_j89 F 2 τ8) (cal (cal (X11_number F (nI (4 * n + 3)) lo hi τm) fun r14 τ15 => some (vp_nar .boolean r14, τ15)) fun r5 τ6 => if r5 = 0 then (some (0, τ6)) else (X11_aRow_j43 F τ6)) ∨
    Fr Bx Bm (cal (cal (X6_takeNumber F lo hi τx) fun r19 τ20 => cal (X10_put F 210 (nI (8 * n + 3)) r19 1 τ20) fun r21 τ22 => some (0, τ22)) fun r τ8 => X3_readRow_j89 F 2 τ8) (cal (cal (X11_number F (nI (4 * n + 3)) lo hi τm) fun r14 τ15 => some (vp_nar .boolean r14, τ15)) fun r5 τ6 => if r5 = 0 then (some (0, τ6)) else (X11_aRow_j43 F τ6)) := by
  rcases num_sim (j := 4 * n + 3) (lo := lo) (hi := hi) hF E h h' (by omega) with ⟨τ2, τ3, v, a1, a2, a3, a4, a5, a6, a7, a8⟩ | ⟨τ2, τ3, r, k, q, a1, a2, a3, a4⟩
  · rw [a1, cal_some, put_X (by omega), cal_some, cal_some, a2, cal_some, nar1, cal_some, if_neg n10]
    refine row_end hF E (xs_put a3) a4 (by omega) ?_
    have e1 : up τ2 210 (8 * n + 3) (nI v) 210 = up τx 210 (8 * n + 3) (nI v) 210 := funext fun k => by
      rw [up_if, up_if, a7 _ _ (by decide)]
    have e2 : τ3 7 = up τm 7 (4 * n + 3) (nI v) 7 := funext fun k => a8 _ _ (by omega)
    rw [e1, e2]
    exact hI v a6 a5
  · right
    rw [a1, cal_some, put_X (by omega), cal_some, cal_some, a2, cal_some, nar0, cal_some, if_pos rfl]
    exact ⟨0, _, τ3, k, q, xd_j89 (xd_put a3), rfl, xd_put a3, a4⟩
theorem dt_j87 {F k p n : Nat} {Bx τ : Tau} {a3 z0 : Int32} (hn : n < 16) (h : XD Bx k p τ) : ∃ r τ'', X3_readCourt_j87 F 2 (nI (8 * n)) a3 z0 τ = some (r, τ'') ∧ XD Bx k p τ'' := by
  have k82 : nI (8 * n) + 2 = nI (8 * n + 2) := litA'
  have k83 : nI (8 * n) + 3 = nI (8 * n + 3) := litA'
  unfold X3_readCourt_j87
  rw [k82, k83]
  refine dt_num h fun τ' h => dt_put (by omega) h fun τ' h => ?_
  by_cases c1 : a3 = 1
  · rw [if_pos c1]
    exact dt_num h fun τ' h => dt_put (by omega) h fun τ' h => ⟨0, τ', rfl, h⟩
  · rw [if_neg c1]
    by_cases c2 : a3 = 2
    · rw [if_pos c2]; exact ⟨0, τ', rfl, h⟩
    · rw [if_neg c2]
      by_cases c3 : a3 = 3
      · rw [if_pos c3]
        exact dt_num h fun τ' h => dt_put (by omega) h fun τ' h => ⟨0, τ', rfl, h⟩
      · rw [if_neg c3]
        by_cases c4 : a3 = 4
        · rw [if_pos c4]
          exact dt_num h fun τ' h => dt_put (by omega) h fun τ' h => ⟨0, τ', rfl, h⟩
        · rw [if_neg c4]; exact ⟨0, τ', rfl, h⟩
theorem court_wd : ∀ u, u < 5 → wcd 2 u = if u = 0 then 7 else 10 + u := by decide
theorem body2 {F l N i n nP nM : Nat} {y : Nat → Nat} {Bx Bm τx τm : Tau} (hF : 5000 ≤ F) (E : EnvT 2 y l N Bx Bm) (hT : twn nP nM Bx Bm) (hnP : nP ≤ 10) (hnM : nM ≤ 14) (hn : n < 16) (h15 : Bm 0 15 = nI n) (h : XS 2 y l N Bx (i + 1) τx) (h' : MS 2 y l Bm i τm) (hw : tk 2 y l i = .wrd 0) (hI : I2 nP nM n (τx 210) (τm 7)) :
    Ok 2 y l N Bx Bm i (I2 nP nM (n + 1)) (cal (X3_readCourt F 2 (8 * nI n) τx) fun r7 τ8 => X3_readRow_j89 F 2 τ8) (X11_aRow F τm) ∨ Fr Bx Bm (cal (X3_readCourt F 2 (8 * nI n) τx) fun r7 τ8 => X3_readRow_j89 F 2 τ8) (X11_aRow F τm) := by
  have k8 : (8 : Int32) * nI n = nI (8 * n) := litM
  have k81 : nI (8 * n) + 1 = nI (8 * n + 1) := litA'
  have k82 : nI (8 * n) + 2 = nI (8 * n + 2) := litA'
  have k83 : nI (8 * n) + 3 = nI (8 * n + 3) := litA'
  have k4 : (4 : Int32) * nI n = nI (4 * n) := litM
  have k41 : nI (4 * n) + 1 = nI (4 * n + 1) := litA'
  have k42 : nI (4 * n) + 2 = nI (4 * n + 2) := litA'
  have k43 : nI (4 * n) + 3 = nI (4 * n + 3) := litA'
  have hm15 : τm 0 15 = nI n := (h'.2.2 _ _ (by unfold frM; omega)).trans h15
  obtain ⟨τ1, n1, n2, n3⟩ := need_M (u := 0) hF E h' hw
  unfold X11_aRow
  rw [ms_12 E h', if_neg (by decide), if_pos (show nI 2 = 2 from rfl)]
  unfold X3_readCourt X11_aCourtDay X11_told
  rw [hm15, k4, k42, show X11_need F 7 τm = _ from n1, cal_some, if_neg n10, k8, k81]
  rcases num_sim (j := 4 * n) (lo := 0) (hi := 999) hF E h n2 (by omega) with ⟨τ2, τ3, d, a1, a2, a3, a4, a5, a6, a7, a8⟩ | ⟨τ2, τ3, r, k, q, a1, a2, a3, a4⟩
  · rw [a1, cal_some, put_X (by omega), cal_some, a2, cal_some, if_neg n10, cal_some, if_neg n10]
    have tko := tk_ok (a := 2) (y := y) (l := l) (i := i + 1 + 1)
    have hx2 := xs_put (j := 8 * n) (v := nI d) a3
    rcases xs_word (F := F) hx2 with ⟨u, hu, w1⟩ | ⟨hu, w1⟩
    · have hu5 : u < 5 := by rw [hu] at tko; exact tko
      have hcd : τ3 0 18 = nI (if u = 0 then 7 else 10 + u) := by rw [ms_code a4, hu, ← court_wd u hu5]; rfl
      by_cases cu : 1 ≤ u
      · have hlt := tk_N E.2.2.2.2.1 hx2.2.2.2.1 (by rw [hu]; exact (nofun))
        obtain ⟨τ4, b1, b2, b3⟩ := xs_skip (F := F) E hx2 hlt
        obtain ⟨τ5, c1, c2, c3⟩ := ms_next hF E (ms_put (j := 4 * n + 1) (v := nI (10 + u)) a4)
        rw [if_neg (show ¬ u = 0 by omega)] at hcd
        have hx4 := xs_put (j := 8 * n + 1) (v := nI u) b2
        have tx4 := twn_X hT hx4
        have tm3 := twn_M hT a4
        have tm5 := twn_M hT c2
        rw [w1, cal_some, X10_within_eq, bI_t (show (1 : Int32) ≤ nI u ∧ nI u ≤ 4 from (in_iff (lo := 1) (hi := 4) (by decide) (by omega) (by decide)).mpr (by omega)), cal_some, if_neg n10, b1, cal_some, put_X (by omega), cal_some, tx4.1, tx4.2,
          hcd, X11_isIn_eq, bI_t (show (11 : Int32) ≤ nI (10 + u) ∧ nI (10 + u) ≤ 14 from (in_iff (lo := 11) (hi := 14) (by decide) (by omega) (by decide)).mpr (by omega)), cal_some, if_neg n10, k41, ast_nI (by omega) (by omega), c1, cal_some, ald_lit (by decide) (by decide), ald_lit (by decide) (by decide), tm5.1, tm5.2]
        -- the limits of the one that is named
        have lim : ∃ z : Int32, z = (if u = 3 then nI nP - 1 else nI nM - 1) ∧ (if nI u = 3 then X3_readCourt_j87 F 2 (nI (8 * n)) (nI u) (nI nP - 1) (up τ4 210 (8 * n + 1) (nI u)) else X3_readCourt_j87 F 2 (nI (8 * n)) (nI u) (nI nM - 1) (up τ4 210 (8 * n + 1) (nI u))) = X3_readCourt_j87 F 2 (nI (8 * n)) (nI u) z (up τ4 210 (8 * n + 1) (nI u)) ∧ (if nI (10 + u) = 13 then X11_aCourtDay_j88 F (nI (4 * n)) (nI (10 + u)) (nI nP) 0 (nI (4 * n + 2)) τ5 else X11_aCourtDay_j88 F (nI (4 * n)) (nI (10 + u)) (nI nM) 0 (nI (4 * n + 2)) τ5) = cal (X11_number F (nI (4 * n + 2)) 0 z τ5) fun r11 τ12 => if r11 = 0 then (some (0, τ12)) else (if nI (10 + u) = 12 then (some (1, τ12)) else (if nI (10 + u) = 11 then (ald τ12 1 2244 255 fun v13 => cal (X11_number F (nI (4 * n) + 3) 0 (v13 - 1) τ12) fun r14 τ15 => some (vp_nar .boolean r14, τ15)) else (if nI (10 + u) = 13 then (cal (X11_number F (nI (4 * n) + 3) 1 99 τ12) fun r16 τ17 => some (vp_nar .boolean r16, τ17)) else (cal (X11_number F (nI (4 * n) + 3) 0 9 τ12) fun r18 τ19 => some (vp_nar .boolean r18, τ19))))) := by
          by_cases c : u = 3
          · exact ⟨nI nP - 1, (if_pos c).symm, if_pos (by rw [c]; rfl), if_pos (by rw [c]; rfl)⟩
          · exact ⟨nI nM - 1, (if_neg c).symm, if_neg (by rw [lit_eq (by decide) (by omega)]; exact c), if_neg (by rw [lit_eq (by decide) (by omega)]; omega)⟩
        obtain ⟨z, hz, l1, l2⟩ := lim
        rw [l1, l2]
        unfold X3_readCourt_j87
        rw [k82, k83, k43]
        have g3 : ∀ k, τ3 7 k = up τ1 7 (4 * n) (nI d) 7 k := fun k => a8 7 k (by omega)
        have g1 : ∀ k, τ1 7 k = τm 7 k := fun k => n3 7 k (by omega)
        have g5 : ∀ k, τ5 7 k = up τ3 7 (4 * n + 1) (nI (10 + u)) 7 k := fun k => c3 7 k (by omega)
        rcases num_sim (j := 4 * n + 2) (lo := 0) (hi := z) hF E hx4 c2 (by omega) with ⟨τ6, τ7, v, d1, d2, d3, d4, d5, d6, d7, d8⟩ | ⟨τ6, τ7, r, k, q, d1, d2, d3, d4⟩
        · have hx6 := xs_put (j := 8 * n + 2) (v := nI v) d3
          have tx6 := twn_X hT hx6
          have tm7 := twn_M hT d4
          have g7 : ∀ k, τ7 7 k = up τ5 7 (4 * n + 2) (nI v) 7 k := fun k => d8 7 k (by omega)
          rw [d1, cal_some, put_X (by omega), cal_some, d2, cal_some, if_neg n10, tx6.1, ald_lit (by decide) (by decide), tm7.1]
          -- the cells of the row
          have X0 : up τ6 210 (8 * n + 2) (nI v) 210 (8 * n) = nI d := by rw [up_nj (by omega), d7 _ _ (by decide), up_nj (by omega), b3 _ _ (by omega), up_c]
          have X1 : up τ6 210 (8 * n + 2) (nI v) 210 (8 * n + 1) = nI u := by rw [up_nj (by omega), d7 _ _ (by decide), up_c]
          have X2 : up τ6 210 (8 * n + 2) (nI v) 210 (8 * n + 2) = nI v := up_c
          have Xo : ∀ j, j < 8 * n → up τ6 210 (8 * n + 2) (nI v) 210 j = τx 210 j := fun j hj => by rw [up_nj (by omega), d7 _ _ (by decide), up_nj (by omega), b3 _ _ (by omega), up_nj (by omega), a7 _ _ (by decide)]
          have M0 : τ7 7 (4 * n) = nI d := by rw [g7, up_nj (by omega), g5, up_nj (by omega), g3, up_c]
          have M1 : τ7 7 (4 * n + 1) = nI (10 + u) := by rw [g7, up_nj (by omega), g5, up_c]
          have M2 : τ7 7 (4 * n + 2) = nI v := by rw [g7, up_c]
          have Mo : ∀ j, j < 4 * n → τ7 7 j = τm 7 j := fun j hj => by rw [g7, up_nj (by omega), g5, up_nj (by omega), g3, up_nj (by omega), g1]
          have hu1 : u = 1 ∨ u = 2 ∨ u = 3 ∨ u = 4 := by omega
          rcases hu1 with rfl | rfl | rfl | rfl
          · have hv := below (P := nM) (by omega) (by rw [if_neg (by decide)] at hz; rw [hz] at d5; exact d5) d6
            rw [if_pos (show nI 1 = 1 from rfl), if_neg (by decide), if_pos (show nI (10 + 1) = 11 from rfl)]
            refine court_tail hF E hn hx6 d4 (by omega) fun w hw9 hwr => ?_
            have hwp := below (P := nP) (by omega) hwr hw9
            refine hI.snoc (fun j hj => by rw [up_nj (by omega)]; exact Xo j hj) (fun j hj => by rw [up_nj (by omega)]; exact Mo j hj) ⟨by rw [up_nj (by omega), X0, up_nj (by omega), M0], .inl ⟨v, w, hv, hwp, by rw [up_nj (by omega), X1]; rfl, by rw [up_nj (by omega), M1]; rfl, by rw [up_nj (by omega), X2], by rw [up_nj (by omega), M2], up_c, up_c⟩⟩
          · have hv := below (P := nM) (by omega) (by rw [if_neg (by decide)] at hz; rw [hz] at d5; exact d5) d6
            rw [if_neg (by decide), if_pos (show nI 2 = 2 from rfl), if_pos (show nI (10 + 2) = 12 from rfl), cal_some, cal_some, if_neg n10]
            exact row_end hF E hx6 d4 (by omega) (hI.snoc Xo Mo ⟨by rw [X0, M0], .inr (.inl ⟨v, hv, by rw [X1]; rfl, by rw [M1]; rfl, X2, M2⟩)⟩)
          · have hv := below (P := nP) (by omega) (by rw [if_pos rfl] at hz; rw [hz] at d5; exact d5) d6
            rw [if_neg (by decide), if_neg (by decide), if_pos (show nI 3 = 3 from rfl), if_neg (by decide), if_neg (by decide), if_pos (show nI (10 + 3) = 13 from rfl)]
            refine court_tail hF E hn hx6 d4 (by omega) fun w hw9 hwr => ?_
            refine hI.snoc (fun j hj => by rw [up_nj (by omega)]; exact Xo j hj) (fun j hj => by rw [up_nj (by omega)]; exact Mo j hj) ⟨by rw [up_nj (by omega), X0, up_nj (by omega), M0], .inr (.inr (.inl ⟨v, hv, by rw [up_nj (by omega), X1]; rfl, by rw [up_nj (by omega), M1]; rfl, by rw [up_nj (by omega), X2], by rw [up_nj (by omega), M2], by rw [up_c, up_c]⟩))⟩
          · have hv := below (P := nM) (by omega) (by rw [if_neg (by decide)] at hz; rw [hz] at d5; exact d5) d6
            rw [if_neg (by decide), if_neg (by decide), if_neg (by decide), if_pos (show nI 4 = 4 from rfl), if_neg (by decide), if_neg (by decide), if_neg (by decide)]
            refine court_tail hF E hn hx6 d4 (by omega) fun w hw9 hwr => ?_
            refine hI.snoc (fun j hj => by rw [up_nj (by omega)]; exact Xo j hj) (fun j hj => by rw [up_nj (by omega)]; exact Mo j hj) ⟨by rw [up_nj (by omega), X0, up_nj (by omega), M0], .inr (.inr (.inr ⟨v, hv, by rw [up_nj (by omega), X1]; rfl, by rw [up_nj (by omega), M1]; rfl, by rw [up_nj (by omega), X2], by rw [up_nj (by omega), M2], by rw [up_c, up_c]⟩))⟩
        · right
          have hd := xd_put (j := 8 * n + 2) (v := r) d3
          have hx := twn_D hT hd
          rw [d1, cal_some, put_X (by omega), cal_some, d2, cal_some, if_pos rfl, cal_some, if_pos rfl]
          have : ∃ r' τ', (if nI u = 1 then (cal (X6_takeNumber F 0 ((up τ6 210 (8 * n + 2) r 2 0) - 1) (up τ6 210 (8 * n + 2) r)) fun r19 τ20 => cal (X10_put F 210 (nI (8 * n + 3)) r19 1 τ20) fun r21 τ22 => some ((0 : Int32), τ22)) else if nI u = 2 then (some (0, up τ6 210 (8 * n + 2) r)) else if nI u = 3 then (cal (X6_takeNumber F 1 99 (up τ6 210 (8 * n + 2) r)) fun r23 τ24 => cal (X10_put F 210 (nI (8 * n + 3)) r23 1 τ24) fun r25 τ26 => some (0, τ26)) else if nI u = 4 then (cal (X6_takeNumber F 0 9 (up τ6 210 (8 * n + 2) r)) fun r27 τ28 => cal (X10_put F 210 (nI (8 * n + 3)) r27 1 τ28) fun r29 τ30 => some (0, τ30)) else (some (0, up τ6 210 (8 * n + 2) r))) = some (r', τ') ∧ XD Bx k q τ' := by
            have hE := hd
            split
            · exact dt_num hE fun τ' h => dt_put (by omega) h fun τ' h => ⟨0, τ', rfl, h⟩
            · split
              · exact ⟨0, _, rfl, hE⟩
              · split
                · exact dt_num hE fun τ' h => dt_put (by omega) h fun τ' h => ⟨0, τ', rfl, h⟩
                · split
                  · exact dt_num hE fun τ' h => dt_put (by omega) h fun τ' h => ⟨0, τ', rfl, h⟩
                  · exact ⟨0, _, rfl, hE⟩
          obtain ⟨r', τ', z1, z2⟩ := this
          rw [z1, cal_some]
          exact ⟨0, τ', τ7, k, q, xd_j89 z2, rfl, z2, d4⟩
      · right
        obtain rfl : u = 0 := by omega
        obtain ⟨τ4, t1, t2, t3⟩ := xs_ref (F := F) (k := 1) hx2 (by decide)
        obtain ⟨τ5, u1, u2⟩ := ms_bad (F := F) (k := 1) a4
        rw [w1, cal_some, X10_within_eq, bI_f (by decide), cal_some, if_pos rfl, show X6_refuse F 1 (up τ2 210 (8 * n) (nI d)) = _ from t1, cal_some, cal_some, hcd, X11_isIn_eq, bI_f (by decide), cal_some, if_pos rfl, show X11_bad F 1 τ3 = _ from u1, cal_some, nar0, cal_some, if_pos rfl]
        exact ⟨0, τ4, τ5, 1, _, xd_j89 t2, rfl, t2, u2⟩
    · right
      obtain ⟨τ4, t1, t2, t3⟩ := xs_ref (F := F) (k := 1) hx2 (by decide)
      obtain ⟨τ5, u1, u2⟩ := ms_bad (F := F) (k := 1) a4
      have in1 : ∀ c : Nat, c < 1000 → ¬ (11 ≤ c ∧ c ≤ 14) → X11_isIn F (nI c) 11 14 τ3 = some (0, τ3) := by
        intro c h1 h2
        rw [X11_isIn_eq, bI_f (show ¬ ((11 : Int32) ≤ nI c ∧ nI c ≤ 14) from fun z => h2 ((in_iff (lo := 11) (hi := 14) (by decide) (by omega) (by decide)).mp z))]
      have hin : X11_isIn F (cM 2 (tk 2 y l (i + 1 + 1))) 11 14 τ3 = some (0, τ3) := by
        generalize tk 2 y l (i + 1 + 1) = t at hu tko
        cases t using Tok.cs with
        | fin => exact in1 0 (by decide) (by decide)
        | unk => exact in1 1 (by decide) (by decide)
        | num n => exact in1 2 (by decide) (by decide)
        | sgn b =>
          have hb := sgn_rng tko
          exact in1 (100 + b) (by omega) (by omega)
        | wrd u => exact absurd rfl (hu u)
      rw [w1, cal_some, X10_within_eq, bI_f (by decide), cal_some, if_pos rfl, show X6_refuse F 1 (up τ2 210 (8 * n) (nI d)) = _ from t1, cal_some, cal_some, ms_code a4, hin, cal_some, if_pos rfl, show X11_bad F 1 τ3 = _ from u1, cal_some, nar0, cal_some, if_pos rfl]
      exact ⟨0, τ4, τ5, 1, _, xd_j89 t2, rfl, t2, u2⟩
  · right
    have hd := xd_put (j := 8 * n) (v := r) a3
    rw [a1, cal_some, put_X (by omega), cal_some, a2, cal_some, if_pos rfl, cal_some, if_pos rfl, cal_some, if_pos rfl, xd_word hd, cal_some, X10_within_eq, bI_f (by decide), cal_some, if_pos rfl, xd_ref hd, cal_some, cal_some]
    exact ⟨0, _, τ3, k, q, xd_j89 hd, rfl, hd, a4⟩
