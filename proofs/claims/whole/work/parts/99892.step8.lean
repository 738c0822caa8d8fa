/-! PURE PART. Step 8: a text -/
theorem B0_at {tm : Tau} {c j : Nat} (h : ¬ (c = 0 ∧ (j = 23 ∨ j = 25))) : up (up tm 0 23 0) 0 25 (-1) c j = tm c j := by rw [up_if, if_neg (by omega), up_if, if_neg (by omega)]
theorem text_fail {F n nP nM k p : Nat} {q : Nat → Nat} {tx tm τx τm : Tau} {a1 : Int32} (hW : RW (840 * n) nP nM q 1 tx (tm 1)) (h : RH (840 * n) nP nM q tx tm ∧ Rim (840 * n) tx tm ∧ Rtp tx tm ∧ Rfa tx tm ∧ Rsi tx) (hX : XW tx k p τx) (hM : MW (up (up tm 0 23 0) 0 25 (-1)) k p τm) : ∃ (r : Int32) (tx' tm' : Tau), X10_text_j29 F a1 (-1) τx = some (r, tx') ∧ X11_text_j60 F a1 0 τm = some (r, tm') ∧ Rl (n + 1) tx' tm' := by
  obtain ⟨x1, x2, x3, x4⟩ := hX
  obtain ⟨m1, m2, m3⟩ := hM
  refine ⟨-1, up τx 197 0 0, up (up (up τm 0 16 0) 0 23 (nI k)) 0 25 (nI p), ?_, ?_, Rl_text1 ((hW.mono (by omega)).congr (fun c j hc => ?_) (fun k _ => ?_)) h (fun c j hc => ?_) (fun c j hc => ?_) up_c ?_ ?_ ?_⟩
  · unfold X10_text_j29
    rw [pst_eq, if_pos rfl]
  · unfold X11_text_j60
    rw [pst_eq, if_pos rfl, pst_eq, pst_eq, up_nj (show (22 : Nat) ≠ 23 by decide), up_nj (show (22 : Nat) ≠ 16 by decide), up_nj (show (21 : Nat) ≠ 16 by decide), m1, m2]
  · rw [up_nc (by omega), x4 c j (by unfold gX; omega)]
  · rw [up_nc (by decide), up_nc (by decide), up_nc (by decide), m3 _ _ (by unfold gM; omega), B0_at (by omega)]
  · rw [up_nc (by omega), x4 c j (by unfold gX; omega)]
  · rw [up_if, if_neg (by omega), up_if, if_neg (by omega), up_if, if_neg (by omega), m3 _ _ (by unfold gM; omega), B0_at (by omega)]
  · rw [up_nj (by decide), up_nj (by decide), up_c]
  · rw [up_nj (by decide), x2, up_nj (by decide), up_c]
  · rw [up_nj (by decide), x3, up_c]
theorem step8 (F : Nat) (hF : 5000 ≤ F) : Step8 F Rl := by
  intro n tx tm a1 _ hR
  obtain ⟨nP, nM, q, hW, hRest⟩ := hR
  obtain ⟨l, hl, t1, t2, t3⟩ := hRest.2.2.1
  have hy : ∀ i, i < l → ix (tx 198 i) < 256 ∧ tx 198 i = nI (ix (tx 198 i)) ∧ tm 8 i = nI (ix (tx 198 i)) := fun i hi => by
    obtain ⟨b, b1, b2, b3⟩ := t3 i hi
    have e : ix (tx 198 i) = b := by rw [b2, ix_nI (by omega)]
    rw [e]
    exact ⟨b1, b2, b3⟩
  have hXY : XY (fun i => ix (tx 198 i)) l tx := ⟨t1, fun i hi => ⟨(hy i hi).1, (hy i hi).2.1⟩⟩
  by_cases ha : (0 : Int32) ≤ a1 ∧ a1 ≤ 3
  · obtain ⟨a, -, ha3, rfl⟩ := in_ex (lo := 0) (hi := 3) ha (by decide) (by decide)
    obtain ⟨τ0, n1, n2, n3, n4⟩ := start_M (F := F) (a := a) (l := l) (y := fun i => ix (tx 198 i)) (B0 := up (up tm 0 23 0) 0 25 (-1)) hF (by omega) hl (by rw [B0_at (by omega)]; exact t2) (fun i hi => ⟨(hy i hi).1, by rw [B0_at (by omega)]; exact (hy i hi).2.2⟩)
    have eM : X11_text F (nI a) tm = if nI a = 0 then (cal (X11_readsLaw F τ0) fun r11 τ12 => X11_text_j60 F (nI a) r11 τ12) else (cal (X11_readsRows F τ0) fun r18 τ19 => X11_text_j60 F (nI a) r18 τ19) := by
      unfold X11_text
      rw [pst_eq, pst_eq, X11_isIn_eq, bI_t ha, cal_some, if_neg n10, pst_eq, pst_eq, pst_eq, n1, cal_some]
    have eX : X10_text F (nI a) tx = if nI a = 0 then (cal (X3_readLaw F tx) fun r1 τ2 => X10_text_j29 F (nI a) r1 τ2) else (cal (X3_readRows F 2 (nI a) tx) fun r10 τ11 => X10_text_j29 F (nI a) r10 τ11) := rfl
    rw [eX, eM]
    have hRWc : ∀ τx τm : Tau, (∀ c j, ¬ gX c j → τx c j = tx c j) → (∀ c j, ¬ gM c j → τm c j = up (up tm 0 23 0) 0 25 (-1) c j) → RW (840 * (n + 1)) nP nM q 1 (up τx 197 0 0) (up τm 0 16 0 1) := fun τx τm h1 h2 => (hW.mono (by omega)).congr (fun c j hc => by rw [up_nc (by omega), h1 c j (by unfold gX; omega)]) (fun k _ => by rw [up_nc (by decide), h2 _ _ (by unfold gM; omega), B0_at (by omega)])
    by_cases a0 : a = 0
    · subst a0
      rw [if_pos (show nI 0 = 0 from rfl), if_pos (show nI 0 = 0 from rfl)]
      rcases law_read hF hl hXY n2 n3 n4 with ⟨τx, τm, i', n', ops, N, u1, u2, u3, u4, u5, u6, u7, u8⟩ | ⟨τx, τm, k, p, u1, u2, u3, u4⟩
      · obtain ⟨x1, x2, x3, x4, x5, x6, x7, x8⟩ := u3
        obtain ⟨y1, y2, y3, y4, y5, y6⟩ := u4
        obtain ⟨tx', tm', v1, v2, v3, v4, v5⟩ := fin0 (F := F) (n := n') (τx := up τx 197 0 0) (τm := up τm 0 16 0) (ops := ops) hF (hRWc τx τm x8 y6) u5 u6 u7 ⟨by rw [up_nc (by decide)]; exact x6.1, fun j v hj => by rw [up_nc (by decide)]; exact x6.2 j v hj⟩ (by rw [up_nc (by decide)]; exact x7) ⟨by rw [up_nj (by decide)]; exact y4.1, fun j o hj => by rw [up_nc (by decide), up_nc (by decide)]; exact y4.2 j o hj⟩ (by rw [up_nj (by decide)]; exact y5) (fun k hk => by
          have := (u8 k hk).more (new := []) (τx' := up τx 197 0 0) (τm' := up τm 0 16 0) (fun c h1 h2 => up_nc (by omega)) (fun j _ => up_nc (by decide))
          rw [List.append_nil] at this
          exact this)
        refine ⟨nI n', tx', tm', ?_, ?_, Rl_text1 v3 hRest (fun c j hc => ?_) (fun c j hc => ?_) ?_ ?_ ?_ ?_⟩
        · rw [u1, cal_some]
          unfold X10_text_j29
          rw [pst_eq, if_neg (fun z => (nI_m1 (by omega)).mp z), if_pos (show nI 0 = 0 from rfl), v1, cal_some]
        · rw [u2, cal_some]
          unfold X11_text_j60 X11_putsText
          rw [pst_eq, if_neg n10, if_pos (show nI 0 = 0 from rfl), v2, cal_some, cal_some]
        · rw [v4 _ _ (by omega), up_nc (by omega), x8 c j (by unfold gX; omega)]
        · rw [v5 _ _ (by omega), up_if, if_neg (by omega), y6 c j (by unfold gM; omega), B0_at (by omega)]
        · rw [v4 _ _ (by omega), up_c]
        · rw [v5 _ _ (by omega), up_c]
        · rw [v4 _ _ (by omega), v5 _ _ (by omega), up_nj (by decide), up_nj (by decide), x1, y6 _ _ (by unfold gM; omega), up_nj (by decide), up_c]
        · rw [v4 _ _ (by omega), v5 _ _ (by omega), up_nj (by decide), up_nj (by decide), x2, y6 _ _ (by unfold gM; omega), up_c]
      · rw [u1, cal_some, u2, cal_some]
        exact text_fail hW hRest u3 u4
    · have na0 : ¬ nI a = 0 := nI_ne0 (by omega) (by omega)
      rw [if_neg na0, if_neg na0]
      obtain ⟨b1, b2, b3, b4, b5, b6, b7, -⟩ := id hW
      rcases rows_read (nP := nP) (nM := nM) hF (show 1 ≤ a ∧ a < 4 by omega) hl b6 b7 hXY ⟨b2, b3⟩ ⟨by rw [B0_at (by omega)]; exact b4, by rw [B0_at (by omega)]; exact b5⟩ n2 n3 n4 with ⟨τx, τm, n', u1, u2, u3, u4, u5, u6, u7, u8, u9⟩ | ⟨τx, τm, k, p, u1, u2, u3, u4⟩
      · have e210 : up τx 197 0 0 210 = τx 210 := funext fun k => up_nc (by decide)
        have e7 : up τm 0 16 0 7 = τm 7 := funext fun k => up_nc (by decide)
        have h15 : up τm 0 16 0 0 15 = nI n' := by rw [up_nj (by decide)]; exact u7
        have hf : finR F (840 * (n + 1)) nP nM a n' q (up τx 197 0 0) (up τm 0 16 0) := by
          have hA : a = 1 ∨ a = 2 ∨ a = 3 := by omega
          unfold InvR at u9
          rcases hA with rfl | rfl | rfl
          · exact fin1 hF (hRWc τx τm u5 u6) u8 h15 (by rw [e210, e7]; exact u9)
          · exact fin2 hF (hRWc τx τm u5 u6) u8 h15 (by rw [e210, e7]; exact u9)
          · exact fin3 hF (hRWc τx τm u5 u6) u8 h15 (by rw [e210, e7]; exact u9)
        obtain ⟨tx', tm', q', v1, v2, v3, v4, v5, v6⟩ := hf
        refine ⟨nI n', up tx' 116 0 0, tm', ?_, ?_, Rl_text2 (v3.congr (fun c j hc => up_nc (by omega)) (fun _ _ => rfl)) hRest (fun c j hc => ?_) (fun c j hc => ?_) ?_ ?_ ?_ ?_ up_c v4⟩
        · rw [u1, cal_some]
          unfold X10_text_j29 X1_forget
          rw [pst_eq, if_neg (fun z => (nI_m1 (by omega)).mp z), if_neg na0, v1, cal_some, pst_eq, cal_some]
        · rw [u2, cal_some]
          unfold X11_text_j60
          rw [pst_eq, if_neg n10, v2, cal_some]
        · rw [up_if, if_neg (by omega), v5 _ _ (by omega), up_nc (by omega), u5 c j (by unfold gX; omega)]
        · rw [v6 _ _ (by omega) (by omega), up_if, if_neg (by omega), u6 c j (by unfold gM; omega), B0_at (by omega)]
        · rw [up_nc (by decide), v5 _ _ (by omega), up_c]
        · rw [v6 _ _ (by omega) (by omega), up_c]
        · rw [up_nc (by decide), v5 _ _ (by omega), v6 _ _ (by omega) (by omega), up_nj (by decide), up_nj (by decide), u3, u6 _ _ (by unfold gM; omega), up_nj (by decide), up_c]
        · rw [up_nc (by decide), v5 _ _ (by omega), v6 _ _ (by omega) (by omega), up_nj (by decide), up_nj (by decide), u4, u6 _ _ (by unfold gM; omega), up_c]
      · rw [u1, cal_some, u2, cal_some]
        exact text_fail hW hRest u3 u4
  · have n0 : ¬ a1 = 0 := fun z => ha (by rw [z]; decide)
    have n1 : ¬ a1 = 1 := fun z => ha (by rw [z]; decide)
    have n2 : ¬ a1 = 2 := fun z => ha (by rw [z]; decide)
    have n3 : ¬ a1 = 3 := fun z => ha (by rw [z]; decide)
    refine ⟨-1, up (up (up tx 197 1 0) 197 2 (-1)) 197 0 0, up (up (up tm 0 23 0) 0 25 (-1)) 0 16 0, ?_, ?_, Rl_text1 ((hW.mono (by omega)).congr (fun c j hc => ?_) (fun k _ => ?_)) hRest (fun c j hc => ?_) (fun c j hc => ?_) up_c up_c ?_ ?_⟩
    · unfold X10_text X3_readRows X6_clearFault X10_text_j29
      rw [if_neg n0, if_neg n1, if_neg n2, if_neg n3, pst_eq, pst_eq, cal_some, cal_some, pst_eq, if_pos rfl]
    · unfold X11_text
      rw [pst_eq, pst_eq, X11_isIn_eq, bI_f ha, cal_some, if_pos rfl, pst_eq]
    · rw [up_nc (by omega), up_nc (by omega), up_nc (by omega)]
    · rw [up_nc (by decide), up_nc (by decide), up_nc (by decide)]
    · rw [up_if, if_neg (by omega), up_if, if_neg (by omega), up_if, if_neg (by omega)]
    · rw [up_if, if_neg (by omega), up_if, if_neg (by omega), up_if, if_neg (by omega)]
    · rw [up_nj (by decide), up_nj (by decide), up_c, up_nj (by decide), up_nj (by decide), up_c]
    · rw [up_nj (by decide), up_c, up_nj (by decide), up_c]
