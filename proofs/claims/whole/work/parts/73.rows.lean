/-! PURE PART. Steps: things told for thought -/
theorem Wd0_of {nP nM b : Nat} {q : Nat → Nat} {tx : Tau} {w : Nat → Int32} (h : Wd nP nM q b tx w) : Wd0 nP nM q (vX b tx) (vM w) := h
/-- told things changed: the rest as it was -/
theorem Rl.tell {n nP nM : Nat} {q : Nat → Nat} {tx tm tx' tm' : Tau} (h : Pc (840 * n) nP nM q tx tm) (hx : ∀ c j, c < 16 ∨ 38 < c → tx' c j = tx c j) (hm : ∀ c j, c ≠ 1 → tm' c j = tm c j) (hm1 : ∀ k, k < 515 ∨ 760 ≤ k → tm' 1 k = tm 1 k) (hd : Wd nP nM q 1 tx' (tm' 1)) : Rl (n + 1) tx' tm' := by
  obtain ⟨⟨a1, a2, a3, a4, a5, a6, a7, a8, a9, a10, a11⟩, h2⟩ := h
  refine Rl.frame (Nat.le_succ n) (RW.mono (T := 840 * n) ?_ (by omega)) h2 (fun c j hc => ?_) (fun c j hc => ?_)
  · refine ⟨fun k hk => ?_, by rw [hx _ _ (by omega)]; exact a2, by rw [hx _ _ (by omega)]; exact a3, by rw [hm1 _ (by omega)]; exact a4, by rw [hm1 _ (by omega)]; exact a5, a6, a7, Val_congr a7 a8 (fun k hk => hm1 k (by omega)), hd, by rw [hm1 _ (by omega)]; exact a10, fun i hi => ?_⟩
    · have := (sl_inv k hk).2.1
      rw [hm1 _ (by omega), hx _ _ (by omega)]; exact a1 k hk
    · rw [hm1 _ (by omega), hx _ _ (by omega)]; exact a11 i hi
  · unfold coX at hc
    exact hx _ _ (by omega)
  · unfold coM at hc
    exact hm _ _ (by omega)
/-- a row grows, or is empty again: what both do -/
theorem row_grow {c a cap s : Nat} {P : Int32 → Prop} {x x' : Tau} {w w' : Nat → Int32} {v : Int32} (hs : s < cap) (hP : P v) (h : ∀ i, i < s → x (c + 1) i = w (a + 1 + i) ∧ P (w (a + 1 + i))) (x0 : x' c 0 = nI (s + 1)) (w0 : w' a = nI (s + 1)) (xs : x' (c + 1) s = v) (ws : w' (a + 1 + s) = v) (xi : ∀ i, i < s → x' (c + 1) i = x (c + 1) i) (wi : ∀ i, i < s → w' (a + 1 + i) = w (a + 1 + i)) : Rrow c a cap P x' w' := by
  refine ⟨s + 1, hs, x0, w0, fun i hi => ?_⟩
  by_cases e : i = s
  · subst e; rw [xs, ws]; exact ⟨rfl, hP⟩
  · rw [xi i (by omega), wi i (by omega)]; exact h i (by omega)
theorem X5_add_in {F t0 cap s : Nat} {v : Int32} {τ : Tau} (hl : lnX (t0 + 1) = cap) (hc : cap < 1000) (h0 : τ t0 0 = nI s) (hs : s < cap) : X5_add F t0 v 1 τ = some (nI (s + 1), up (up τ (t0 + 1) s v) t0 0 (nI (s + 1))) := by
  unfold X5_add
  rw [if_neg n10, h0, hl, litN, if_pos (nI_lt hs (by omega)), ast_nI hs (by omega), pst_eq, show up τ (t0 + 1) s v t0 0 = nI s from (up_nc (by omega)).trans h0, litA', up_c]
theorem X5_add_full {F t0 cap : Nat} {v : Int32} {τ : Tau} (hl : lnX (t0 + 1) = cap) (h0 : τ t0 0 = nI cap) : X5_add F t0 v 1 τ = some (-1, τ) := by
  unfold X5_add
  rw [if_neg n10, h0, hl, litN, if_neg (show ¬ nI cap < nI cap from Int32.lt_irrefl)]
theorem X5_add_0 {F t0 : Nat} {v : Int32} {τ : Tau} : X5_add F t0 v 0 τ = some (-1, τ) := by
  unfold X5_add
  rw [if_pos rfl]

theorem tells_in {F a cap s : Nat} {v : Int32} {τ : Tau} (ha : a + 1 + s < 2244) (h0 : τ 1 a = nI s) (hs : s < cap) (hc : cap < 1000) : X11_tellsOne F (nI a) (nI cap) v τ = some (nI (s + 1), up (up τ 1 (a + 1 + s) v) 1 a (nI (s + 1))) := by
  unfold X11_tellsOne
  rw [ald_nI (by omega) (by omega), h0, if_neg (fun e => by have := nI_inj (by omega) (by omega) e; omega), ald_nI (by omega) (by omega), h0, litA', nI_add, ast_nI ha (by omega), ald_nI (by omega) (by omega), show up τ 1 (a + 1 + s) v 1 a = nI s from (up_nj (by omega)).trans h0, litA', ast_nI (by omega) (by omega), ald_nI (by omega) (by omega), up_c]
theorem tells_full {F a cap : Nat} {v : Int32} {τ : Tau} (ha : a < 2244) (h0 : τ 1 a = nI cap) : X11_tellsOne F (nI a) (nI cap) v τ = some (-1, τ) := by
  unfold X11_tellsOne
  rw [ald_nI ha (by omega), h0, if_pos rfl]
theorem row_step {F C a cap : Nat} {P : Int32 → Prop} {tx tm : Tau} {v : Int32} {can : Prop} [Decidable can] (hl : lnX (C + 1) = cap) (hc : cap < 1000) (ha : a + 1 + cap < 2244) (hcan : can → P v)
    (h : ∃ s, s ≤ cap ∧ tx C 0 = nI s ∧ tm 1 a = nI s ∧ ∀ i, i < s → tx (C + 1) i = tm 1 (a + 1 + i) ∧ P (tm 1 (a + 1 + i))) : ∃ r tx' tm', X5_tell F C v (bI can) tx = some (r, tx') ∧
    (if v = -1 then (cal (X11_endsRow F (nI a) tm) fun r1 τ2 => some (r1, τ2)) else if bI can = 0 then some (-1, tm) else (cal (X11_tellsOne F (nI a) (nI cap) v tm) fun r5 τ6 => some (r5, τ6))) = some (r, tm') ∧
    (∀ k j, k < C ∨ C + 1 < k → tx' k j = tx k j) ∧ (∀ k j, k ≠ 1 → tm' k j = tm k j) ∧ (∀ k, k < a ∨ a + 1 + cap ≤ k → tm' 1 k = tm 1 k) ∧
    ∃ s, s ≤ cap ∧ tx' C 0 = nI s ∧ tm' 1 a = nI s ∧ ∀ i, i < s → tx' (C + 1) i = tm' 1 (a + 1 + i) ∧ P (tm' 1 (a + 1 + i)) := by
  obtain ⟨s, s1, s2, s3, s4⟩ := id h
  unfold X5_tell
  by_cases e : v = -1
  · rw [if_pos e, if_pos e]
    unfold X5_empty X11_endsRow
    rw [pst_eq, cal_some, ast_nI (by omega) (by omega), cal_some]
    exact ⟨0, _, _, rfl, rfl, fun k j hk => up_nc (by omega), fun k j hk => up_nc hk, fun k hk => up_nj (by omega), 0, Nat.zero_le _, up_c, up_c, fun i hi => absurd hi (Nat.not_lt_zero i)⟩
  · rw [if_neg e, if_neg e]
    by_cases g : can
    · rw [bI_t g, if_neg n10]
      by_cases hs : s < cap
      · rw [X5_add_in hl hc s2 hs, cal_some, tells_in (by omega) s3 hs hc, cal_some]
        refine ⟨_, _, _, rfl, rfl, fun k j hk => ?_, fun k j hk => ?_, fun k hk => ?_, s + 1, hs, up_c, up_c, fun i hi => ?_⟩
        · rw [up_nc (by omega), up_nc (by omega)]
        · rw [up_nc hk, up_nc hk]
        · rw [up_nj (by omega), up_nj (by omega)]
        · rw [up_nc (show C + 1 ≠ C by omega), up_nj (show a + 1 + i ≠ a by omega)]
          by_cases ei : i = s
          · subst ei
            rw [up_c, up_c]
            exact ⟨rfl, hcan g⟩
          · rw [up_nj ei, up_nj (show a + 1 + i ≠ a + 1 + s by omega)]
            exact s4 i (by omega)
      · have : s = cap := by omega
        subst this
        rw [X5_add_full hl s2, cal_some, tells_full (by omega) s3, cal_some]
        exact ⟨-1, tx, tm, rfl, rfl, fun _ _ _ => rfl, fun _ _ _ => rfl, fun _ _ => rfl, h⟩
    · rw [bI_f g, X5_add_0, cal_some, if_pos rfl]
      exact ⟨-1, tx, tm, rfl, rfl, fun _ _ _ => rfl, fun _ _ _ => rfl, fun _ _ => rfl, h⟩
/-- a told row out of the world's relation -/
theorem row_out {c a cap : Nat} {P : Int32 → Prop} {tx : Tau} {w : Nat → Int32} (hc : 15 ≤ c ∧ c + 1 ≤ 43) (hl0 : 0 < lim c) (hl : cap ≤ lim (c + 1)) (ha : 257 ≤ a ∧ a + 1 + cap ≤ 760) (h : Rrow c a cap P (rsX c (c + 1) (vX 1 tx)) (rsM a (a + 1 + cap) (vM w))) : ∃ s, s ≤ cap ∧ tx (1 + c) 0 = nI s ∧ w a = nI s ∧ ∀ i, i < s → tx (1 + (c + 1)) i = w (a + 1 + i) ∧ P (w (a + 1 + i)) := by
  obtain ⟨s, s1, s2, s3, s4⟩ := h
  rw [rsX_at (by omega), vX_at (by omega) hl0] at s2
  rw [rsM_at (by omega), vM_at (by omega)] at s3
  refine ⟨s, s1, s2, s3, fun i hi => ?_⟩
  have := s4 i hi
  rw [rsX_at (by omega), vX_at (by omega) (by omega), rsM_at (by omega), vM_at (by omega)] at this
  exact this
theorem row_in {c a cap : Nat} {P : Int32 → Prop} {tx : Tau} {w : Nat → Int32} (hc : 15 ≤ c ∧ c + 1 ≤ 43) (hl0 : 0 < lim c) (hl : cap ≤ lim (c + 1)) (ha : 257 ≤ a ∧ a + 1 + cap ≤ 760) (h : ∃ s, s ≤ cap ∧ tx (1 + c) 0 = nI s ∧ w a = nI s ∧ ∀ i, i < s → tx (1 + (c + 1)) i = w (a + 1 + i) ∧ P (w (a + 1 + i))) : Rrow c a cap P (rsX c (c + 1) (vX 1 tx)) (rsM a (a + 1 + cap) (vM w)) := by
  obtain ⟨s, s1, s2, s3, s4⟩ := h
  refine ⟨s, s1, by rw [rsX_at (by omega), vX_at (by omega) hl0]; exact s2, by rw [rsM_at (by omega), vM_at (by omega)]; exact s3, fun i hi => ?_⟩
  rw [rsX_at (by omega), vX_at (by omega) (by omega), rsM_at (by omega), vM_at (by omega)]
  exact s4 i hi
theorem vX_ne {tx tx' : Tau} {lo hi : Nat} (h : ∀ c j, c < lo + 1 ∨ hi + 1 < c → tx' c j = tx c j) : ∀ c j, c < lo ∨ hi < c → vX 1 tx' c j = vX 1 tx c j := fun c j hc => by
  unfold vX
  split
  · exact h _ _ (by omega)
  · rfl
theorem vM_ne {w w' : Nat → Int32} {l h : Nat} (hw : ∀ k, k < l ∨ h ≤ k → w' k = w k) : ∀ k, k < l ∨ h ≤ k → vM w' k = vM w k := fun k hk => by
  unfold vM
  split
  · exact hw _ hk
  · rfl
theorem step15 (F : Nat) : Step15 F Rl := by
  intro n tx tm a1 _ h
  obtain ⟨nP, nM, q, hP⟩ := h.pc
  have hd := hP.1.2.2.2.2.2.2.2.2.1
  have ho := row_out (c := 15) (by decide) (by decide) (by decide) (by decide) hd.2.2.2.2.2.1
  obtain ⟨r, tx', tm', e1, e2, e3, e4, e5, e6⟩ := row_step (F := F) (tx := tx) (tm := tm) (P := fun v => ∃ h, h < 12 ∧ v = nI h) (C := 16) (a := 515) (cap := 8) (v := a1) (can := (0 : Int32) ≤ a1 ∧ a1 ≤ 11) rfl (by decide) (by decide) (fun z => by
    obtain ⟨j, j1, j2, rfl⟩ := in_ex (lo := 0) (hi := 11) z (by decide) (by decide)
    exact ⟨j, by omega, rfl⟩) ho
  refine ⟨r, tx', tm', ?_, ?_, Rl.tell hP (fun c j hc => e3 c j (by omega)) e4 (fun k hk => e5 k (by omega)) (Wd0_rep6 hd (vX_ne e3) (vM_ne e5) (row_in (by decide) (by decide) (by decide) (by decide) e6))⟩
  · unfold X10_shows
    rw [X10_within_eq, cal_some, e1, cal_some]
  · rw [← e2]
    unfold X11_shows
    rw [X11_isIn_eq, cal_some]
    rfl
theorem step19 (F : Nat) : Step19 F Rl := by
  intro n tx tm a1 _ h
  obtain ⟨nP, nM, q, hP⟩ := h.pc
  have hd := hP.1.2.2.2.2.2.2.2.2.1
  have ho := row_out (c := 17) (by decide) (by decide) (by decide) (by decide) hd.2.2.2.2.2.2.1
  have hcan : (a1 = -2 ∨ ((0 : Int32) ≤ a1 ∧ a1 ≤ 15)) ↔ (a1 ≠ -1 ∧ (-2 : Int32) ≤ a1 ∧ a1 ≤ 15) := by
    have i2 : (-2 : Int32).toInt = -2 := by decide
    have i1 : (-1 : Int32).toInt = -1 := by decide
    have i0 : (0 : Int32).toInt = 0 := by decide
    have i15 : (15 : Int32).toInt = 15 := by decide
    rw [← Int32.toInt_inj, Ne, ← Int32.toInt_inj, Int32.le_iff_toInt_le, Int32.le_iff_toInt_le, Int32.le_iff_toInt_le, i2, i1, i0, i15]
    omega
  obtain ⟨r, tx', tm', e1, e2, e3, e4, e5, e6⟩ := row_step (F := F) (tx := tx) (tm := tm) (P := fun v => v = -2 ∨ ∃ h, h < 16 ∧ v = nI h) (C := 18) (a := 536) (cap := 8) (v := a1) (can := a1 = -2 ∨ ((0 : Int32) ≤ a1 ∧ a1 ≤ 15)) rfl (by decide) (by decide) (fun z => by
    rcases z with z | z
    · exact .inl z
    · obtain ⟨j, j1, j2, rfl⟩ := in_ex (lo := 0) (hi := 15) z (by decide) (by decide)
      exact .inr ⟨j, by omega, rfl⟩) ho
  refine ⟨r, tx', tm', ?_, ?_, Rl.tell hP (fun c j hc => e3 c j (by omega)) e4 (fun k hk => e5 k (by omega)) (Wd0_rep7 hd (vX_ne e3) (vM_ne e5) (row_in (by decide) (by decide) (by decide) (by decide) e6))⟩
  · unfold X10_hears X10_hears_j16 X10_hears_j21
    by_cases c : a1 = -2
    · rw [if_pos c]
      rw [bI_t (.inl c)] at e1
      rw [e1, cal_some]
    · rw [if_neg c, X10_within_eq, cal_some]
      by_cases g : (0 : Int32) ≤ a1 ∧ a1 ≤ 15
      · rw [bI_t (.inr g)] at e1
        rw [bI_t g, if_neg n10, e1, cal_some]
      · rw [bI_f (fun z => z.elim c g)] at e1
        rw [bI_f g, if_pos rfl, e1, cal_some]
  · rw [← e2]
    unfold X11_hears
    rw [X11_isIn_eq, cal_some]
    by_cases c : a1 = -1
    · rw [if_pos c, if_pos c]; rfl
    · rw [if_neg c, if_neg c]
      by_cases g : a1 = -2 ∨ ((0 : Int32) ≤ a1 ∧ a1 ≤ 15)
      · rw [bI_t g, bI_t (hcan.mp g).2]; rfl
      · rw [bI_f g, bI_f (fun z => g (hcan.mpr ⟨c, z⟩)), if_pos rfl, if_pos rfl]
theorem step21 (F : Nat) : Step21 F Rl := by
  intro n tx tm a1 _ h
  obtain ⟨nP, nM, q, hP⟩ := h.pc
  have hd := hP.1.2.2.2.2.2.2.2.2.1
  have ho := row_out (c := 19) (by decide) (by decide) (by decide) (by decide) hd.2.2.2.2.2.2.2.1
  obtain ⟨r, tx', tm', e1, e2, e3, e4, e5, e6⟩ := row_step (F := F) (tx := tx) (tm := tm) (P := fun v => ∃ h, 1 ≤ h ∧ h ≤ 99 ∧ v = nI h) (C := 20) (a := 545) (cap := 8) (v := a1) (can := (1 : Int32) ≤ a1 ∧ a1 ≤ 99) rfl (by decide) (by decide) (fun z => by
    obtain ⟨j, j1, j2, rfl⟩ := in_ex (lo := 1) (hi := 99) z (by decide) (by decide)
    exact ⟨j, by omega, by omega, rfl⟩) ho
  refine ⟨r, tx', tm', ?_, ?_, Rl.tell hP (fun c j hc => e3 c j (by omega)) e4 (fun k hk => e5 k (by omega)) (Wd0_rep8 hd (vX_ne e3) (vM_ne e5) (row_in (by decide) (by decide) (by decide) (by decide) e6))⟩
  · unfold X10_count
    rw [X10_within_eq, cal_some, e1, cal_some]
  · rw [← e2]
    unfold X11_count
    rw [X11_isIn_eq, cal_some]
    rfl
theorem step37 (F : Nat) : Step37 F Rl := by
  intro n tx tm a1 a2 _ h
  obtain ⟨nP, nM, q, hP⟩ := h.pc
  have hd := hP.1.2.2.2.2.2.2.2.2.1
  have h0 := row_out (c := 27) (by decide) (by decide) (by decide) (by decide) hd.2.2.2.2.2.2.2.2.2.2.2.1
  have h1 := row_out (c := 29) (by decide) (by decide) (by decide) (by decide) hd.2.2.2.2.2.2.2.2.2.2.2.2.1
  unfold X10_cloth X11_cloth
  rw [X10_within_eq, cal_some, X11_isIn_eq, cal_some]
  by_cases c0 : a1 = 0
  · obtain ⟨r, tx', tm', e1, e2, e3, e4, e5, e6⟩ := row_step (F := F) (tx := tx) (tm := tm) (P := fun _ => True) (C := 28) (a := 703) (cap := 12) (v := a2) (can := (0 : Int32) ≤ a2 ∧ a2 ≤ 9) rfl (by decide) (by decide) (fun _ => trivial) h0
    refine ⟨r, tx', tm', ?_, ?_, Rl.tell hP (fun c j hc => e3 c j (by omega)) e4 (fun k hk => e5 k (by omega)) (Wd0_rep12 hd (vX_ne e3) (vM_ne e5) (row_in (by decide) (by decide) (by decide) (by decide) e6))⟩
    · rw [if_pos c0, e1, cal_some]
    · subst c0
      rw [← e2, bI_t (by decide), if_neg n10, X11_isIn_eq, cal_some]
      rfl
  · rw [if_neg c0]
    by_cases c1 : a1 = 1
    · obtain ⟨r, tx', tm', e1, e2, e3, e4, e5, e6⟩ := row_step (F := F) (tx := tx) (tm := tm) (P := fun _ => True) (C := 30) (a := 716) (cap := 12) (v := a2) (can := (0 : Int32) ≤ a2 ∧ a2 ≤ 9) rfl (by decide) (by decide) (fun _ => trivial) h1
      refine ⟨r, tx', tm', ?_, ?_, Rl.tell hP (fun c j hc => e3 c j (by omega)) e4 (fun k hk => e5 k (by omega)) (Wd0_rep13 hd (vX_ne e3) (vM_ne e5) (row_in (by decide) (by decide) (by decide) (by decide) e6))⟩
      · rw [if_pos c1, e1, cal_some]
      · subst c1
        rw [← e2, bI_t (by decide), if_neg n10, X11_isIn_eq, cal_some]
        rfl
    · rw [if_neg c1, bI_f, if_pos rfl]
      · exact ⟨-1, tx, tm, rfl, rfl, Rl_mono n tx tm h⟩
      · intro z
        obtain ⟨j, j1, j2, rfl⟩ := in_ex (lo := 0) (hi := 1) z (by decide) (by decide)
        have : j = 0 ∨ j = 1 := by omega
        rcases this with rfl | rfl
        · exact c0 rfl
        · exact c1 rfl
