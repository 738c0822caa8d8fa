/-! PURE PART. Steps: alike, lightest, heard -/
theorem Pc.says {T nP nM : Nat} {q : Nat → Nat} {tx tm : Tau} (h : Pc T nP nM q tx tm) {k : Nat} (hk : k < 120) : tm 1 (261 + k) = tx 48 k := by
  have := h.1.2.2.2.2.2.2.2.2.1.2.1 k hk
  rw [rsM_at (by omega), vM_at (by omega), rsX_at (by omega), vX_at (by omega) (by show _ < 120; omega)] at this
  exact this
theorem Pc.want {T nP nM : Nat} {q : Nat → Nat} {tx tm : Tau} (h : Pc T nP nM q tx tm) {p : Nat} (hp : p < 10) : q p ≤ 6 ∧ tx 51 p = nI (q p) ∧ tm 1 (445 + 7 * p) = nI (q p) ∧ ∀ j, j < q p → tm 1 (446 + 7 * p + j) = tx 50 (6 * p + j) := by
  obtain ⟨h1, h2, h3, h4⟩ := h.1.2.2.2.2.2.2.2.2.1.2.2.2.1 p hp
  rw [rsX_at (by omega), vX_at (by omega) (by show p < 10; omega)] at h2
  rw [rsM_at (by omega), vM_at (by omega)] at h3
  refine ⟨h1, h2, h3, fun j hj => ?_⟩
  have := h4 j hj
  rw [rsM_at (by omega), vM_at (by omega), rsX_at (by omega), vX_at (by omega) (by show _ < 60; omega)] at this
  exact this
theorem Pc.things {T nP nM : Nat} {q : Nat → Nat} {tx tm : Tau} (h : Pc T nP nM q tx tm) : ∃ s, s ≤ 8 ∧ tx 16 0 = nI s ∧ tm 1 515 = nI s ∧ ∀ i, i < s → tx 17 i = tm 1 (516 + i) ∧ ∃ h, h < 12 ∧ tm 1 (516 + i) = nI h := row_out (c := 15) (by decide) (by decide) (by decide) (by decide) h.1.2.2.2.2.2.2.2.2.1.2.2.2.2.2.1
theorem Pc.meanings {T nP nM : Nat} {q : Nat → Nat} {tx tm : Tau} (h : Pc T nP nM q tx tm) : ∃ s, s ≤ 8 ∧ tx 18 0 = nI s ∧ tm 1 536 = nI s ∧ ∀ i, i < s → tx 19 i = tm 1 (537 + i) ∧ (tm 1 (537 + i) = -2 ∨ ∃ h, h < 16 ∧ tm 1 (537 + i) = nI h) := row_out (c := 17) (by decide) (by decide) (by decide) (by decide) h.1.2.2.2.2.2.2.2.2.1.2.2.2.2.2.2.1
theorem Pc.weights {T nP nM : Nat} {q : Nat → Nat} {tx tm : Tau} (h : Pc T nP nM q tx tm) : ∀ k, k < 12 → ∃ v, v ≤ 99 ∧ tx 34 k = nI v ∧ tm 1 (524 + k) = nI v := cel_out (c := 33) (by decide) (by decide) (by decide) h.1.2.2.2.2.2.2.2.2.1.2.2.2.2.2.2.2.2.2.2.2.2.2.2.1
theorem Pc.pw {T nP nM : Nat} {q : Nat → Nat} {tx tm : Tau} (h : Pc T nP nM q tx tm) : tx 2 0 = nI nP ∧ tm 1 255 = nI nP ∧ nP ≤ 10 := ⟨h.1.2.1, h.1.2.2.2.1, h.1.2.2.2.2.2.1⟩
theorem X5_get_in {F t0 cap s i : Nat} {τ : Tau} (hl : lnX (t0 + 1) = cap) (hc : cap < 1000) (h0 : τ t0 0 = nI s) (hi : i < s) (hs : s ≤ cap) : X5_get F t0 (nI i) τ = some (τ (t0 + 1) i, τ) := by
  unfold X5_get
  rw [if_neg (nI_pos (by omega)), h0, if_neg (nI_ge hi (by omega)), hl, litN, if_neg (nI_ge (by omega) (by omega)), ald_nI (by omega) (by omega)]
theorem meaning_in {F p h : Nat} {τ : Tau} (hp : p < 10) (hh : h < 12) : X11_meaning F (nI p) (nI h) τ = some (τ 1 (261 + (12 * p + h)), τ) := by
  unfold X11_meaning
  rw [litM, litA, nI_add, ald_nI (by omega) (by omega), Nat.add_assoc]
theorem alike_in {F T nP nM a p s : Nat} {q : Nat → Nat} {tx tm : Tau} {self : Int32 → Int32 → Int32 → Tau → Option (Int32 × Tau)} {who : Int32} (h : Pc T nP nM q tx tm) (ha : a < 10) (hp : p < 10) (s8 : s ≤ 8) (x0 : tx 16 0 = nI s) (m0 : tm 1 515 = nI s) (hi : ∀ i, i < s → tx 17 i = tm 1 (516 + i) ∧ ∃ h, h < 12 ∧ tm 1 (516 + i) = nI h) :
    ∀ (m i fx fm : Nat) (b : Bool), i + m = s → m < fx → m < fm → ∃ b' : Bool, X4_whoReadsAs_L24 F self fx (nI a) who (nI p) (bI (b = true)) (nI i) tx = X4_whoReadsAs_j107 F self (nI a) (nI p) (if b' = true then shl 1 (nI p) else 0) who tx ∧ X11_readAlike_L5 F fm (nI a) (nI p) (bI (b = true)) (nI i) tm = some (bI (b' = true), tm) := by
  intro m
  induction m with
  | zero =>
    intro i fx fm b him hfx hfm
    obtain ⟨gx, rfl, -⟩ := fuel hfx
    obtain ⟨gm, rfl, -⟩ := fuel hfm
    have : i = s := by omega
    subst this
    refine ⟨b, ?_, ?_⟩
    · unfold X4_whoReadsAs_L24
      rw [x0, if_pos (nI_le (Nat.le_refl _) (by omega)), ite_bI]
      cases b <;> rfl
    · unfold X11_readAlike_L5
      rw [ald_lit (by decide) (by decide), m0, if_pos (nI_le (Nat.le_refl _) (by omega)), narB]
  | succ m ih =>
    intro i fx fm b him hfx hfm
    obtain ⟨gx, rfl, -⟩ := fuel hfx
    obtain ⟨gm, rfl, -⟩ := fuel hfm
    obtain ⟨e1, t, t12, e2⟩ := hi i (by omega)
    have ht : tx 17 i = nI t := e1.trans e2
    unfold X4_whoReadsAs_L24 X11_readAlike_L5 X4_whoReadsAs_j85 X4_whoReadsAs_j86 X11_readAlike_j59
    rw [x0, if_neg (nI_ge (by omega) (by omega)), X5_get_in (cap := 8) rfl (by decide) x0 (by omega) s8, cal_some, show tx (16 + 1) i = nI t from ht]
    rw [ald_lit (by decide) (by decide), m0, if_neg (nI_ge (by omega) (by omega)), litA, ald_nI (by omega) (by omega), e2, meaning_in ha t12, cal_some, ald_nI (by omega) (by omega), e2, meaning_in hp t12, cal_some, h.says (by omega), h.says (by omega), litA']
    by_cases hb : b = true
    · subst hb
      rw [bI_t rfl, if_neg n10, X9_saysTo_in hp t12, cal_some, X9_saysTo_in ha t12, cal_some]
      by_cases e : tx 48 (12 * p + t) = tx 48 (12 * a + t)
      · rw [if_pos e, if_pos e.symm]
        exact ih (i + 1) gx gm true (by omega) (by omega) (by omega)
      · rw [if_neg e, if_neg (fun z => e z.symm)]
        exact ih (i + 1) gx gm false (by omega) (by omega) (by omega)
    · have : b = false := by cases b <;> simp_all
      subst this
      rw [bI_f (by decide), if_pos rfl]
      obtain ⟨b', r1, r2⟩ := ih (i + 1) gx gm false (by omega) (by omega) (by omega)
      refine ⟨b', r1, ?_⟩
      split
      · exact r2
      · exact r2
theorem alike_out {F T nP nM a : Nat} {q : Nat → Nat} {tx tm : Tau} (hF : 5000 ≤ F) (h : Pc T nP nM q tx tm) (ha : a < nP) : ∀ (m i fx fm : Nat) (acc : Int32), i + m = nP → m < fx → m < fm → ∃ v, X4_whoReadsAs_L4 F fx (nI a) acc (nI i) tx = some (v, tx) ∧ X11_alike_L14 F fm (nI a) acc (nI i) tm = some (v, tm) := by
  obtain ⟨p0, p1, p10⟩ := h.pw
  obtain ⟨s, s8, x0, m0, hi⟩ := h.things
  intro m
  induction m with
  | zero =>
    intro i fx fm acc him hfx hfm
    obtain ⟨gx, rfl, -⟩ := fuel hfx
    obtain ⟨gm, rfl, -⟩ := fuel hfm
    have : i = nP := by omega
    subst this
    unfold X4_whoReadsAs_L4 X11_alike_L14
    rw [p0, if_pos (nI_le (Nat.le_refl _) (by omega)), ald_lit (by decide) (by decide), p1, if_pos (nI_le (Nat.le_refl _) (by omega))]
    exact ⟨acc, rfl, rfl⟩
  | succ m ih =>
    intro i fx fm acc him hfx hfm
    obtain ⟨gx, rfl, -⟩ := fuel hfx
    obtain ⟨gm, rfl, -⟩ := fuel hfm
    obtain ⟨b', r1, r2⟩ := alike_in (F := F) (self := X4_whoReadsAs_L4 F gx) (who := acc) h (show a < 10 by omega) (show i < 10 by omega) s8 x0 m0 hi s 0 F F true (by omega) (by omega) (by omega)
    have hX : X4_whoReadsAs_L4 F (gx + 1) (nI a) acc (nI i) tx = X4_whoReadsAs_j107 F (X4_whoReadsAs_L4 F gx) (nI a) (nI i) (if b' = true then shl 1 (nI i) else 0) acc tx := by
      rw [← r1]
      conv => lhs; unfold X4_whoReadsAs_L4
      rw [p0, if_neg (nI_ge (by omega) (by omega)), bI_t rfl]
      rfl
    have hM : X11_alike_L14 F (gm + 1) (nI a) acc (nI i) tm = X11_alike_L14 F gm (nI a) (acc ||| (if b' = true then shl 1 (nI i) else 0)) (nI (i + 1)) tm := by
      have r2' : X11_readAlike F (nI a) (nI i) tm = some (bI (b' = true), tm) := r2
      conv => lhs; unfold X11_alike_L14
      unfold X11_alike_j43
      rw [ald_lit (by decide) (by decide), p1, if_neg (nI_ge (by omega) (by omega)), r2', cal_some, ite_bI, litA']
      cases b' <;> rfl
    rw [hX, hM]
    unfold X4_whoReadsAs_j107
    rw [litA']
    exact ih (i + 1) gx gm _ (by omega) (by omega) (by omega)
theorem step16 (F : Nat) (hF : 5000 ≤ F) : Step16 F Rl := by
  intro n tx tm a1 _ h
  obtain ⟨nP, nM, q, hP⟩ := h.pc
  obtain ⟨p0, p1, p10⟩ := hP.pw
  unfold X10_alike X11_alike
  rw [X8_hasPower_eq p0 p10, X11_isPower_eq p1 p10, cal_some, cal_some]
  by_cases p : (0 : Int32) ≤ a1 ∧ a1 < nI nP
  · obtain ⟨j, hj, rfl⟩ := has_ex p (by omega)
    obtain ⟨v, e1, e2⟩ := alike_out (F := F) hF hP hj nP 0 F F 0 (by omega) (by omega) (by omega)
    unfold X4_whoReadsAs
    rw [bI_t p, if_neg n10, if_neg n10, show X4_whoReadsAs_L4 F F (nI j) 0 0 tx = some (v, tx) from e1, cal_some, show X11_alike_L14 F F (nI j) 0 0 tm = some (v, tm) from e2]
    exact ⟨v, tx, tm, rfl, rfl, Rl_mono n tx tm h⟩
  · rw [bI_f p, if_pos rfl, if_pos rfl]
    exact ⟨-1, tx, tm, rfl, rfl, Rl_mono n tx tm h⟩
/-- how many things say so -/
theorem thingsSay {F T nP nM p : Nat} {q : Nat → Nat} {tx tm : Tau} {v : Int32} (hF : 5000 ≤ F) (h : Pc T nP nM q tx tm) (hp : p < 10) : ∃ r, X4_thingsThatSay F (nI p) v tx = some (r, tx) ∧ X11_sayingSo F (nI p) v tm = some (r, tm) := by
  have key : ∀ (m i fx fm : Nat) (acc : Int32), i + m = 12 → m < fx → m < fm → ∃ r, X4_thingsThatSay_L5 F fx (nI p) v acc (nI i) tx = some (r, tx) ∧ X11_sayingSo_L5 F fm (nI p) v acc (nI i) tm = some (r, tm) := by
    intro m
    induction m with
    | zero =>
      intro i fx fm acc him hfx hfm
      obtain ⟨gx, rfl, -⟩ := fuel hfx
      obtain ⟨gm, rfl, -⟩ := fuel hfm
      have : i = 12 := by omega
      subst this
      unfold X4_thingsThatSay_L5 X11_sayingSo_L5
      rw [if_pos (show (12 : Int32) ≤ nI 12 by decide), if_pos (show (12 : Int32) ≤ nI 12 by decide)]
      exact ⟨acc, rfl, rfl⟩
    | succ m ih =>
      intro i fx fm acc him hfx hfm
      obtain ⟨gx, rfl, -⟩ := fuel hfx
      obtain ⟨gm, rfl, -⟩ := fuel hfm
      have hn : ¬ (12 : Int32) ≤ nI i := by rw [lit_le' (by decide) (by omega)]; omega
      unfold X4_thingsThatSay_L5 X11_sayingSo_L5 X4_thingsThatSay_j32 X11_sayingSo_j29
      rw [if_neg hn, if_neg hn, X9_saysTo_in hp (by omega), cal_some, meaning_in hp (by omega), cal_some, h.says (by omega), litA']
      by_cases e : tx 48 (12 * p + i) = v
      · rw [if_pos e, if_pos e]
        exact ih (i + 1) gx gm _ (by omega) (by omega) (by omega)
      · rw [if_neg e, if_neg e]
        exact ih (i + 1) gx gm _ (by omega) (by omega) (by omega)
  exact key 12 0 F F 0 (by decide) (by omega) (by omega)
theorem heardRows {F T nP nM p s : Nat} {q : Nat → Nat} {tx tm : Tau} (hF : 5000 ≤ F) (h : Pc T nP nM q tx tm) (hp : p < 10) (s8 : s ≤ 8) (x0 : tx 18 0 = nI s) (m0 : tm 1 536 = nI s) (hi : ∀ i, i < s → tx 19 i = tm 1 (537 + i)) :
    ∀ (m i fx fm : Nat) (l : Int64), i + m = s → m < fx → m < fm → ∃ r, X4_rowsHeard_L5 F fx (nI p) l (nI i) tx = some (r, tx) ∧ X11_heard_L43 F fm (nI p) l (nI (i + 1)) tm = some (r, tm) := by
  intro m
  induction m with
  | zero =>
    intro i fx fm l him hfx hfm
    obtain ⟨gx, rfl, -⟩ := fuel hfx
    obtain ⟨gm, rfl, -⟩ := fuel hfm
    have : i = s := by omega
    subst this
    unfold X4_rowsHeard_L5 X11_heard_L43
    rw [x0, if_pos (nI_le (Nat.le_refl _) (by omega)), ald_lit (by decide) (by decide), m0, if_pos (nI_lt (by omega) (by omega))]
    exact ⟨_, rfl, rfl⟩
  | succ m ih =>
    intro i fx fm l him hfx hfm
    obtain ⟨gx, rfl, -⟩ := fuel hfx
    obtain ⟨gm, rfl, -⟩ := fuel hfm
    unfold X4_rowsHeard_L5 X11_heard_L43 X4_rowsHeard_j53 X11_heard_j94
    rw [x0, if_neg (nI_ge (by omega) (by omega)), X5_get_in (cap := 8) rfl (by decide) x0 (by omega) s8, cal_some, show tx (18 + 1) i = tm 1 (537 + i) from hi i (by omega)]
    rw [ald_lit (by decide) (by decide), m0, if_neg (nI_nlt (by omega) (by omega)), litA, ald_nI (by omega) (by omega), show 536 + (i + 1) = 537 + i by omega, litA', litA']
    by_cases e : tm 1 (537 + i) = -2
    · rw [if_pos e, if_pos e]
      exact ih (i + 1) gx gm _ (by omega) (by omega) (by omega)
    · obtain ⟨r, r1, r2⟩ := thingsSay (F := F) (v := tm 1 (537 + i)) hF h hp
      rw [if_neg e, if_neg e, r1, cal_some, ald_nI (by omega) (by omega), r2, cal_some]
      exact ih (i + 1) gx gm _ (by omega) (by omega) (by omega)
theorem heardSo {F T nP nM p s : Nat} {q : Nat → Nat} {tx tm : Tau} (h : Pc T nP nM q tx tm) (hp : p < 10) (s8 : s ≤ 8) (x0 : tx 18 0 = nI s) (hi : ∀ i, i < s → tx 19 i = tm 1 (537 + i)) (y0 : tx 16 0 = nI s) (n0 : tm 1 515 = nI s) (hj : ∀ i, i < s → tx 17 i = tm 1 (516 + i) ∧ ∃ h, h < 12 ∧ tm 1 (516 + i) = nI h) :
    ∀ (m i fx fm : Nat), i + m = s → m < fx → m < fm → (∃ b : Bool, X4_isHeardSo_L27 F fx (nI p) (nI i) tx = some (bI (b = true), tx) ∧ X11_isReadSo_L25 F fm (nI p) 1 (nI (i + 1)) tm = some (bI (b = true), tm)) ∧ X11_isReadSo_L25 F fm (nI p) 0 (nI (i + 1)) tm = some (0, tm) := by
  intro m
  induction m with
  | zero =>
    intro i fx fm him hfx hfm
    obtain ⟨gx, rfl, -⟩ := fuel hfx
    obtain ⟨gm, rfl, -⟩ := fuel hfm
    have : i = s := by omega
    subst this
    unfold X4_isHeardSo_L27 X11_isReadSo_L25
    rw [y0, if_pos (nI_le (Nat.le_refl _) (by omega)), ald_lit (by decide) (by decide), n0, if_pos (nI_lt (by omega) (by omega)), ald_lit (by decide) (by decide), n0, if_pos (nI_lt (by omega) (by omega)), nar1, nar0]
    exact ⟨⟨true, rfl, rfl⟩, rfl⟩
  | succ m ih =>
    intro i fx fm him hfx hfm
    obtain ⟨gx, rfl, -⟩ := fuel hfx
    obtain ⟨gm, rfl, -⟩ := fuel hfm
    obtain ⟨e1, t, t12, e2⟩ := hj i (by omega)
    have ht : tx 17 i = nI t := e1.trans e2
    obtain ⟨⟨b, r1, r2⟩, r3⟩ := ih (i + 1) gx gm (by omega) (by omega) (by omega)
    have hM : ∀ z : Int32, (z = 0 ∨ z = 1) → X11_isReadSo_L25 F (gm + 1) (nI p) z (nI (i + 1)) tm = (if tm 1 (537 + i) = -2 then X11_isReadSo_L25 F gm (nI p) z (nI (i + 1 + 1)) tm else if tx 48 (12 * p + t) = tm 1 (537 + i) then X11_isReadSo_L25 F gm (nI p) z (nI (i + 1 + 1)) tm else X11_isReadSo_L25 F gm (nI p) 0 (nI (i + 1 + 1)) tm) := by
      intro z hz
      conv => lhs; unfold X11_isReadSo_L25
      unfold X11_isReadSo_j81 X11_isReadSo_j86
      have z1 : z &&& 1 = z := by rcases hz with rfl | rfl <;> decide
      have z0 : z &&& 0 = 0 := by rcases hz with rfl | rfl <;> decide
      rw [ald_lit (by decide) (by decide), n0, if_neg (nI_nlt (by omega) (by omega)), litA, ald_nI (by omega) (by omega), show 536 + (i + 1) = 537 + i by omega, litA', z1, z0]
      by_cases e : tm 1 (537 + i) = -2
      · rw [if_pos e, if_pos e]
      · rw [if_neg e, if_neg e, litA, ald_nI (by omega) (by omega), show 515 + (i + 1) = 516 + i by omega, e2, meaning_in hp t12, cal_some, h.says (by omega), ald_nI (by omega) (by omega)]
    refine ⟨?_, ?_⟩
    · rw [hM 1 (.inr rfl)]
      unfold X4_isHeardSo_L27 X4_isHeardSo_j84
      rw [y0, if_neg (nI_ge (by omega) (by omega)), X5_get_in (cap := 8) rfl (by decide) x0 (by omega) s8, cal_some, show tx (18 + 1) i = tm 1 (537 + i) from hi i (by omega), litA']
      by_cases e : tm 1 (537 + i) = -2
      · rw [if_pos e, if_pos e]
        exact ⟨b, r1, r2⟩
      · rw [if_neg e, if_neg e, X5_get_in (cap := 8) rfl (by decide) y0 (by omega) s8, cal_some, show tx (16 + 1) i = nI t from ht, X9_saysTo_in hp t12, cal_some]
        by_cases g : tx 48 (12 * p + t) = tm 1 (537 + i)
        · rw [if_pos g, if_pos g]
          exact ⟨b, r1, r2⟩
        · rw [if_neg g, if_neg g, r3]
          exact ⟨false, rfl, rfl⟩
    · rw [hM 0 (.inl rfl)]
      split
      · exact r3
      · split <;> exact r3
theorem step20 (F : Nat) (hF : 5000 ≤ F) : Step20 F Rl := by
  intro n tx tm a1 a2 _ h
  obtain ⟨nP, nM, q, hP⟩ := h.pc
  obtain ⟨p0, p1, p10⟩ := hP.pw
  obtain ⟨s, s8, x0, m0, hi⟩ := hP.meanings
  obtain ⟨s', s8', y0, n0, hj⟩ := hP.things
  unfold X10_heard X11_heard
  rw [X8_hasPower_eq p0 p10, X11_isPower_eq p1 p10, cal_some, cal_some]
  by_cases p : (0 : Int32) ≤ a1 ∧ a1 < nI nP
  · obtain ⟨j, hj', rfl⟩ := has_ex p (by omega)
    rw [bI_t p, if_neg n10, if_neg n10, X11_isIn_eq, cal_some]
    by_cases c0 : a2 = 0
    · subst c0
      obtain ⟨r, e1, e2⟩ := heardRows (F := F) (p := j) hF hP (by omega) s8 x0 m0 (fun i hh => (hi i hh).1) s 0 F F 1 (by omega) (by omega) (by omega)
      unfold X4_rowsHeard
      rw [if_pos rfl, show X4_rowsHeard_L5 F F (nI j) 1 0 tx = some (r, tx) from e1, cal_some, bI_t (by decide), if_neg n10, if_neg (by decide), show X11_heard_L43 F F (nI j) 1 1 tm = some (r, tm) from e2]
      exact ⟨r, tx, tm, rfl, rfl, Rl_mono n tx tm h⟩
    · rw [if_neg c0]
      by_cases c1 : a2 = 1
      · subst c1
        rw [if_pos rfl, bI_t (by decide), if_neg n10, if_pos rfl]
        unfold X4_isHeardSo X11_isReadSo
        rw [y0, x0, ald_lit (by decide) (by decide), ald_lit (by decide) (by decide), n0, m0]
        by_cases e : s' = s
        · subst e
          obtain ⟨⟨b, r1, r2⟩, -⟩ := heardSo (F := F) (p := j) hP (by omega) s8 x0 (fun i hh => (hi i hh).1) y0 n0 hj s' 0 F F (by omega) (by omega) (by omega)
          rw [if_pos rfl, if_pos rfl, show X4_isHeardSo_L27 F F (nI j) 0 tx = some (bI (b = true), tx) from r1, show X11_isReadSo_L25 F F (nI j) 1 1 tm = some (bI (b = true), tm) from r2, cal_some, cal_some, ite_bI, ite_bI, some_bI, some_bI]
          exact ⟨_, tx, tm, rfl, rfl, Rl_mono n tx tm h⟩
        · have hne : ¬ nI s' = nI s := fun z => e (nI_inj (by omega) (by omega) z)
          rw [if_neg hne, if_neg hne, cal_some, cal_some, if_pos rfl, if_pos rfl]
          exact ⟨_, tx, tm, rfl, rfl, Rl_mono n tx tm h⟩
      · rw [if_neg c1, bI_f, if_pos rfl]
        · exact ⟨-1, tx, tm, rfl, rfl, Rl_mono n tx tm h⟩
        · intro z
          obtain ⟨j, j1, j2, rfl⟩ := in_ex (lo := 0) (hi := 1) z (by decide) (by decide)
          have : j = 0 ∨ j = 1 := by omega
          rcases this with rfl | rfl
          · exact c0 rfl
          · exact c1 rfl
  · rw [bI_f p, if_pos rfl, if_pos rfl]
    exact ⟨-1, tx, tm, rfl, rfl, Rl_mono n tx tm h⟩
