/-! PURE PART. Texts: the worlds after a text -/
theorem Wd0_rep5 {nP nM : Nat} {q : Nat → Nat} {x x' : Tau} {w w' : Nat → Int32} (h : Wd0 nP nM q x w) (hx : ∀ c j, c < 38 ∨ 43 < c → x' c j = x c j) (hw : ∀ k, 258 ≤ k → k < 760 → w' k = w k) (hc : Rlaw (rsX 38 43 x') (rsL w')) : Wd0 nP nM q x' w' := by
  obtain ⟨a1, a2, a3, a4, a5, a6, a7, a8, a9, a10, a11, a12, a13, a14, a15, a16, a17, a18⟩ := h
  have ex : ∀ lo hi, hi < 38 ∨ 43 < lo → rsX lo hi x' = rsX lo hi x := fun lo hi hh => rsX_congr (fun c j h1 h2 => hx c j (by omega))
  have ew : ∀ lo hi, 258 ≤ lo → hi ≤ 760 → rsM lo hi w' = rsM lo hi w := fun lo hi h1 h2 => rsM_congr (fun k h3 h4 => hw k (by omega) (by omega))
  refine ⟨?_, ?_, ?_, ?_, hc, ?_, ?_, ?_, ?_, ?_, ?_, ?_, ?_, ?_, ?_, ?_, ?_, ?_⟩
  · rw [ex _ _ (by omega), ew _ _ (by omega) (by omega)]; exact a1
  · rw [ex _ _ (by omega), ew _ _ (by omega) (by omega)]; exact a2
  · rw [ex _ _ (by omega), ew _ _ (by omega) (by omega)]; exact a3
  · rw [ex _ _ (by omega), ew _ _ (by omega) (by omega)]; exact a4
  · rw [ex _ _ (by omega), ew _ _ (by omega) (by omega)]; exact a6
  · rw [ex _ _ (by omega), ew _ _ (by omega) (by omega)]; exact a7
  · rw [ex _ _ (by omega), ew _ _ (by omega) (by omega)]; exact a8
  · rw [ex _ _ (by omega), ew _ _ (by omega) (by omega)]; exact a9
  · rw [ex _ _ (by omega), ew _ _ (by omega) (by omega)]; exact a10
  · rw [ex _ _ (by omega), ew _ _ (by omega) (by omega)]; exact a11
  · rw [ex _ _ (by omega), ew _ _ (by omega) (by omega)]; exact a12
  · rw [ex _ _ (by omega), ew _ _ (by omega) (by omega)]; exact a13
  · rw [ex _ _ (by omega), ew _ _ (by omega) (by omega)]; exact a14
  · rw [ex _ _ (by omega), ew _ _ (by omega) (by omega)]; exact a15
  · rw [ex _ _ (by omega), ew _ _ (by omega) (by omega)]; exact a16
  · rw [ex _ _ (by omega), ew _ _ (by omega) (by omega)]; exact a17
  · rw [ex _ _ (by omega), ew _ _ (by omega) (by omega)]; exact a18
theorem Wd0_repR {nP nM : Nat} {q q' : Nat → Nat} {x x' : Tau} {w w' : Nat → Int32} (h : Wd0 nP nM q x w) (hx : ∀ c j, c < 46 → x' c j = x c j) (hw : ∀ k, k = 257 ∨ 515 ≤ k → w' k = w k) (h1 : Rlin (rsX 46 46 x') (rsM 258 261 w')) (h2 : Rsay (rsX 47 47 x') (rsM 261 381 w')) (h3 : Rcou nP nM (rsX 46 48 x') (rsM 259 445 w')) (h4 : Rwan q' (rsX 49 50 x') (rsM 445 515 w')) : Wd0 nP nM q' x' w' := by
  obtain ⟨a1, a2, a3, a4, a5, a6, a7, a8, a9, a10, a11, a12, a13, a14, a15, a16, a17, a18⟩ := h
  have ex : ∀ lo hi, hi < 46 → rsX lo hi x' = rsX lo hi x := fun lo hi hh => rsX_congr (fun c j h1 h2 => hx c j (by omega))
  have ew : ∀ lo hi, 515 ≤ lo → rsM lo hi w' = rsM lo hi w := fun lo hi h1 => rsM_congr (fun k h3 h4 => hw k (by omega))
  have el : rsL w' = rsL w := by
    funext k
    unfold rsL
    split
    · exact hw k (by omega)
    · rfl
  refine ⟨h1, h2, h3, h4, ?_, ?_, ?_, ?_, ?_, ?_, ?_, ?_, ?_, ?_, ?_, ?_, ?_, ?_⟩
  · rw [ex _ _ (by omega), el]; exact a5
  · rw [ex _ _ (by omega), ew _ _ (by omega)]; exact a6
  · rw [ex _ _ (by omega), ew _ _ (by omega)]; exact a7
  · rw [ex _ _ (by omega), ew _ _ (by omega)]; exact a8
  · rw [ex _ _ (by omega), ew _ _ (by omega)]; exact a9
  · rw [ex _ _ (by omega), ew _ _ (by omega)]; exact a10
  · rw [ex _ _ (by omega), ew _ _ (by omega)]; exact a11
  · rw [ex _ _ (by omega), ew _ _ (by omega)]; exact a12
  · rw [ex _ _ (by omega), ew _ _ (by omega)]; exact a13
  · rw [ex _ _ (by omega), ew _ _ (by omega)]; exact a14
  · rw [ex _ _ (by omega), ew _ _ (by omega)]; exact a15
  · rw [ex _ _ (by omega), ew _ _ (by omega)]; exact a16
  · rw [ex _ _ (by omega), ew _ _ (by omega)]; exact a17
  · rw [ex _ _ (by omega), ew _ _ (by omega)]; exact a18
theorem cou_cg {nP nM i : Nat} {x x' : Tau} {w w' : Nat → Int32} (h : Cou nP nM i x w) (h1 : ∀ j, j < 4 → x' 48 (4 * i + j) = x 48 (4 * i + j)) (h2 : ∀ j, j < 4 → w' (381 + 4 * i + j) = w (381 + 4 * i + j)) : Cou nP nM i x' w' := by
  unfold Cou at h ⊢
  rw [show x' 48 (4 * i) = x 48 (4 * i) from h1 0 (by decide), h1 1 (by decide), h1 2 (by decide), h1 3 (by decide), show w' (381 + 4 * i) = w (381 + 4 * i) from h2 0 (by decide), h2 1 (by decide), h2 2 (by decide), h2 3 (by decide)]
  exact h
theorem rd_X {lo hi c j : Nat} {tx : Tau} (h1 : lo ≤ c ∧ c ≤ hi) (h2 : (15 ≤ c ∧ c ≤ 43) ∨ (46 ≤ c ∧ c ≤ 50)) (hj : j < lim c) : rsX lo hi (vX 1 tx) c j = tx (1 + c) j := by rw [rsX_at h1, vX_at h2 hj]
theorem rd_M {lo hi k : Nat} {w : Nat → Int32} (h1 : lo ≤ k ∧ k < hi) (h2 : 257 ≤ k ∧ k < 760) : rsM lo hi (vM w) k = w k := by rw [rsM_at h1, vM_at (.inl h2)]
theorem Wd.raw {nP nM : Nat} {q : Nat → Nat} {tx : Tau} {w : Nat → Int32} (h : Wd nP nM q 1 tx w) : (w 258 = tx 47 1 ∧ w 259 = tx 47 2 ∧ w 260 = tx 47 3) ∧ (∀ k, k < 120 → w (261 + k) = tx 48 k) ∧ Rcou nP nM (shX 1 tx) w ∧ Rwan q (shX 1 tx) w := by
  obtain ⟨a1, a2, a3, a4, -⟩ := Wd0_of h
  refine ⟨?_, fun k hk => ?_, ?_, fun p hp => ?_⟩
  · obtain ⟨b1, b2, b3⟩ := a1
    rw [rd_M (by omega) (by omega), rd_X (by omega) (by omega) (by decide +kernel)] at b1 b2 b3
    exact ⟨b1, b2, b3⟩
  · have b := a2 k hk
    rw [rd_M (by omega) (by omega), rd_X (by omega) (by omega) (by show _ < 120; omega)] at b
    exact b
  · obtain ⟨c, b1, b2, b3, b4⟩ := a3
    rw [rd_X (by omega) (by omega) (by decide +kernel)] at b2
    rw [rd_M (by omega) (by omega)] at b3
    refine ⟨c, b1, b2, b3, fun i hi => cou_cg (b4 i hi) (fun j hj => ?_) (fun j hj => ?_)⟩
    · rw [rd_X (by omega) (by omega) (by show _ < 64; omega)]; rfl
    · rw [rd_M (by omega) (by omega)]
  · obtain ⟨b1, b2, b3, b4⟩ := a4 p hp
    rw [rd_X (by omega) (by omega) (by show _ < 10; omega)] at b2
    rw [rd_M (by omega) (by omega)] at b3
    refine ⟨b1, b2, b3, fun j hj => ?_⟩
    have b := b4 j hj
    rw [rd_M (by omega) (by omega), rd_X (by omega) (by omega) (by show _ < 60; omega)] at b
    exact b
theorem Wd_rows {nP nM : Nat} {q q' : Nat → Nat} {tx tx' : Tau} {w w' : Nat → Int32} (h : Wd nP nM q 1 tx w) (hx : ∀ c j, 16 ≤ c → c ≤ 44 → tx' c j = tx c j) (hw : ∀ k, k = 257 ∨ (515 ≤ k ∧ k < 760) ∨ (1360 ≤ k ∧ k < 2244) → w' k = w k) (r1 : w' 258 = tx' 47 1 ∧ w' 259 = tx' 47 2 ∧ w' 260 = tx' 47 3) (r2 : ∀ k, k < 120 → w' (261 + k) = tx' 48 k) (r3 : Rcou nP nM (shX 1 tx') w') (r4 : Rwan q' (shX 1 tx') w') : Wd nP nM q' 1 tx' w' := by
  refine Wd0_repR (Wd0_of h) (fun c j hc => ?_) (fun k hk => ?_) ?_ (fun k hk => ?_) ?_ (fun p hp => ?_)
  · unfold vX
    split
    · exact hx _ _ (by omega) (by omega)
    · rfl
  · unfold vM
    split
    · exact hw k (by omega)
    · rfl
  · obtain ⟨b1, b2, b3⟩ := r1
    unfold Rlin
    rw [rd_M (by omega) (by omega), rd_M (by omega) (by omega), rd_M (by omega) (by omega), rd_X (by omega) (by omega) (by decide +kernel), rd_X (by omega) (by omega) (by decide +kernel), rd_X (by omega) (by omega) (by decide +kernel)]
    exact ⟨b1, b2, b3⟩
  · rw [rd_M (by omega) (by omega), rd_X (by omega) (by omega) (by show _ < 120; omega)]
    exact r2 k hk
  · obtain ⟨c, b1, b2, b3, b4⟩ := r3
    refine ⟨c, b1, ?_, ?_, fun i hi => cou_cg (b4 i hi) (fun j hj => ?_) (fun j hj => ?_)⟩
    · rw [rd_X (by omega) (by omega) (by decide +kernel)]; exact b2
    · rw [rd_M (by omega) (by omega)]; exact b3
    · rw [rd_X (by omega) (by omega) (by show _ < 64; omega)]; rfl
    · rw [rd_M (by omega) (by omega)]
  · obtain ⟨b1, b2, b3, b4⟩ := r4 p hp
    refine ⟨b1, ?_, ?_, fun j hj => ?_⟩
    · rw [rd_X (by omega) (by omega) (by show _ < 10; omega)]; exact b2
    · rw [rd_M (by omega) (by omega)]; exact b3
    · rw [rd_M (by omega) (by omega), rd_X (by omega) (by omega) (by show _ < 60; omega)]
      exact b4 j hj
theorem Wd_lawT {nP nM : Nat} {q : Nat → Nat} {tx tx' : Tau} {w w' : Nat → Int32} (h : Wd nP nM q 1 tx w) (hx : ∀ c j, (16 ≤ c ∧ c ≤ 38) ∨ (47 ≤ c ∧ c ≤ 51) → tx' c j = tx c j) (hw : ∀ k, 258 ≤ k → k < 760 → w' k = w k) (ops : List (Nat × Nat)) (nL : Nat) (h1 : (encs ops).length ≤ 400) (h2 : ∀ o ∈ ops, okOp o) (h3 : ∀ i o, ops[i]? = some o → w' (1424 + 2 * i) = nI o.1 ∧ (o.1 = 0 ∨ o.1 = 26 → w' (1425 + 2 * i) = nI o.2)) (h4 : ∀ j v, (encs ops)[j]? = some v → tx' 44 j = nI v) (h5 : tx' 39 1 = nI (encs ops).length) (h6 : nL ≤ 16) (h7 : tx' 39 0 = nI nL) (h8 : w' 257 = nI nL) (h9 : ∀ i, i < nL → Lin ops i (shX 1 tx') w') : Wd nP nM q 1 tx' w' := by
  have hge := encs_ge ops
  refine Wd0_rep5 (Wd0_of h) (fun c j hc => ?_) (fun k h1 h2 => ?_) ⟨ops, nL, by omega, h1, h2, fun i o ho => ?_, fun j v hj => ?_, ?_, h6, ?_, ?_, fun i hi => ?_⟩
  · unfold vX
    split
    · exact hx _ _ (by omega)
    · rfl
  · unfold vM
    split
    · exact hw k h1 h2
    · rfl
  · have hi := (List.getElem?_eq_some_iff.mp ho).1
    rw [rsL_at (by omega), vM_at (by omega), rsL_at (by omega), vM_at (by omega)]
    exact h3 i o ho
  · have hi := (List.getElem?_eq_some_iff.mp hj).1
    rw [rd_X (by omega) (by omega) (by show _ < 400; omega)]
    exact h4 j v hj
  · rw [rd_X (by omega) (by omega) (by decide +kernel)]; exact h5
  · rw [rd_X (by omega) (by omega) (by decide +kernel)]; exact h7
  · rw [rsL_at (by omega), vM_at (by omega)]; exact h8
  · refine Lin_congr (h9 i hi) (fun c c1 c2 => ?_) ⟨?_, ?_, ?_, ?_⟩
    · have hl : lim c = 16 := by
        have : ∀ c, c < 43 → 39 ≤ c → lim c = 16 := by decide +kernel
        exact this c (by omega) c1
      rw [rd_X (by omega) (by omega) (by rw [hl]; omega)]
      rfl
    · rw [rsL_at (by omega), vM_at (by omega)]
    · rw [rsL_at (by omega), vM_at (by omega)]
    · rw [rsL_at (by omega), vM_at (by omega)]
    · rw [rsL_at (by omega), vM_at (by omega)]
/-- after a text: the relation again -/
theorem Rl_text1 {n nP nM : Nat} {q : Nat → Nat} {tx tm tx' tm' : Tau} (hW : RW (840 * (n + 1)) nP nM q 1 tx' (tm' 1)) (h : RH (840 * n) nP nM q tx tm ∧ Rim (840 * n) tx tm ∧ Rtp tx tm ∧ Rfa tx tm ∧ Rsi tx) (hx : ∀ c j, (c = 0 ∧ j = 2) ∨ (53 ≤ c ∧ c ≤ 95) ∨ (97 ≤ c ∧ c ≤ 102) ∨ (c = 116 ∧ j < 2) ∨ (118 ≤ c ∧ c ≤ 195) ∨ (c = 213 ∧ j = 10) ∨ c = 221 → tx' c j = tx c j) (hm : ∀ c j, c = 2 ∨ c = 3 ∨ (c = 0 ∧ (j = 4 ∨ j = 5 ∨ j = 26)) → tm' c j = tm c j) (h0 : tx' 197 0 = 0) (h16 : tm' 0 16 = 0) (f1 : tx' 197 1 = tm' 0 23) (f2 : tx' 197 2 = tm' 0 25) : Rl (n + 1) tx' tm' := by
  obtain ⟨h2, h3, h4, h5, h6⟩ := h
  refine ⟨nP, nM, q, hW, (h2.mono (by omega)).congr (fun c j hc => hx _ _ (by omega)) (hm _ _ (by omega)) (fun k => hm _ _ (by omega)), (h3.mono (by omega)).congr (fun c j hc => hx _ _ (by omega)) (hm _ _ (by omega)) (fun k _ => hm _ _ (by omega)), ⟨0, Nat.zero_le _, h0, h16, fun i hi => absurd hi (Nat.not_lt_zero i)⟩, ⟨f1, f2, ?_⟩, h6.congr (hx _ _ (by omega)) (fun j => hx _ _ (by omega))⟩
  rw [hm _ _ (by omega)]
  exact h5.2.2
theorem Rl_text2 {n nP nM : Nat} {q q' : Nat → Nat} {tx tm tx' tm' : Tau} (hW : RW (840 * (n + 1)) nP nM q' 1 tx' (tm' 1)) (h : RH (840 * n) nP nM q tx tm ∧ Rim (840 * n) tx tm ∧ Rtp tx tm ∧ Rfa tx tm ∧ Rsi tx) (hx : ∀ c j, (c = 0 ∧ j = 2) ∨ (53 ≤ c ∧ c ≤ 95) ∨ (97 ≤ c ∧ c ≤ 102) ∨ (c = 116 ∧ j = 1) ∨ (c = 213 ∧ j = 10) ∨ c = 221 → tx' c j = tx c j) (hm : ∀ c j, c = 2 ∨ (c = 0 ∧ (j = 5 ∨ j = 26)) → tm' c j = tm c j) (h0 : tx' 197 0 = 0) (h16 : tm' 0 16 = 0) (f1 : tx' 197 1 = tm' 0 23) (f2 : tx' 197 2 = tm' 0 25) (g1 : tx' 116 0 = 0) (g2 : tm' 0 4 = 0) : Rl (n + 1) tx' tm' := by
  obtain ⟨⟨sz, nx, s1, s2, s3, s4, s5, s6⟩, h3, h4, h5, h6⟩ := h
  refine ⟨nP, nM, q', hW, ⟨0, nx, by decide, s2, g1, by rw [hx _ _ (by omega)]; exact s4, g2, fun j hj => absurd hj (Nat.not_lt_zero j)⟩, (h3.mono (by omega)).congr (fun c j hc => hx _ _ (by omega)) (hm _ _ (by omega)) (fun k _ => hm _ _ (by omega)), ⟨0, Nat.zero_le _, h0, h16, fun i hi => absurd hi (Nat.not_lt_zero i)⟩, ⟨f1, f2, ?_⟩, h6.congr (hx _ _ (by omega)) (fun j => hx _ _ (by omega))⟩
  rw [hm _ _ (by omega)]
  exact h5.2.2
