/-! PURE PART. Texts: laid in the world -/
theorem RW_new {T nP nM : Nat} {q q' : Nat → Nat} {tx tx' : Tau} {w w' : Nat → Int32} (h : RW T nP nM q 1 tx w) (hs : ∀ k, k < 255 → w' k = tx' (2 + slo k) (sli k)) (hx0 : tx' 2 0 = tx 2 0) (hx1 : tx' 2 1 = tx 2 1) (hw5 : w' 255 = w 255) (hw6 : w' 256 = w 256) (hw4 : w' 4 = w 4) (h600 : ∀ i, i < 600 → w' (760 + i) = w (760 + i) ∧ tx' 46 i = tx 46 i) (hV : Val T nP nM q' w') (hD : Wd nP nM q' 1 tx' w') : RW T nP nM q' 1 tx' w' := by
  obtain ⟨a1, a2, a3, a4, a5, a6, a7, a8, a9, ⟨k, k1, k2⟩, a11⟩ := h
  exact ⟨hs, hx0.trans a2, hx1.trans a3, hw5.trans a4, hw6.trans a5, a6, a7, hV, hD, ⟨k, k1, hw4.trans k2⟩, fun i hi => (h600 i hi).1.trans ((a11 i hi).trans (h600 i hi).2.symm)⟩
theorem sl_t : ∀ k, k < 255 → slo k ≤ 12 ∧ (slo k = 2 → 15 ≤ k ∧ k < 25 ∧ sli k = k - 15) := by decide +kernel
theorem cp_c {t : Tau} {a b n j : Nat} (h : j < n) : cpy t a b n b j = t a j := if_pos ⟨rfl, h⟩
theorem cp_n {t : Tau} {a b n c j : Nat} (h : c ≠ b) : cpy t a b n c j = t c j := if_neg (fun z => h z.1)
theorem copy_law {F : Nat} {τ : Tau} : ∃ τ', X2_copyFrom F 39 203 τ = some (0, τ') ∧ τ' 39 0 = τ 203 0 ∧ τ' 39 1 = τ 203 1 ∧ (∀ j, j < 16 → τ' 40 j = τ 204 j ∧ τ' 41 j = τ 205 j ∧ τ' 42 j = τ 206 j ∧ τ' 43 j = τ 207 j) ∧ (∀ j, j < 400 → τ' 44 j = τ 208 j) ∧ ∀ c j, ¬ (39 ≤ c ∧ c ≤ 44) → τ' c j = τ c j := by
  refine ⟨cpy (cpy (cpy (cpy (cpy (up (up τ 39 0 (τ 203 0)) 39 1 (τ 203 1)) 204 40 16) 205 41 16) 206 42 16) 207 43 16) 208 44 400, ?_, ?_, ?_, fun j hj => ⟨?_, ?_, ?_, ?_⟩, fun j hj => ?_, fun c j hc => ?_⟩
  · unfold X2_copyFrom
    rw [pst_eq, up_nc (show (203 : Nat) ≠ 39 by decide), pst_eq, X10_copy_eq (a := 203 + 1) (b := 39 + 1) (n := 16) (by decide +kernel) (by decide +kernel) (by decide), cal_some, X10_copy_eq (a := 203 + 2) (b := 39 + 2) (n := 16) (by decide +kernel) (by decide +kernel) (by decide), cal_some, X10_copy_eq (a := 203 + 3) (b := 39 + 3) (n := 16) (by decide +kernel) (by decide +kernel) (by decide), cal_some, X10_copy_eq (a := 203 + 4) (b := 39 + 4) (n := 16) (by decide +kernel) (by decide +kernel) (by decide), cal_some, X10_copy_eq (a := 203 + 5) (b := 39 + 5) (n := 400) (by decide +kernel) (by decide +kernel) (by decide), cal_some]
  · rw [cp_n (by decide), cp_n (by decide), cp_n (by decide), cp_n (by decide), cp_n (by decide), up_nj (by decide), up_c]
  · rw [cp_n (by decide), cp_n (by decide), cp_n (by decide), cp_n (by decide), cp_n (by decide), up_c]
  · rw [cp_n (by decide), cp_n (by decide), cp_n (by decide), cp_n (by decide), cp_c hj, up_nc (by decide), up_nc (by decide)]
  · rw [cp_n (by decide), cp_n (by decide), cp_n (by decide), cp_c hj, cp_n (by decide), up_nc (by decide), up_nc (by decide)]
  · rw [cp_n (by decide), cp_n (by decide), cp_c hj, cp_n (by decide), cp_n (by decide), up_nc (by decide), up_nc (by decide)]
  · rw [cp_n (by decide), cp_c hj, cp_n (by decide), cp_n (by decide), cp_n (by decide), up_nc (by decide), up_nc (by decide)]
  · rw [cp_c hj, cp_n (by decide), cp_n (by decide), cp_n (by decide), cp_n (by decide), up_nc (by decide), up_nc (by decide)]
  · rw [cp_n (by omega), cp_n (by omega), cp_n (by omega), cp_n (by omega), cp_n (by omega), up_nc (by omega), up_nc (by omega)]
theorem fin0 {F T nP nM n : Nat} {q : Nat → Nat} {τx τm : Tau} {ops : List (Nat × Nat)} (hF : 5000 ≤ F) (h : RW T nP nM q 1 τx (τm 1)) (hc : (encs ops).length ≤ 400) (hn : n ≤ 16) (hok : ∀ o ∈ ops, okOp o) (hX : CXc (encs ops) τx) (hX0 : τx 203 0 = nI n) (hM : CMc ops τm) (hM13 : τm 0 13 = nI n) (hT : ∀ k, k < n → LinT ops k τx τm) : ∃ τx' τm', X2_copyFrom F 39 203 τx = some (0, τx') ∧ X11_putsLaw F τm = some (nI n, τm') ∧ RW T nP nM q 1 τx' (τm' 1) ∧ (∀ c j, ¬ (39 ≤ c ∧ c ≤ 44) → τx' c j = τx c j) ∧ ∀ c j, c ≠ 1 → τm' c j = τm c j := by
  obtain ⟨τx', x1, x2, x3, x4, x5, x6⟩ := copy_law (F := F) (τ := τx)
  have hge := encs_ge ops
  obtain ⟨τ1, p1, p2, p3⟩ := puts_14 (F := F) hF hn n 0 F (up τm 1 257 (nI n)) (by omega) (by omega) (by rw [up_nc (by decide)]; exact hM13)
  have e14 : τ1 0 14 = nI ops.length := by rw [p3 _ _ (by omega), up_nc (by decide)]; exact hM.1
  obtain ⟨τm', q1, q2, q3⟩ := puts_108 (F := F) (L := ops.length) (by omega) (2 * ops.length) 0 F τ1 (by omega) (by omega) e14
  have eM : X11_putsLaw F τm = some (nI n, τm') := by
    unfold X11_putsLaw
    rw [ast_lit (by decide) (by decide), hM13, show X11_putsLaw_L14 F F 0 (up τm 1 257 (nI n)) = _ from p1, show X11_putsLaw_L108 F F 0 τ1 = _ from q1, p3 _ _ (by omega), up_nc (by decide), hM13]
  have lo : ∀ k, k < 1360 → k ≠ 257 → τm' 1 k = τm 1 k := fun k h1 h2 => by rw [q3 _ _ (by omega), p3 _ _ (by omega), up_nj h2]
  have e5 : ∀ j, up τm 1 257 (nI n) 5 j = τm 5 j := fun j => up_nc (by decide)
  have e6 : ∀ j, τ1 6 j = τm 6 j := fun j => by rw [p3 _ _ (by omega), up_nc (by decide)]
  refine ⟨τx', τm', x1, eM, RW_new h (fun k hk => ?_) (x6 _ _ (by omega)) (x6 _ _ (by omega)) (lo _ (by decide) (by decide)) (lo _ (by decide) (by decide)) (lo _ (by decide) (by decide)) (fun i hi => ⟨lo _ (by omega) (by omega), x6 _ _ (by omega)⟩) (Val_congr h.2.2.2.2.2.2.1 h.2.2.2.2.2.2.2.1 (fun k hk => lo k (by omega) (by omega))) ?_, x6, fun c j hc => ?_⟩
  · have := (sl_t k hk).1
    rw [lo k (by omega) (by omega), x6 _ _ (by omega)]
    exact h.1 k hk
  · refine Wd_lawT h.2.2.2.2.2.2.2.2.1 (fun c j hc => x6 _ _ (by omega)) (fun k h1 h2 => lo k (by omega) (by omega)) ops n hc hok (fun i o ho => ?_) (fun j v hj => ?_) ?_ hn ?_ ?_ (fun i hi => ?_)
    · have hi := (List.getElem?_eq_some_iff.mp ho).1
      obtain ⟨b1, b2⟩ := hM.2 i o ho
      refine ⟨?_, fun z => ?_⟩
      · rw [q2 _ (Nat.zero_le _) (by omega), e6]; exact b1
      · rw [show 1425 + 2 * i = 1424 + (2 * i + 1) from by omega, q2 _ (Nat.zero_le _) (by omega), e6]; exact b2 z
    · have hi := (List.getElem?_eq_some_iff.mp hj).1
      rw [x5 j (by omega)]
      exact hX.2 j v hj
    · rw [x3]; exact hX.1
    · rw [x2]; exact hX0
    · rw [q3 _ _ (by omega), p3 _ _ (by omega), up_c]
    · obtain ⟨wd, a, m, z, b1, b2, b3, b4, b5, b6, b7, b8, b9, b10, b11, b12, b13, b14⟩ := hT i hi
      obtain ⟨r1, r2, r3, r4⟩ := p2 i (Nat.zero_le _) hi
      obtain ⟨s1, s2, s3, s4⟩ := x4 i (by omega)
      rw [e5] at r1 r2 r3 r4
      have lo2 : ∀ k, k < 1424 → τm' 1 k = τ1 1 k := fun k hk => q3 _ _ (by omega)
      exact ⟨wd, a, m, z, b1, b2, b3, b4, by rw [lo2 _ (by omega), r1]; exact b5, by rw [lo2 _ (by omega), r2]; exact b6, by rw [lo2 _ (by omega), r3]; exact b7, by rw [lo2 _ (by omega), r4]; exact b8, s1.trans b9, s2.trans b10, s3.trans b11, s4.trans b12, b13, b14⟩
  · rw [q3 _ _ (by omega), p3 _ _ (by omega), up_nc hc]
def finR (F T nP nM a n : Nat) (q : Nat → Nat) (τx τm : Tau) : Prop := ∃ τx' τm' q', X9_tell F 1 210 (nI a) (nI n) τx = some (0, τx') ∧ X11_putsText F (nI a) τm = some (nI n, τm') ∧ RW T nP nM q' 1 τx' (τm' 1) ∧ τm' 0 4 = 0 ∧ (∀ c j, ¬ (c = 4 ∨ (47 ≤ c ∧ c ≤ 51)) → τx' c j = τx c j) ∧ ∀ c j, c ≠ 1 → ¬ (c = 0 ∧ j = 4) → τm' c j = τm c j
theorem fin1 {F T nP nM n : Nat} {q : Nat → Nat} {τx τm : Tau} (hF : 5000 ≤ F) (h : RW T nP nM q 1 τx (τm 1)) (hn : n ≤ 16) (h15 : τm 0 15 = nI n) (hI : I1 nP n (τx 210) (τm 7)) : finR F T nP nM 1 n q τx τm := by
  obtain ⟨hI1, hI2⟩ := hI
  have hnP := h.2.2.2.2.2.1
  obtain ⟨w1, w2, w3, w4⟩ := Wd.raw h.2.2.2.2.2.2.2.2.1
  obtain ⟨τ1, a1, a2, a3⟩ := self_X (F := F) 120 0 F τx (by omega) (by omega)
  have e210 : τ1 210 = τx 210 := funext fun j => a3 _ _ (by omega)
  obtain ⟨τ2, b1, b2, b3⟩ := say_loop (F := F) hnP hn n 0 F τ1 (by omega) (by omega) (by rw [e210]; exact hI1) (fun k hk => by rw [a2 k (Nat.zero_le _) hk]; rfl)
  rw [e210] at b2
  obtain ⟨τm', p1, p2, p3, p4⟩ := puts_M (F := F) (A := 258) (S := 261) (L := 120) (by decide) (by decide) (by decide) hF (by decide) (up τm 0 4 0)
  rw [show up τm 0 4 0 0 15 = nI n from (up_nj (by decide)).trans h15] at p1 p2
  have x48 : ∀ c j, c ≠ 48 → τ2 c j = τx c j := fun c j hc => (b3 c j hc).trans (a3 c j (by omega))
  have lo : ∀ k, k ≠ 258 → ¬ (261 ≤ k ∧ k < 381) → τm' 1 k = τm 1 k := fun k h1 h2 => by rw [p4 _ _ (by omega), up_nc (by decide)]
  refine ⟨up τ2 47 1 (nI n), τm', q, ?_, ?_, RW_new h (fun k hk => ?_) ?_ ?_ (lo _ (by decide) (by decide)) (lo _ (by decide) (by decide)) (lo _ (by decide) (by decide)) (fun i hi => ⟨lo _ (by omega) (by omega), ?_⟩) (Val_congr h.2.2.2.2.2.2.1 h.2.2.2.2.2.2.2.1 (fun k hk => lo k (by omega) (by omega))) ?_, ?_, fun c j hc => ?_, fun c j h1 h2 => ?_⟩
  · unfold X9_tell X9_tellTongues X9_letThingsSayThemselves X9_tell_j56
    rw [if_pos (show nI 1 = 1 from rfl), show X9_letThingsSayThemselves_L2 F 1 F 0 τx = _ from a1, cal_some, show X9_tellTongues_L6 F 1 210 F (nI n) 0 τ1 = _ from b1, cal_some, ast_nI (by decide) (by decide)]
  · unfold X11_putsText X11_forgets X11_putsText_j42
    rw [if_neg (by decide), pst_eq, cal_some, if_neg (by decide), if_pos (show nI 1 = 1 from rfl), show X11_puts F 258 261 120 (up τm 0 4 0) = _ from p1, cal_some]
  · have := (sl_t k hk).1
    rw [lo k (by omega) (by omega), up_nc (by omega), x48 _ _ (by omega)]
    exact h.1 k hk
  · rw [up_nc (by decide), x48 _ _ (by decide)]
  · rw [up_nc (by decide), x48 _ _ (by decide)]
  · rw [up_nc (by decide), x48 _ _ (by decide)]
  · refine Wd_rows h.2.2.2.2.2.2.2.2.1 (fun c j h1 h2 => by rw [up_nc (by omega), x48 _ _ (by omega)]) (fun k hk => lo k (by omega) (by omega)) ⟨?_, ?_, ?_⟩ (fun k hk => ?_) ?_ (fun p hp => ?_)
    · rw [p2, up_c]
    · rw [lo _ (by decide) (by decide), up_nj (by decide), x48 _ _ (by decide)]; exact w1.2.1
    · rw [lo _ (by decide) (by decide), up_nj (by decide), x48 _ _ (by decide)]; exact w1.2.2
    · rw [p3 k hk, up_nc (by decide), up_nc (by decide), b2 k hk, hI2 k hk]
    · obtain ⟨c, c1, c2, c3, c4⟩ := w3
      refine ⟨c, c1, ?_, by rw [lo _ (by decide) (by decide)]; exact c3, fun i hi => cou_cg (c4 i hi) (fun j hj => ?_) (fun j hj => lo _ (by omega) (by omega))⟩
      · show up τ2 47 1 (nI n) 47 2 = _
        rw [up_nj (by decide), x48 _ _ (by decide)]; exact c2
      · show up τ2 47 1 (nI n) 49 _ = _
        rw [up_nc (by decide), x48 _ _ (by decide)]; rfl
    · obtain ⟨c1, c2, c3, c4⟩ := w4 p hp
      refine ⟨c1, ?_, by rw [lo _ (by omega) (by omega)]; exact c3, fun j hj => ?_⟩
      · show up τ2 47 1 (nI n) 51 p = _
        rw [up_nc (by decide), x48 _ _ (by decide)]; exact c2
      · show _ = up τ2 47 1 (nI n) 50 _
        rw [lo _ (by omega) (by omega), up_nc (by decide), x48 _ _ (by decide)]; exact c4 j hj
  · rw [p4 _ _ (by omega), up_c]
  · rw [up_nc (by omega), x48 _ _ (by omega)]
  · rw [p4 _ _ (by omega), up_if, if_neg h2]
theorem fin2 {F T nP nM n : Nat} {q : Nat → Nat} {τx τm : Tau} (hF : 5000 ≤ F) (h : RW T nP nM q 1 τx (τm 1)) (hn : n ≤ 16) (h15 : τm 0 15 = nI n) (hI : I2 nP nM n (τx 210) (τm 7)) : finR F T nP nM 2 n q τx τm := by
  obtain ⟨w1, w2, w3, w4⟩ := Wd.raw h.2.2.2.2.2.2.2.2.1
  obtain ⟨τ2, b1, b2, b3⟩ := cou_loop hF hn n 0 F τx (by omega) (by omega)
  have k4 : (4 : Int32) * nI n = nI (4 * n) := litM
  obtain ⟨τm', p1, p2, p3, p4⟩ := puts_M (F := F) (A := 259) (S := 381) (L := 4 * n) (by decide) (by omega) (by omega) hF (by decide) (up τm 0 4 0)
  have e15 : up τm 0 4 0 0 15 = nI n := (up_nj (by decide)).trans h15
  rw [e15] at p1 p2
  have x49 : ∀ c j, c ≠ 49 → τ2 c j = τx c j := fun c j hc => b3 c j (by omega)
  have lo : ∀ k, k ≠ 259 → ¬ (381 ≤ k ∧ k < 445) → τm' 1 k = τm 1 k := fun k h1 h2 => by rw [p4 _ _ (by omega), up_nc (by decide)]
  refine ⟨up τ2 47 2 (nI n), τm', q, ?_, ?_, RW_new h (fun k hk => ?_) ?_ ?_ (lo _ (by decide) (by decide)) (lo _ (by decide) (by decide)) (lo _ (by decide) (by decide)) (fun i hi => ⟨lo _ (by omega) (by omega), ?_⟩) (Val_congr h.2.2.2.2.2.2.1 h.2.2.2.2.2.2.2.1 (fun k hk => lo k (by omega) (by omega))) ?_, ?_, fun c j hc => ?_, fun c j h1 h2 => ?_⟩
  · unfold X9_tell X9_tellCourt X9_tell_j56
    rw [if_neg (by decide), if_pos (show nI 2 = 2 from rfl), show X9_tellCourt_L2 F 1 210 F (nI n) 0 τx = _ from b1, cal_some, ast_nI (by decide) (by decide)]
  · unfold X11_putsText X11_forgets X11_putsText_j42
    rw [if_neg (by decide), pst_eq, cal_some, if_neg (by decide), if_neg (by decide), if_pos (show nI 2 = 2 from rfl), e15, k4, show X11_puts F 259 381 (nI (4 * n)) (up τm 0 4 0) = _ from p1, cal_some]
  · have := (sl_t k hk).1
    rw [lo k (by omega) (by omega), up_nc (by omega), x49 _ _ (by omega)]
    exact h.1 k hk
  · rw [up_nc (by decide), x49 _ _ (by decide)]
  · rw [up_nc (by decide), x49 _ _ (by decide)]
  · rw [up_nc (by decide), x49 _ _ (by decide)]
  · refine Wd_rows h.2.2.2.2.2.2.2.2.1 (fun c j h1 h2 => by rw [up_nc (by omega), x49 _ _ (by omega)]) (fun k hk => lo k (by omega) (by omega)) ⟨?_, ?_, ?_⟩ (fun k hk => ?_) ?_ (fun p hp => ?_)
    · rw [lo _ (by decide) (by decide), up_nj (by decide), x49 _ _ (by decide)]; exact w1.1
    · rw [p2, up_c]
    · rw [lo _ (by decide) (by decide), up_nj (by decide), x49 _ _ (by decide)]; exact w1.2.2
    · rw [lo _ (by omega) (by omega), up_nc (by decide), x49 _ _ (by decide)]; exact w2 k hk
    · refine ⟨n, hn, up_c, p2, fun i hi => ?_⟩
      have X : ∀ j, j < 4 → shX 1 (up τ2 47 2 (nI n)) 48 (4 * i + j) = τx 210 (8 * i + j) := fun j hj => by
        show up τ2 47 2 (nI n) 49 (4 * i + j) = _
        rw [up_nc (by decide)]
        exact b2 i j (Nat.zero_le _) hi hj
      have M : ∀ j, j < 4 → τm' 1 (381 + 4 * i + j) = τm 7 (4 * i + j) := fun j hj => by
        rw [show 381 + 4 * i + j = 381 + (4 * i + j) from by omega, p3 _ (by omega), up_nc (by decide)]
      have c := hI i hi
      unfold CouR at c
      unfold Cou
      rw [show shX 1 (up τ2 47 2 (nI n)) 48 (4 * i) = τx 210 (8 * i) from X 0 (by decide), X 1 (by decide), X 2 (by decide), X 3 (by decide), show τm' 1 (381 + 4 * i) = τm 7 (4 * i) from M 0 (by decide), M 1 (by decide), M 2 (by decide), M 3 (by decide)]
      exact c
    · obtain ⟨c1, c2, c3, c4⟩ := w4 p hp
      refine ⟨c1, ?_, by rw [lo _ (by omega) (by omega)]; exact c3, fun j hj => ?_⟩
      · show up τ2 47 2 (nI n) 51 p = _
        rw [up_nc (by decide), x49 _ _ (by decide)]; exact c2
      · show _ = up τ2 47 2 (nI n) 50 _
        rw [lo _ (by omega) (by omega), up_nc (by decide), x49 _ _ (by decide)]; exact c4 j hj
  · rw [p4 _ _ (by omega), up_c]
  · rw [up_nc (by omega), x49 _ _ (by omega)]
  · rw [p4 _ _ (by omega), up_if, if_neg h2]
theorem fin3 {F T nP nM n : Nat} {q : Nat → Nat} {τx τm : Tau} (hF : 5000 ≤ F) (h : RW T nP nM q 1 τx (τm 1)) (hn : n ≤ 16) (h15 : τm 0 15 = nI n) (hI : I3 nP n (τx 210) (τm 7)) : finR F T nP nM 3 n q τx τm := by
  obtain ⟨hI1, hI2⟩ := hI
  have hnP := h.2.2.2.2.2.1
  have hnM := h.2.2.2.2.2.2.1
  obtain ⟨w1, w2, w3, w4⟩ := Wd.raw h.2.2.2.2.2.2.2.2.1
  obtain ⟨τ0, a1, a2, a3⟩ := fill_all (F := F) (t0 := 51) (v := 0) (by decide +kernel) hF τx
  obtain ⟨τ1, d1, d2, d3⟩ := fill_all (F := F) (t0 := 4) (v := 0) (by decide +kernel) hF τ0
  have l51 : lnX 51 = 10 := by decide +kernel
  have l4 : lnX 4 = 10 := by decide +kernel
  have e210 : τ1 210 = τx 210 := funext fun j => (d3 _ _ (by decide)).trans (a3 _ _ (by decide))
  obtain ⟨τ2, b1, b2, b3, b4⟩ := wan_loop (F := F) hF hnP hn n 0 F τ1 (by omega) (by omega) (by rw [e210]; exact hI1) (fun p hp => by rw [d3 _ _ (by decide), a2 p (by rw [l51]; exact hp)]; rfl) (fun p j _ _ hj => absurd hj (Nat.not_lt_zero j))
  rw [e210] at b2 b3
  obtain ⟨τs, s1, s2, s3⟩ := steps_M (F := F) 10 0 F (up τm 0 4 0) (by omega) (by omega)
  have e15 : τs 0 15 = nI n := by rw [s3 _ _ (by omega), up_nj (by decide)]; exact h15
  obtain ⟨τm', p1, p2, p3, p4⟩ := puts_M (F := F) (A := 260) (S := 445) (L := 70) (by decide) (by decide) (by decide) hF (by decide) τs
  rw [e15] at p1 p2
  have xo : ∀ c j, c ≠ 4 → c ≠ 50 → c ≠ 51 → τ2 c j = τx c j := fun c j h1 h2 h3 => by rw [b4 c j h2 h3, d3 c j h1, a3 c j h3]
  have x4 : ∀ j, j < 10 → τ2 4 j = 0 := fun j hj => by rw [b4 4 j (by decide) (by decide)]; exact d2 j (by rw [l4]; exact hj)
  have lo : ∀ k, ¬ (15 ≤ k ∧ k < 25) → k ≠ 260 → ¬ (445 ≤ k ∧ k < 515) → τm' 1 k = τm 1 k := fun k h1 h2 h3 => by rw [p4 _ _ (by omega), s3 _ _ (by omega), up_nc (by decide)]
  have l15 : ∀ p, p < 10 → τm' 1 (15 + p) = 0 := fun p hp => by rw [p4 _ _ (by omega)]; exact s2 p (Nat.zero_le _) hp
  have e7 : ∀ k, τs 7 k = τm 7 k := fun k => by rw [s3 _ _ (by omega), up_nc (by decide)]
  refine ⟨up τ2 47 3 (nI n), τm', fun p => cntN (τx 210) n p, ?_, ?_, RW_new h (fun k hk => ?_) ?_ ?_ (lo _ (by decide) (by decide) (by decide)) (lo _ (by decide) (by decide) (by decide)) (lo _ (by decide) (by decide) (by decide)) (fun i hi => ⟨lo _ (by omega) (by omega) (by omega), ?_⟩) ?_ ?_, ?_, fun c j hc => ?_, fun c j h1 h2 => ?_⟩
  · unfold X9_tell X9_tellWants X9_tell_j56
    rw [if_neg (by decide), if_neg (by decide), if_pos (show nI 3 = 3 from rfl), show X_Arrays_fill___II_V F (1 + 50) 0 τx = _ from a1, cal_some, show X_Arrays_fill___II_V F (1 + 3) 0 τ0 = _ from d1, cal_some, show X9_tellWants_L21 F 1 210 F (nI n) 0 τ1 = _ from b1, cal_some, ast_nI (by decide) (by decide)]
  · unfold X11_putsText X11_forgets
    rw [if_neg (by decide), pst_eq, cal_some, if_pos (show nI 3 = 3 from rfl), show X11_putsText_L20 F F (nI 3) 0 (up τm 0 4 0) = _ from s1]
    unfold X11_putsText_j42
    rw [if_neg (by decide), if_neg (by decide), show X11_puts F 260 445 70 τs = _ from p1, cal_some]
  · obtain ⟨t1, t2⟩ := sl_t k hk
    by_cases c : slo k = 2
    · obtain ⟨t3, t4, t5⟩ := t2 c
      rw [c, t5, up_nc (by decide), x4 _ (by omega)]
      have := l15 (k - 15) (by omega)
      rw [show 15 + (k - 15) = k from by omega] at this
      exact this
    · have hk15 : ¬ (15 ≤ k ∧ k < 25) := by
        intro z
        apply c
        unfold slo
        rw [if_neg (by omega), if_neg (by omega), if_pos (by omega)]
      rw [lo k hk15 (by omega) (by omega), up_nc (by omega), xo _ _ (by omega) (by omega) (by omega)]
      exact h.1 k hk
  · rw [up_nc (by decide), xo _ _ (by decide) (by decide) (by decide)]
  · rw [up_nc (by decide), xo _ _ (by decide) (by decide) (by decide)]
  · rw [up_nc (by decide), xo _ _ (by decide) (by decide) (by decide)]
  · obtain ⟨v1, v2, v3, v4, v5, v6, v7, v8, v9⟩ := h.2.2.2.2.2.2.2.1
    refine ⟨fun m hm => ?_, fun m hm => ?_, fun m hm => ?_, fun k hk => ?_, fun m hm => ?_, fun p hp => ⟨0, by decide, l15 p hp, .inl rfl⟩, fun p hp => ?_, fun m h1 h2 => ?_, fun p h1 h2 => ?_⟩
    · rw [lo _ (by omega) (by omega) (by omega)]; exact v1 m hm
    · rw [lo _ (by omega) (by omega) (by omega)]; exact v2 m hm
    · rw [lo _ (by omega) (by omega) (by omega)]; exact v3 m hm
    · rw [lo _ (by omega) (by omega) (by omega)]; exact v4 k hk
    · rw [lo _ (by omega) (by omega) (by omega)]; exact v5 m hm
    · rw [lo _ (by omega) (by omega) (by omega)]; exact v7 p hp
    · rw [lo _ (by omega) (by omega) (by omega), lo _ (by omega) (by omega) (by omega), lo _ (by omega) (by omega) (by omega)]; exact v8 m h1 h2
    · obtain ⟨z1, z2, z3, z4⟩ := v9 p h1 h2
      rw [lo _ (by omega) (by omega) (by omega), lo (25 + p) (by omega) (by omega) (by omega), lo (35 + p) (by omega) (by omega) (by omega)]
      exact ⟨z1, l15 p h2, z3, z4⟩
  · refine Wd_rows h.2.2.2.2.2.2.2.2.1 (fun c j h1 h2 => by rw [up_nc (by omega), xo _ _ (by omega) (by omega) (by omega)]) (fun k hk => lo k (by omega) (by omega) (by omega)) ⟨?_, ?_, ?_⟩ (fun k hk => ?_) ?_ (fun p hp => ?_)
    · rw [lo _ (by decide) (by decide) (by decide), up_nj (by decide), xo _ _ (by decide) (by decide) (by decide)]; exact w1.1
    · rw [lo _ (by decide) (by decide) (by decide), up_nj (by decide), xo _ _ (by decide) (by decide) (by decide)]; exact w1.2.1
    · rw [p2, up_c]
    · rw [lo _ (by omega) (by omega) (by omega), up_nc (by decide), xo _ _ (by decide) (by decide) (by decide)]; exact w2 k hk
    · obtain ⟨c, c1, c2, c3, c4⟩ := w3
      refine ⟨c, c1, ?_, by rw [lo _ (by decide) (by decide) (by decide)]; exact c3, fun i hi => cou_cg (c4 i hi) (fun j hj => ?_) (fun j hj => lo _ (by omega) (by omega) (by omega))⟩
      · show up τ2 47 3 (nI n) 47 2 = _
        rw [up_nj (by decide), xo _ _ (by decide) (by decide) (by decide)]; exact c2
      · show up τ2 47 3 (nI n) 49 _ = _
        rw [up_nc (by decide), xo _ _ (by decide) (by decide) (by decide)]; rfl
    · obtain ⟨c1, c2, c3⟩ := hI2 p hp
      refine ⟨c1, ?_, ?_, fun j hj => ?_⟩
      · show up τ2 47 3 (nI n) 51 p = _
        rw [up_nc (by decide)]; exact b2 p hp
      · rw [p3 _ (by omega), e7]; exact c2
      · have hj6 : j < 6 := by
          have : j < cntN (τx 210) n p := hj
          omega
        show _ = up τ2 47 3 (nI n) 50 (6 * p + j)
        rw [up_nc (by decide), b3 p j hp hj6 hj, show 446 + 7 * p + j = 445 + (7 * p + 1 + j) from by omega, p3 _ (by omega), e7]
        exact c3 j hj
  · rw [p4 _ _ (by omega), s3 _ _ (by omega), up_c]
  · rw [up_nc (by omega), xo _ _ (by omega) (by omega) (by omega)]
  · rw [p4 _ _ (by omega), s3 _ _ (by omega), up_if, if_neg h2]
