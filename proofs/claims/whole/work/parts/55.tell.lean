/-! PURE PART. What THE LAW tells, in both -/
def shX (b : Nat) (tx : Tau) : Tau := fun c j => tx (b + c) j
def LwP (ops : List (Nat × Nat)) (nL : Nat) (f : Nat → Int32) (tx tm : Tau) : Prop := ops.length ≤ 400 ∧ (encs ops).length ≤ 400 ∧ (∀ o ∈ ops, okOp o) ∧ (∀ i o, ops[i]? = some o → tm 1 (1424 + 2 * i) = nI o.1 ∧ (o.1 = 0 ∨ o.1 = 26 → tm 1 (1425 + 2 * i) = nI o.2)) ∧
  (∀ j v, (encs ops)[j]? = some v → tx 44 j = nI v) ∧ tx 39 1 = nI (encs ops).length ∧ nL ≤ 16 ∧ tx 39 0 = nI nL ∧ tm 1 257 = nI nL ∧ (∀ i, i < nL → Lin ops i (shX 1 tx) (tm 1)) ∧ (∀ k, k < 10 → tx 212 k = f k) ∧ (∀ k, k < 10 → tm 10 (k + 1) = f k)
theorem Lin_congr {ops : List (Nat × Nat)} {i : Nat} {x x' : Tau} {w w' : Nat → Int32} (h : Lin ops i x w) (hx : ∀ c, 39 ≤ c → c ≤ 42 → x' c i = x c i) (hw : w' (1360 + i) = w (1360 + i) ∧ w' (1376 + i) = w (1376 + i) ∧ w' (1392 + i) = w (1392 + i) ∧ w' (1408 + i) = w (1408 + i)) : Lin ops i x' w' := by
  obtain ⟨wd, a, m, z, h1, h2, h3, h4, h5, h6, h7, h8, h9, h10, h11, h12, h13, h14⟩ := h
  exact ⟨wd, a, m, z, h1, h2, h3, h4, by rw [hw.1]; exact h5, by rw [hw.2.1]; exact h6, by rw [hw.2.2.1]; exact h7, by rw [hw.2.2.2]; exact h8, by rw [hx _ (by decide) (by decide)]; exact h9, by rw [hx _ (by decide) (by decide)]; exact h10, by rw [hx _ (by decide) (by decide)]; exact h11, by rw [hx _ (by decide) (by decide)]; exact h12, h13, h14⟩
theorem LwP_frame {ops : List (Nat × Nat)} {nL : Nat} {f : Nat → Int32} {tx tm tx' tm' : Tau} (h : LwP ops nL f tx tm) (hx : ∀ c j, c ≠ 45 → tx' c j = tx c j) (hm : ∀ c j, c ≠ 9 → tm' c j = tm c j) : LwP ops nL f tx' tm' := by
  obtain ⟨h1, h2, h3, h4, h5, h6, h7, h8, h9, h10, h11, h12⟩ := h
  have em : tm' 1 = tm 1 := funext fun j => hm 1 j (by decide)
  refine ⟨h1, h2, h3, fun i o hi => by rw [em]; exact h4 i o hi, fun j v hj => by rw [hx _ _ (by decide)]; exact h5 j v hj, by rw [hx _ _ (by decide)]; exact h6, h7, by rw [hx _ _ (by decide)]; exact h8, by rw [em]; exact h9, fun i hi => ?_, fun k hk => by rw [hx _ _ (by decide)]; exact h11 k hk, fun k hk => by rw [hm _ _ (by decide)]; exact h12 k hk⟩
  rw [em]
  exact Lin_congr (h10 i hi) (fun c h39 h42 => hx _ _ (by omega)) ⟨rfl, rfl, rfl, rfl⟩
theorem Wd_law {nP nM : Nat} {q : Nat → Nat} {tx tm : Tau} {f : Nat → Int32} (h : Wd nP nM q 1 tx (tm 1)) (h1 : ∀ k, k < 10 → tx 212 k = f k) (h2 : ∀ k, k < 10 → tm 10 (k + 1) = f k) : ∃ ops nL, LwP ops nL f tx tm := by
  obtain ⟨-, -, -, -, ⟨ops, nL, a1, a2, a3, a4, a5, a6, a7, a8, a9, a10⟩, -⟩ := h
  have hw : ∀ k, k = 257 ∨ (1360 ≤ k ∧ k < 2244) → rsL (vM (tm 1)) k = tm 1 k := fun k hk => by rw [rsL_at hk, vM_at (by omega)]
  have hx : ∀ c j, 38 ≤ c → c ≤ 43 → j < lim c → rsX 38 43 (vX 1 tx) c j = tx (1 + c) j := fun c j c1 c2 hj => by rw [rsX_at ⟨c1, c2⟩, vX_at (by omega) hj]
  refine ⟨ops, nL, a1, a2, a3, fun i o hi => ?_, fun j v hj => ?_, ?_, a7, ?_, ?_, fun i hi => ?_, h1, h2⟩
  · have hil := (List.getElem?_eq_some_iff.mp hi).1
    have := a4 i o hi
    rw [hw _ (by omega), hw _ (by omega)] at this
    exact this
  · have hjl := (List.getElem?_eq_some_iff.mp hj).1
    have := a5 j v hj
    rw [hx _ _ (by decide) (by decide) (by show j < 400; omega)] at this
    exact this
  · rw [hx _ _ (by decide) (by decide) (by decide)] at a6; exact a6
  · rw [hx _ _ (by decide) (by decide) (by decide)] at a8; exact a8
  · rw [hw _ (by omega)] at a9; exact a9
  · refine Lin_congr (a10 i hi) (fun c c1 c2 => (hx c i (by omega) (by omega) ?_).symm) ⟨(hw _ (by omega)).symm, (hw _ (by omega)).symm, (hw _ (by omega)).symm, (hw _ (by omega)).symm⟩
    have hc : c = 39 ∨ c = 40 ∨ c = 41 ∨ c = 42 := by omega
    rcases hc with rfl | rfl | rfl | rfl <;> (show i < 16; omega)
theorem lawEnd {F : Nat} {most r : Int32} {τ : Tau} : X11_lawSays_j90 F most r τ = some (imax 0 (imin most r), τ) := by
  unfold X11_lawSays_j90
  rw [X11_lesser_eq, cal_some, X11_greater_eq, cal_some]
theorem tell_eq {F : Nat} {ops : List (Nat × Nat)} {nL wd : Nat} {f : Nat → Int32} (hF : 400 < F) (hwd : wd < 3) (oth most : Int32) : ∀ (n i : Nat), i + n = nL → ∀ (fx fm : Nat), n < fx → n < fm → ∀ (tx tm : Tau), LwP ops nL f tx tm →
    ∃ r tx' tm', X2_tell_L3 F 39 212 fx (nI wd) oth (nI i) tx = some (r, tx') ∧ X11_lawSays_L6 F fm (nI (20 + wd)) most oth (nI i) tm = some (imax 0 (imin most r), tm') ∧ (∀ c j, c ≠ 45 → tx' c j = tx c j) ∧ (∀ c j, c ≠ 9 → tm' c j = tm c j) := by
  intro n
  induction n with
  | zero =>
    intro i hi fx fm hfx hfm tx tm h
    obtain ⟨gx, rfl, -⟩ := fuel hfx
    obtain ⟨gm, rfl, -⟩ := fuel hfm
    obtain ⟨h1, h2, h3, h4, h5, h6, h7, h8, h9, h10, h11, h12⟩ := h
    have : i = nL := by omega
    subst this
    refine ⟨oth, tx, tm, ?_, ?_, fun _ _ _ => rfl, fun _ _ _ => rfl⟩
    · unfold X2_tell_L3
      rw [h8, if_pos (nI_le (Nat.le_refl _) (by omega))]
    · unfold X11_lawSays_L6 X11_lawSays_j49
      rw [ald_lit (by decide) (by decide), h9, if_pos (nI_le (Nat.le_refl _) (by omega)), ald_lit (by decide) (by decide), h9, if_pos (nI_le (Nat.le_refl _) (by omega)), lawEnd]
  | succ n ih =>
    intro i hi fx fm hfx hfm tx tm h
    obtain ⟨gx, rfl, -⟩ := fuel hfx
    obtain ⟨gm, rfl, -⟩ := fuel hfm
    obtain ⟨h1, h2, h3, h4, h5, h6, h7, h8, h9, h10, h11, h12⟩ := id h
    obtain ⟨wd', a, m, z, l1, l2, l3, l4, l5, l6, l7, l8, l9, l10, l11, l12, l13, l14⟩ := h10 i (by omega)
    replace l9 : tx 40 i = nI wd' := l9
    replace l10 : tx 41 i = nI (encs (ops.take a)).length := l10
    replace l11 : tx 42 i = (if m = z then -1 else nI (encs (ops.take m)).length) := l11
    replace l12 : tx 43 i = nI (encs (ops.take z)).length := l12
    have hps : ∀ k, (encs (ops.take k)).length ≤ 400 := by
      intro k
      have e : encs ops = encs (ops.take k) ++ encs (ops.drop k) := by rw [← encs_app, List.take_append_drop]
      rw [e, List.length_append] at h2
      omega
    unfold X2_tell_L3 X11_lawSays_L6 X2_tell_j103 X11_lawSays_j43 X11_isSo X11_lawSays_j49
    rw [h8, if_neg (nI_ge (by omega) (by omega)), if_neg (show ¬ (16 : Int32) ≤ nI i from nI_ge (b := 16) (by omega) (by omega)), ald_lit (by decide) (by decide), h9, if_neg (nI_ge (by omega) (by omega))]
    have a16 : ∀ (t : Tau) (c : Nat) (k : Int32 → Option (Int32 × Tau)), ald t c 16 (nI i) k = k (t c i) := fun t c k => ald_nI (by omega) (by omega)
    have a0 : ∀ (t : Tau) (k : Int32 → Option (Int32 × Tau)), ald t 1 2244 257 k = k (t 1 257) := fun t k => ald_nI (by decide) (by decide)
    have a1 : ∀ (t : Tau) (k : Int32 → Option (Int32 × Tau)), ald t 1 2244 (nI (1360 + i)) k = k (t 1 (1360 + i)) := fun t k => ald_nI (by omega) (by omega)
    have a2 : ∀ (t : Tau) (k : Int32 → Option (Int32 × Tau)), ald t 1 2244 (nI (1376 + i)) k = k (t 1 (1376 + i)) := fun t k => ald_nI (by omega) (by omega)
    have a3 : ∀ (t : Tau) (k : Int32 → Option (Int32 × Tau)), ald t 1 2244 (nI (1392 + i)) k = k (t 1 (1392 + i)) := fun t k => ald_nI (by omega) (by omega)
    have a4 : ∀ (t : Tau) (k : Int32 → Option (Int32 × Tau)), ald t 1 2244 (nI (1408 + i)) k = k (t 1 (1408 + i)) := fun t k => ald_nI (by omega) (by omega)
    have b1 : (1360 : Int32) + nI i = nI (1360 + i) := litA
    have b2 : (1376 : Int32) + nI i = nI (1376 + i) := litA
    have b3 : (1392 : Int32) + nI i = nI (1392 + i) := litA
    have b4 : (1408 : Int32) + nI i = nI (1408 + i) := litA
    simp only [a16, b1, b2, b3, b4, a0, a1, a2, a3, a4, Nat.reduceAdd, lawEnd]
    rw [l9, l8]
    by_cases hw : wd' = wd
    · subst hw
      rw [if_pos rfl, if_pos rfl, l11, l7, l6]
      by_cases hmz : m = z
      · subst hmz
        rw [if_pos rfl, if_pos rfl, if_pos rfl, cal_some, if_neg (by decide), h9, if_neg (nI_ge (by omega) (by omega)), l10, l12, l5, l6]
        obtain ⟨v, tx', e1, e2, e3⟩ := X_run (F := F) (t0 := 39) (f := f) (τ := tx) hF (by decide) h3 h2 l2 l4 l13 h5 h6 h11
        obtain ⟨v', tm', g1, -, g2, g3⟩ := M_run (F := F) (f := f) (τ := tm) hF h3 h1 l2 l4 l13 h4 h12
        have hvv : v' = v := by rw [e1] at g1; exact (List.cons.inj g1).1.symm
        subst hvv
        rw [e2, cal_some, g2, cal_some]
        exact ⟨v', tx', tm', rfl, rfl, e3, g3⟩
      · have hmz2 : m < z := by omega
        rw [if_neg hmz, if_neg (fun e => (nI_m1 (show (encs (ops.take m)).length < 2 ^ 31 by have := hps m; omega)).mp e), l12, if_neg (fun e => hmz ((nI_inj (by omega) (by omega) e).symm))]
        obtain ⟨v, tx1, e1, e2, e3⟩ := X_run (F := F) (t0 := 39) (f := f) (τ := tx) hF (by decide) h3 h2 l3 l4 (l14 hmz2) h5 h6 h11
        obtain ⟨v', tm1, g1, gb, g2, g3⟩ := M_run (F := F) (f := f) (τ := tm) hF h3 h1 l3 l4 (l14 hmz2) h4 h12
        have hvv : v' = v := by rw [e1] at g1; exact (List.cons.inj g1).1.symm
        subst hvv
        have hLP1 := LwP_frame h e3 g3
        obtain ⟨-, -, -, k4, k5, k6, -, k8, k9, k10, k11, k12⟩ := id hLP1
        rw [e2, cal_some, g2, cal_some]
        rcases gb rfl with rfl | rfl
        · rw [if_pos rfl, if_neg (by decide), cal_some, if_pos rfl, litA']
          obtain ⟨r, tx', tm', q1, q2, q3, q4⟩ := ih (i + 1) (by omega) gx gm (by omega) (by omega) tx1 tm1 hLP1
          exact ⟨r, tx', tm', q1, q2, fun c j hc => by rw [q3 c j hc, e3 c j hc], fun c j hc => by rw [q4 c j hc, g3 c j hc]⟩
        · rw [if_neg (by decide), if_pos rfl, cal_some, if_neg (by decide), k9, if_neg (nI_ge (by omega) (by omega)), e3 41 i (by decide), e3 42 i (by decide), l10, l11, if_neg hmz, g3 1 _ (by decide), g3 1 _ (by decide), l5, l6]
          obtain ⟨u, tx2, p1, p2, p3⟩ := X_run (F := F) (t0 := 39) (f := f) (τ := tx1) hF (by decide) h3 h2 l2 (by omega) l13 k5 k6 k11
          obtain ⟨u', tm2, r1, -, r2, r3⟩ := M_run (F := F) (f := f) (τ := tm1) hF h3 h1 l2 (by omega) l13 k4 k12
          have huu : u' = u := by rw [p1] at r1; exact (List.cons.inj r1).1.symm
          subst huu
          rw [p2, cal_some, r2, cal_some]
          exact ⟨u', tx2, tm2, rfl, rfl, fun c j hc => by rw [p3 c j hc, e3 c j hc], fun c j hc => by rw [r3 c j hc, g3 c j hc]⟩
    · rw [if_neg (fun e => hw (nI_inj (by omega) (by omega) e)), if_neg (fun e => hw (by have := nI_inj (by omega) (by omega) e; omega)), litA']
      exact ih (i + 1) (by omega) gx gm (by omega) (by omega) tx tm h
