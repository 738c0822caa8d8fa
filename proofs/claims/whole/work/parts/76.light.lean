/-! PURE PART. Step: lightest -/
def fo (o : Option Nat) : Int32 := match o with
  | none => 100000000
  | some v => nI v
theorem light_in {F T nP nM p i : Nat} {q : Nat → Nat} {tx tm : Tau} {all : Int32} {self : Int32 → Int32 → Int32 → Tau → Option (Int32 × Tau)} (h : Pc T nP nM q tx tm) (hp : p < 10) (hi : i < q p) :
    ∀ (m t fx fm : Nat) (o : Option Nat), t + m = 12 → m < fx → m < fm → (∀ v, o = some v → v ≤ 99) → ∃ o' : Option Nat, (∀ v, o' = some v → v ≤ 99) ∧ X4_leastWeight_L22 F self fx (nI p) all (nI i) (vo o) (nI t) tx = o'.elim (some (-1, tx)) (fun v => self (nI p) (all + nI v) (nI (i + 1)) tx) ∧ X11_lightestSaying_L7 F fm (nI p) (tm 1 (446 + 7 * p + i)) (fo o) (nI t) tm = some (fo o', tm) := by
  obtain ⟨w1, w2, w3, w4⟩ := h.want hp
  intro m
  induction m with
  | zero =>
    intro t fx fm o ht hfx hfm hb
    obtain ⟨gx, rfl, -⟩ := fuel hfx
    obtain ⟨gm, rfl, -⟩ := fuel hfm
    have : t = 12 := by omega
    subst this
    refine ⟨o, hb, ?_, ?_⟩
    · unfold X4_leastWeight_L22
      rw [if_pos (show (12 : Int32) ≤ nI 12 by decide)]
      cases o with
      | none => exact if_pos rfl
      | some v => exact (if_neg (fun z => (nI_m1 (by have := hb v rfl; omega)).mp z)).trans (by rw [litA']; rfl)
    · unfold X11_lightestSaying_L7
      rw [if_pos (show (12 : Int32) ≤ nI 12 by decide)]
  | succ m ih =>
    intro t fx fm o ht hfx hfm hb
    obtain ⟨gx, rfl, -⟩ := fuel hfx
    obtain ⟨gm, rfl, -⟩ := fuel hfm
    have hn : ¬ (12 : Int32) ≤ nI t := by rw [lit_le' (by decide) (by omega)]; omega
    obtain ⟨v, v99, hv, hvm⟩ := h.weights t (by omega)
    have l5 : (524 : Int32) + nI t = nI (524 + t) := litA
    have x34 : ∀ k : Int32 → Option (Int32 × Tau), ald tx 34 12 (nI t) k = k (tx 34 t) := fun k => ald_nI (by omega) (by omega)
    unfold X4_leastWeight_L22 X11_lightestSaying_L7 X4_leastWeight_j56 X4_leastWeight_j84 X4_leastWeight_j96 X11_lightestSaying_j41
    rw [if_neg hn, if_neg hn, X9_saysTo_in hp (by omega), cal_some, X9_wantAt_in hp w2 w1 hi, cal_some, meaning_in hp (by omega), cal_some, h.says (by omega), litA']
    have hw := w4 i hi
    by_cases e : tx 48 (12 * p + t) = tx 50 (6 * p + i)
    · rw [if_pos e, if_pos (e.trans hw.symm), if_neg n10, x34, x34, hv, l5, ald_nI (by omega) (by omega), hvm, X11_lesser_eq, cal_some]
      cases o with
      | none =>
        rw [if_pos (show vo none = -1 from rfl), show imin (fo none) (nI v) = fo (some v) from by
          show imin (nI 100000000) (nI v) = nI v
          rw [nI_imin (by decide) (by omega), Nat.min_eq_right (by omega)]]
        exact ih (t + 1) gx gm (some v) (by omega) (by omega) (by omega) (fun u hu => by cases hu; exact v99)
      | some u =>
        have u99 := hb u rfl
        have hne : ¬ vo (some u) = -1 := fun z => (nI_m1 (show u < 2 ^ 31 by omega)).mp z
        rw [if_neg hne, show imin (fo (some u)) (nI v) = fo (some (min u v)) from nI_imin (by omega) (by omega)]
        by_cases g : u ≤ v
        · rw [if_pos (show vo (some u) ≤ nI v from nI_le g (by omega)), Nat.min_eq_left g]
          exact ih (t + 1) gx gm (some u) (by omega) (by omega) (by omega) hb
        · rw [if_neg (show ¬ vo (some u) ≤ nI v from nI_ge (by omega) (by omega)), Nat.min_eq_right (by omega)]
          exact ih (t + 1) gx gm (some v) (by omega) (by omega) (by omega) (fun u hu => by cases hu; exact v99)
    · rw [if_neg e, if_pos rfl, if_neg (fun z => e (z.trans hw))]
      exact ih (t + 1) gx gm o (by omega) (by omega) (by omega) hb
theorem light_M {F T nP nM p : Nat} {q : Nat → Nat} {tx tm : Tau} (hF : 5000 ≤ F) (h : Pc T nP nM q tx tm) (hp : p < 10) {i g : Nat} (hi : i < q p) {a2 sum : Int32} {l : Int64} {o' : Option Nat} {r : Int32} (ho : X11_lightestSaying F (nI p) (tm 1 (446 + 7 * p + i)) tm = some (fo o', tm)) (hr : X11_sayingSo F (nI p) (tm 1 (446 + 7 * p + i)) tm = some (r, tm)) :
    X11_lightest_L27 F (g + 1) (nI p) a2 sum l (nI i) tm = X11_lightest_L27 F g (nI p) a2 (imin 100000000 (sum + fo o')) (lrmd (l * r.toInt64) (1000000007 : Int64)) (nI (i + 1)) tm := by
  obtain ⟨w1, w2, w3, w4⟩ := h.want hp
  conv => lhs; unfold X11_lightest_L27
  rw [litM, litA, ald_nI (by omega) (by omega), w3, if_neg (nI_ge hi (by omega)), litA', nI_add, ald_nI (by omega) (by omega), show 445 + 7 * p + 1 + i = 446 + 7 * p + i by omega, ho, cal_some, X11_lesser_eq, cal_some, hr, cal_some, litA']
theorem light_end {F T nP nM p : Nat} {q : Nat → Nat} {tx tm : Tau} (h : Pc T nP nM q tx tm) (hp : p < 10) {g : Nat} {a2 sum : Int32} {l : Int64} : X11_lightest_L27 F (g + 1) (nI p) a2 sum l (nI (q p)) tm = (if a2 = 1 then some (l.toInt32, tm) else if sum < 100000000 then some (sum, tm) else some (-1, tm)) := by
  obtain ⟨w1, w2, w3, w4⟩ := h.want hp
  conv => lhs; unfold X11_lightest_L27
  rw [litM, litA, ald_nI (by omega) (by omega), w3, if_pos (nI_le (Nat.le_refl _) (by omega))]
theorem imin_FAR {a : Nat} (h : a ≤ 1000000000) : imin (100000000 : Int32) (nI a) = nI (min 100000000 a) := nI_imin (a := 100000000) (by decide) (by omega)
theorem light_bad {F T nP nM p : Nat} {q : Nat → Nat} {tx tm : Tau} (hF : 5000 ≤ F) (h : Pc T nP nM q tx tm) (hp : p < 10) : ∀ (m i fm : Nat) (l : Int64), i + m = q p → m < fm → X11_lightest_L27 F fm (nI p) 0 100000000 l (nI i) tm = some (-1, tm) := by
  intro m
  induction m with
  | zero =>
    intro i fm l hi hfm
    obtain ⟨gm, rfl, -⟩ := fuel hfm
    have : i = q p := by omega
    subst this
    rw [light_end h hp, if_neg (by decide), if_neg (by decide)]
  | succ m ih =>
    intro i fm l hi hfm
    obtain ⟨gm, rfl, -⟩ := fuel hfm
    obtain ⟨o', ob, -, r2⟩ := light_in (F := F) (i := i) (all := 0) (self := fun _ _ _ τ => some (0, τ)) h hp (by omega) 12 0 F F none (by decide) (by omega) (by omega) (fun v hv => by cases hv)
    obtain ⟨r, -, r3⟩ := thingsSay (F := F) (v := tm 1 (446 + 7 * p + i)) hF h hp
    rw [light_M hF h hp (by omega) r2 r3]
    have e : imin (100000000 : Int32) (100000000 + fo o') = 100000000 := by
      cases o' with
      | none => decide
      | some v =>
        have := ob v rfl
        show imin (nI 100000000) (nI 100000000 + nI v) = nI 100000000
        rw [nI_add, nI_imin (by decide) (by omega), Nat.min_eq_left (by omega)]
    rw [e]
    exact ih (i + 1) gm _ (by omega) (by omega)
theorem light_sum {F T nP nM p : Nat} {q : Nat → Nat} {tx tm : Tau} (hF : 5000 ≤ F) (h : Pc T nP nM q tx tm) (hp : p < 10) : ∀ (m i fx fm a : Nat) (l : Int64), i + m = q p → m < fx → m < fm → a ≤ 99 * i → ∃ r, X4_leastWeight_L4 F fx (nI p) (nI a) (nI i) tx = some (r, tx) ∧ X11_lightest_L27 F fm (nI p) 0 (nI a) l (nI i) tm = some (r, tm) := by
  obtain ⟨w1, w2, w3, w4⟩ := h.want hp
  intro m
  induction m with
  | zero =>
    intro i fx fm a l hi hfx hfm ha
    obtain ⟨gx, rfl, -⟩ := fuel hfx
    obtain ⟨gm, rfl, -⟩ := fuel hfm
    have : i = q p := by omega
    subst this
    rw [light_end h hp, if_neg (by decide), if_pos (by rw [lit_lt (by decide) (by omega)]; omega)]
    unfold X4_leastWeight_L4
    rw [X9_wantedBy_in hp, cal_some, w2, if_pos (nI_le (Nat.le_refl _) (by omega))]
    exact ⟨nI a, rfl, rfl⟩
  | succ m ih =>
    intro i fx fm a l hi hfx hfm ha
    obtain ⟨gx, rfl, -⟩ := fuel hfx
    obtain ⟨gm, rfl, -⟩ := fuel hfm
    obtain ⟨o', ob, r1, r2⟩ := light_in (F := F) (i := i) (all := nI a) (self := X4_leastWeight_L4 F gx) h hp (by omega) 12 0 F F none (by decide) (by omega) (by omega) (fun v hv => by cases hv)
    obtain ⟨r, -, r3⟩ := thingsSay (F := F) (v := tm 1 (446 + 7 * p + i)) hF h hp
    have hX : X4_leastWeight_L4 F (gx + 1) (nI p) (nI a) (nI i) tx = o'.elim (some (-1, tx)) (fun v => X4_leastWeight_L4 F gx (nI p) (nI a + nI v) (nI (i + 1)) tx) := by
      rw [← r1]
      conv => lhs; unfold X4_leastWeight_L4
      rw [X9_wantedBy_in hp, cal_some, w2, if_neg (nI_ge (by omega) (by omega))]
      rfl
    rw [hX, light_M hF h hp (by omega) r2 r3]
    cases o' with
    | none =>
      have e : imin (100000000 : Int32) (nI a + fo none) = 100000000 := by
        show imin (nI 100000000) (nI a + nI 100000000) = nI 100000000
        rw [nI_add, nI_imin (by decide) (by omega), Nat.min_eq_left (by omega)]
      rw [e, light_bad hF h hp m (i + 1) gm _ (by omega) (by omega)]
      exact ⟨-1, rfl, rfl⟩
    | some v =>
      have := ob v rfl
      have e : imin (100000000 : Int32) (nI a + fo (some v)) = nI (a + v) := by
        show imin (nI 100000000) (nI a + nI v) = nI (a + v)
        rw [nI_add, nI_imin (by decide) (by omega), Nat.min_eq_right (by omega)]
      rw [e]
      simp only [nI_add, Option.elim]
      exact ih (i + 1) gx gm (a + v) _ (by omega) (by omega) (by omega) (by omega)
theorem light_rows {F T nP nM p : Nat} {q : Nat → Nat} {tx tm : Tau} (hF : 5000 ≤ F) (h : Pc T nP nM q tx tm) (hp : p < 10) : ∀ (m i fx fm : Nat) (sum : Int32) (l : Int64), i + m = q p → m < fx → m < fm → ∃ r, X4_rowsOfWants_L5 F fx (nI p) l (nI i) tx = some (r, tx) ∧ X11_lightest_L27 F fm (nI p) 1 sum l (nI i) tm = some (r, tm) := by
  obtain ⟨w1, w2, w3, w4⟩ := h.want hp
  intro m
  induction m with
  | zero =>
    intro i fx fm sum l hi hfx hfm
    obtain ⟨gx, rfl, -⟩ := fuel hfx
    obtain ⟨gm, rfl, -⟩ := fuel hfm
    have : i = q p := by omega
    subst this
    rw [light_end h hp, if_pos rfl]
    unfold X4_rowsOfWants_L5
    rw [X9_wantedBy_in hp, cal_some, w2, if_pos (nI_le (Nat.le_refl _) (by omega))]
    exact ⟨_, rfl, rfl⟩
  | succ m ih =>
    intro i fx fm sum l hi hfx hfm
    obtain ⟨gx, rfl, -⟩ := fuel hfx
    obtain ⟨gm, rfl, -⟩ := fuel hfm
    obtain ⟨o', ob, -, r2⟩ := light_in (F := F) (i := i) (all := 0) (self := fun _ _ _ τ => some (0, τ)) h hp (by omega) 12 0 F F none (by decide) (by omega) (by omega) (fun v hv => by cases hv)
    obtain ⟨r, r1, r3⟩ := thingsSay (F := F) (v := tm 1 (446 + 7 * p + i)) hF h hp
    rw [light_M hF h hp (by omega) r2 r3]
    unfold X4_rowsOfWants_L5
    rw [w4 i (by omega)] at r1
    rw [X9_wantedBy_in hp, cal_some, w2, if_neg (nI_ge (by omega) (by omega)), X9_wantAt_in hp w2 w1 (by omega), cal_some, r1, cal_some, litA']
    exact ih (i + 1) gx gm _ _ (by omega) (by omega) (by omega)
theorem step18 (F : Nat) (hF : 5000 ≤ F) : Step18 F Rl := by
  intro n tx tm a1 a2 _ h
  obtain ⟨nP, nM, q, hP⟩ := h.pc
  obtain ⟨p0, p1, p10⟩ := hP.pw
  unfold X10_lightest X11_lightest
  rw [X8_hasPower_eq p0 p10, X11_isPower_eq p1 p10, cal_some, cal_some]
  by_cases p : (0 : Int32) ≤ a1 ∧ a1 < nI nP
  · obtain ⟨j, hj, rfl⟩ := has_ex p (by omega)
    have hw := (hP.want (show j < 10 by omega)).1
    rw [bI_t p, if_neg n10, if_neg n10, X11_isIn_eq, cal_some]
    by_cases c0 : a2 = 0
    · subst c0
      obtain ⟨r, e1, e2⟩ := light_sum (F := F) hF hP (show j < 10 by omega) (q j) 0 F F 0 1 (by omega) (by omega) (by omega) (by decide)
      unfold X4_leastWeight
      rw [if_pos rfl, show X4_leastWeight_L4 F F (nI j) 0 0 tx = some (r, tx) from e1, cal_some, bI_t (by decide), if_neg n10, show X11_lightest_L27 F F (nI j) 0 0 1 0 tm = some (r, tm) from e2]
      exact ⟨r, tx, tm, rfl, rfl, Rl_mono n tx tm h⟩
    · rw [if_neg c0]
      by_cases c1 : a2 = 1
      · subst c1
        obtain ⟨r, e1, e2⟩ := light_rows (F := F) hF hP (show j < 10 by omega) (q j) 0 F F 0 1 (by omega) (by omega) (by omega)
        unfold X4_rowsOfWants
        rw [if_pos rfl, show X4_rowsOfWants_L5 F F (nI j) 1 0 tx = some (r, tx) from e1, cal_some, bI_t (by decide), if_neg n10, show X11_lightest_L27 F F (nI j) 1 0 1 0 tm = some (r, tm) from e2]
        exact ⟨r, tx, tm, rfl, rfl, Rl_mono n tx tm h⟩
      · rw [if_neg c1, bI_f, if_pos rfl]
        · exact ⟨-1, tx, tm, rfl, rfl, Rl_mono n tx tm h⟩
        · intro z
          obtain ⟨j, j1, j2, rfl⟩ := in_ex (lo := 0) (hi := 1) z (by decide) (by decide)
          have : j = 0 ∨ j = 1 := by omega
          rcases this with rfl | rfl
          · exact c0 rfl
          · exact c1 rfl
  · rw [bI_f p, if_pos rfl, if_pos rfl]
    exact ⟨-1, tx, tm, rfl, rfl, Rl_mono n tx tm h⟩
