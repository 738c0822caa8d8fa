/-! PURE PART. A turn, THE COURT, a day, in both -/
section Da
variable {t T nP nM : Nat} {rl bk : Bool} {q : Nat → Nat} {tx0 tm0 tx tm tx' tm' : Tau} {F m : Nat}
theorem o_turn (hF : 400 < F) (h : St t rl true T nP nM q tx0 tm0 tx tm) (hT : T < 2 ^ 30) (hm : m < nM) {p : Nat} (hp : p < nP) (hat : tx (t + 8) m = nI p) :
    ∃ v tx' tm', (v = 0 ∨ v = 1) ∧ X0_takeTurn F t (nI m) (bR rl) tx = some (0, tx') ∧ X11_turnOf F (nI m) tm = some (v, tm') ∧ St t rl true (T + 1) nP nM q tx0 tm0 tx' tm' ∧ smN (tx' (t + 3)) = smN (tx (t + 3)) + v ∧ Mo t tx tx' := by
  obtain ⟨hP, hM⟩ := h.lt
  have ht := h.tt
  have hpm := h.R.at_ (show m < 14 by omega)
  rw [hat] at hpm
  obtain ⟨r, tx1, tm1, a1, a2, a3, a4⟩ := ask_cries hF h hm
  have h1 := h.scr a3 a4
  obtain ⟨v, tx2, tm2, v01, b1, b2, h2, b3⟩ := o_falls (F := F) h1 r
  have e1 : ∀ o j, 1 ≤ o → o ≤ 12 → tx2 (t + o) j = tx (t + o) j := fun o j o1 o2 => by rw [b3 _ _ (by omega), a3 _ _ (by omega) (by omega)]
  have hn0 : ∀ g : Nat → Int32, (∀ j, g j = tx2 (t + 3) j) → smN g = smN (tx (t + 3)) + 0 := fun g hg => by
    have : g = tx (t + 3) := funext fun j => by rw [hg j, e1 3 j (by decide) (by decide)]
    rw [this, Int32.add_zero]
  have m0 : Mo t tx tx2 := Mo.of fun j => e1 4 j (by decide) (by decide)
  have hat2 : tx2 (t + 8) m = nI p := by rw [e1 8 m (by decide) (by decide)]; exact hat
  unfold X0_takeTurn X11_turnOf
  rw [a1, cal_some, b1, cal_some, litA, ald_nI (τ := tm) (by omega) (by omega), hpm, if_neg (fun z => (nI_m1 (by omega)).mp z), a2, cal_some, b2, cal_some]
  rcases v01 with rfl | rfl
  · rw [if_pos rfl, if_pos rfl]
    obtain ⟨c, c8, hc⟩ := h2.carv hm
    obtain ⟨s, s8, hs⟩ := h2.shov hm
    have hcm := h2.R.many (show m < 14 by omega)
    have hsm := h2.R.shown (show m < 14 by omega)
    rw [hc] at hcm
    rw [hs] at hsm
    rw [X8_nextThing_in h2.xM hm hM hc c8 hs s8, cal_some, X11_nextThing_in (by omega) hcm c8 hsm s8, cal_some]
    by_cases hsc : s < c
    · rw [if_pos hsc, if_pos hsc]
      obtain ⟨a, ha, hth⟩ := h2.thiv (show 8 * m + s < 112 by omega)
      have hthm := h2.R.thing (show 8 * m + s < 112 by omega)
      rw [hthm, hth, if_neg (fun z => (nI_m1 (by omega)).mp z), if_neg (fun z => (nI_m1 (by omega)).mp z)]
      obtain ⟨v, tx3, tm3, w01, d1, d2, h3, d3, d4⟩ := o_nod hF h2 hT hm hp hat2 hc c8 hs hsc hth ha
      have e3 : tx2 (t + 3) = tx (t + 3) := funext fun j => e1 3 j (by decide) (by decide)
      rw [d1, cal_some, d2, cal_some]
      rw [e3] at d3
      rcases w01 with rfl | rfl
      · exact ⟨0, tx3, tm3, .inl rfl, rfl, rfl, h3, d3, m0.trans d4⟩
      · exact ⟨1, tx3, tm3, .inr rfl, rfl, rfl, h3, d3, m0.trans d4⟩
    · rw [if_neg hsc, if_neg hsc, if_pos rfl, if_pos rfl]
      obtain ⟨tx3, tm3, d1, d2, h3, d3⟩ := o_home (F := F) h2 hm
      rw [d1, cal_some, d2, cal_some]
      exact ⟨0, tx3, tm3, .inl rfl, rfl, rfl, h3.mono (by omega), hn0 _ (fun j => d3 3 j (.inl rfl)), m0.trans (Mo.of fun j => d3 4 j (.inr rfl))⟩
  · rw [if_neg (by decide), if_neg (by decide)]
    obtain ⟨tx3, tm3, d1, d2, h3, d3⟩ := o_cry (F := F) h2 hm hp hat2
    rw [d1, cal_some, d2, cal_some]
    exact ⟨0, tx3, tm3, .inl rfl, rfl, rfl, h3.mono (by omega), hn0 _ (fun j => d3 3 j (.inl rfl)), m0.trans (Mo.of fun j => d3 4 j (.inr rfl))⟩
theorem X9_courtAt_in {i j : Nat} {τ : Tau} (h : 4 * i + j < 64) (w : Int32) (hw : w = nI j) : X9_courtAt F 1 (nI i) w τ = some (τ 49 (4 * i + j), τ) := by
  unfold X9_courtAt
  rw [hw, litM, nI_add, X10_entry_in (N := 64) rfl h (by decide), cal_some]
theorem St.cou (h : St t rl bk T nP nM q tx0 tm0 tx tm) : ∃ c, c ≤ 16 ∧ tx 47 2 = nI c ∧ tm 1 259 = nI c ∧ ∀ i, i < c → Cou nP nM i (shX 1 tx) (tm 1) := by
  obtain ⟨c, c1, c2, c3, c4⟩ := h.W.2.2.1
  rw [rsX_at (by omega), vX_at (by omega) (by decide)] at c2
  rw [rsM_at (by omega), vM_at (by omega)] at c3
  refine ⟨c, c1, c2, c3, fun i hi => ?_⟩
  have hx : ∀ j, j < 4 → rsX 46 48 (vX 1 tx) 48 (4 * i + j) = shX 1 tx 48 (4 * i + j) := fun j hj => by rw [rsX_at (by omega), vX_at (by omega) (by show _ < 64; omega)]; rfl
  have hw : ∀ j, j < 4 → rsM 259 445 (vM (tm 1)) (381 + 4 * i + j) = tm 1 (381 + 4 * i + j) := fun j hj => by rw [rsM_at (by omega), vM_at (by omega)]
  have := c4 i hi
  unfold Cou at this ⊢
  rw [show rsX 46 48 (vX 1 tx) 48 (4 * i) = shX 1 tx 48 (4 * i) from hx 0 (by decide), show rsM 259 445 (vM (tm 1)) (381 + 4 * i) = tm 1 (381 + 4 * i) from hw 0 (by decide), hx 1 (by decide), hx 2 (by decide), hx 3 (by decide), hw 1 (by decide), hw 2 (by decide), hw 3 (by decide)] at this
  exact this
/-- one line of THE COURT whose day it is -/
theorem o_line (h : St t rl true T nP nM q tx0 tm0 tx tm) {i : Nat} (hi : i < 16) (hc : Cou nP nM i (shX 1 tx) (tm 1)) (k : Tau → Option (Int32 × Tau)) : ∃ tx' tm', X0_follow F t (nI i) (bR rl) tx = some (0, tx') ∧
    (ald tm 1 2244 (nI (381 + 4 * i) + 1) fun v4 => if v4 = 11 then (ald tm 1 2244 (nI (381 + 4 * i) + 2) fun v5 => ald tm 1 2244 (nI (381 + 4 * i) + 3) fun v6 => cal (X11_sends F v5 v6 tm) fun _ τ8 => k τ8) else if v4 = 12 then (ald tm 1 2244 (nI (381 + 4 * i) + 2) fun v9 => cal (X11_calls F v9 tm) fun _ τ11 => k τ11)
      else if v4 = 13 then (ald tm 1 2244 (nI (381 + 4 * i) + 2) fun v12 => ald tm 1 2244 (nI (381 + 4 * i) + 2) fun v13 => ald tm 1 2244 (5 + v13) fun v14 => ald tm 1 2244 (nI (381 + 4 * i) + 3) fun v15 => cal (X11_lesser F 99 (v14 + v15) tm) fun r16 τ17 => ast τ17 1 2244 (5 + v12) r16 fun τ18 => k τ18)
      else (ald tm 1 2244 (nI (381 + 4 * i) + 2) fun v19 => ald tm 1 2244 (nI (381 + 4 * i) + 3) fun v20 => ast tm 1 2244 (59 + v19) v20 fun τ21 => k τ21)) = k tm' ∧
    St t rl true T nP nM q tx0 tm0 tx' tm' ∧ (∀ o j, o = 3 ∨ o = 4 → tx' (t + o) j = tx (t + o) j) := by
  obtain ⟨hP, hM⟩ := h.lt
  have ht := h.tt
  obtain ⟨n1, n2, n3, n4, n5, n6, n7, n8, n9, n10, n11, n12⟩ := lnT ht
  obtain ⟨-, hc⟩ := hc
  have a1 : ∀ k : Int32 → Option (Int32 × Tau), ald tm 1 2244 (nI (381 + 4 * i) + 1) k = k (tm 1 (381 + 4 * i + 1)) := fun k => by rw [litA', ald_nI (by omega) (by omega)]
  have a2 : ∀ k : Int32 → Option (Int32 × Tau), ald tm 1 2244 (nI (381 + 4 * i) + 2) k = k (tm 1 (381 + 4 * i + 2)) := fun k => by rw [litA', ald_nI (by omega) (by omega)]
  have a3 : ∀ k : Int32 → Option (Int32 × Tau), ald tm 1 2244 (nI (381 + 4 * i) + 3) k = k (tm 1 (381 + 4 * i + 3)) := fun k => by rw [litA', ald_nI (by omega) (by omega)]
  simp only [a1, a2, a3]
  have hX : X0_follow F t (nI i) (bR rl) tx = (if tx 49 (4 * i + 1) = 1 then (cal (X0_sendTo F t (tx 49 (4 * i + 2)) (tx 49 (4 * i + 3)) (bR rl) tx) fun _ τ8 => some (0, τ8)) else if tx 49 (4 * i + 1) = 2 then (cal (X0_goHome F t (tx 49 (4 * i + 2)) (bR rl) tx) fun _ τ10 => some (0, τ10)) else if tx 49 (4 * i + 1) = 3 then (cal (X0_addTrust F t (tx 49 (4 * i + 2)) (tx 49 (4 * i + 3)) tx) fun _ τ12 => some (0, τ12)) else if tx 49 (4 * i + 1) = 4 then (cal (X10_put F (t + 6) (tx 49 (4 * i + 2)) (tx 49 (4 * i + 3)) 1 tx) fun _ τ14 => some (0, τ14)) else some (0, tx)) := by
    unfold X0_follow
    rw [X9_courtAt_in (i := i) (j := 2) (by omega) 2 rfl, cal_some, X9_courtAt_in (i := i) (j := 3) (by omega) 3 rfl, cal_some, X9_courtAt_in (i := i) (j := 1) (by omega) 1 rfl, cal_some]
  rw [hX]
  rcases hc with ⟨m, p, hm, hp, x1, w1, x2, w2, x3, w3⟩ | ⟨m, hm, x1, w1, x2, w2⟩ | ⟨p, hp, x1, w1, x2, w2, x3⟩ | ⟨m, hm, x1, w1, x2, w2, x3⟩
  · replace x1 : tx 49 (4 * i + 1) = 1 := x1
    replace x2 : tx 49 (4 * i + 2) = nI m := x2
    replace x3 : tx 49 (4 * i + 3) = nI p := x3
    obtain ⟨tx', tm', e1, e2, e3, e4⟩ := o_send (F := F) h hm hp
    rw [x1, w1, if_pos rfl, if_pos rfl, x2, x3, w2, w3, e1, e2, cal_some, cal_some]
    exact ⟨tx', tm', rfl, rfl, e3, e4⟩
  · replace x1 : tx 49 (4 * i + 1) = 2 := x1
    replace x2 : tx 49 (4 * i + 2) = nI m := x2
    obtain ⟨tx', tm', e1, e2, e3, e4⟩ := o_home (F := F) h hm
    rw [x1, w1, if_neg (by decide), if_pos rfl, if_neg (by decide), if_pos rfl, x2, w2, e1, e2, cal_some, cal_some]
    exact ⟨tx', tm', rfl, rfl, e3, e4⟩
  · replace x1 : tx 49 (4 * i + 1) = 3 := x1
    replace x2 : tx 49 (4 * i + 2) = nI p := x2
    replace x3 : tx 49 (4 * i + 3) = tm 1 (381 + 4 * i + 3) := x3
    rw [x1, w1, if_neg (by decide), if_neg (by decide), if_pos rfl, if_neg (by decide), if_neg (by decide), if_pos rfl, x2, x3, w2]
    unfold X0_addTrust
    rw [X8_hasPower_in h.xP hp hP, cal_some, if_neg (by decide), ald_nI (τ := tx) (by omega) (by omega), ast_nI (τ := tx) (by omega) (by omega), cal_some]
    rw [litA, ald_nI (by omega) (by omega), X11_lesser_eq, cal_some, ast_nI (by omega) (by omega), h.R.trust (show p < 10 by omega)]
    have h1 := h.chg (v := imin 99 (tx (t + 1) p + tm 1 (381 + 4 * i + 3))) (show 5 + p < 255 ∧ 5 + p ≠ 4 by omega) (sl_5 p (by omega)) (Val_upd h.V hP hM _ _)
    exact ⟨_, _, rfl, rfl, h1, fun o j ho => up_nc (by omega)⟩
  · replace x1 : tx 49 (4 * i + 1) = 4 := x1
    replace x2 : tx 49 (4 * i + 2) = nI m := x2
    replace x3 : tx 49 (4 * i + 3) = tm 1 (381 + 4 * i + 3) := x3
    rw [x1, w1, if_neg (by decide), if_neg (by decide), if_neg (by decide), if_pos rfl, if_neg (by decide), if_neg (by decide), if_neg (by decide), x2, x3, w2, X10_put_in n6 (show m < 14 by omega) (by decide), cal_some, litA, ast_nI (by omega) (by omega)]
    have h1 := h.chg (v := tm 1 (381 + 4 * i + 3)) (show 59 + m < 255 ∧ 59 + m ≠ 4 by omega) (sl_59 m (by omega)) (Val_upd h.V hP hM _ _)
    exact ⟨_, _, rfl, rfl, h1, fun o j ho => up_nc (by omega)⟩
theorem o_court : ∀ (n i fx fm : Nat) (tx tm : Tau) (c : Nat), i + n = c → n < fx → n < fm → St t rl true T nP nM q tx0 tm0 tx tm → c ≤ 16 → tx 47 2 = nI c → ∃ tx' tm', X0_pass_L2 F t fx (bR rl) (nI i) tx = X0_pass_L46 F t F (bR rl) 0 tx' ∧ X11_court_L2 F fm (nI i) tm = some (0, tm') ∧ St t rl true T nP nM q tx0 tm0 tx' tm' ∧ (∀ o j, o = 3 ∨ o = 4 → tx' (t + o) j = tx (t + o) j) := by
  intro n
  induction n with
  | zero =>
    intro i fx fm tx tm c hi hfx hfm h hc16 hc
    obtain ⟨gx, rfl, -⟩ := fuel hfx
    obtain ⟨gm, rfl, -⟩ := fuel hfm
    obtain ⟨c', c1, c2, c3, c4⟩ := h.cou
    have : c' = c := nI_inj (by omega) (by omega) (c2.symm.trans hc)
    subst this
    have : i = c' := by omega
    subst this
    unfold X0_pass_L2 X11_court_L2
    have l2 : ∀ (σ : Tau) (k : Int32 → Option (Int32 × Tau)), ald σ 47 4 2 k = k (σ 47 2) := fun σ k => ald_nI (j := 2) (by decide) (by decide)
    rw [l2, hc, if_pos (nI_le (Nat.le_refl _) (by omega)), ald_lit (by decide) (by decide), c3, if_pos (nI_le (Nat.le_refl _) (by omega))]
    exact ⟨tx, tm, rfl, rfl, h, fun _ _ _ => rfl⟩
  | succ n ih =>
    intro i fx fm tx tm c hi hfx hfm h hc16 hc
    obtain ⟨gx, rfl, -⟩ := fuel hfx
    obtain ⟨gm, rfl, -⟩ := fuel hfm
    obtain ⟨c', c1, c2, c3, c4⟩ := h.cou
    have : c' = c := nI_inj (by omega) (by omega) (c2.symm.trans hc)
    subst this
    have hCou := c4 i (by omega)
    have l2 : ∀ (σ : Tau) (k : Int32 → Option (Int32 × Tau)), ald σ 47 4 2 k = k (σ 47 2) := fun σ k => ald_nI (j := 2) (by decide) (by decide)
    have m2 : ∀ (σ : Tau) (k : Int32 → Option (Int32 × Tau)), ald σ 1 2244 2 k = k (σ 1 2) := fun σ k => ald_nI (j := 2) (by decide) (by decide)
    have hX : X0_pass_L2 F t (gx + 1) (bR rl) (nI i) tx = (if tx 49 (4 * i) = tx t 4 then (cal (X0_follow F t (nI i) (bR rl) tx) fun _ τ10 => X0_pass_L2 F t gx (bR rl) (nI (i + 1)) τ10) else X0_pass_L2 F t gx (bR rl) (nI (i + 1)) tx) := by
      conv => lhs; unfold X0_pass_L2
      unfold X0_pass_j38
      rw [l2, hc, if_neg (nI_ge (by omega) (by omega)), X9_courtAt_in (i := i) (j := 0) (by omega) 0 rfl, cal_some, litA']
      rfl
    obtain ⟨hd, -⟩ := id hCou
    replace hd : tx 49 (4 * i) = tm 1 (381 + 4 * i) := hd
    by_cases hday : tx 49 (4 * i) = tx t 4
    · rw [hX, if_pos hday]
      obtain ⟨tx1, tm1, e1, e2, h1, e4⟩ := o_line (F := F) h (show i < 16 by omega) hCou (fun τ => X11_court_L2 F gm (nI (i + 1)) τ)
      have hM1 : X11_court_L2 F (gm + 1) (nI i) tm = X11_court_L2 F gm (nI (i + 1)) tm1 := by
        rw [← e2]
        conv => lhs; unfold X11_court_L2
        unfold X11_court_j185
        rw [ald_lit (by decide) (by decide), c3, if_neg (nI_ge (by omega) (by omega)), litM, litA, ald_nI (by omega) (by omega), m2, if_pos (by rw [← hd, hday, h.R.day]), show nI i + 1 = nI (i + 1) from litA']
      have hc1 : tx1 47 2 = nI c' := by
        obtain ⟨c'', d1, d2, d3, d4⟩ := h1.cou
        have f1 := h1.2.2.2.2.2.1 47 2 (by have := h.tt; omega) (by decide) (by decide) (by simp)
        have f0 := h.2.2.2.2.2.1 47 2 (by have := h.tt; omega) (by decide) (by decide) (by simp)
        rw [f1, ← f0]; exact hc
      obtain ⟨tx2, tm2, g1, g2, g3, g4⟩ := ih (i + 1) gx gm tx1 tm1 c' (by omega) (by omega) (by omega) h1 hc16 hc1
      rw [e1, cal_some, g1, hM1, g2]
      exact ⟨tx2, tm2, rfl, rfl, g3, fun o j ho => by rw [g4 o j ho, e4 o j ho]⟩
    · rw [hX, if_neg hday]
      have hM1 : X11_court_L2 F (gm + 1) (nI i) tm = X11_court_L2 F gm (nI (i + 1)) tm := by
        conv => lhs; unfold X11_court_L2
        unfold X11_court_j185
        rw [ald_lit (by decide) (by decide), c3, if_neg (nI_ge (by omega) (by omega)), litM, litA, ald_nI (by omega) (by omega), m2, if_neg (by rw [← hd, h.R.day]; exact hday), litA']
      rw [hM1]
      exact ih (i + 1) gx gm tx tm c' (by omega) (by omega) (by omega) h hc16 hc
theorem o_mutes (hF : 400 < F) : ∀ (n i fx fm T : Nat) (tx tm : Tau) (acc : Int32), i + n = nM → n < fx → n < fm → T + n < 2 ^ 30 → St t rl true T nP nM q tx0 tm0 tx tm → ∃ v tx' tm', X0_pass_L46 F t fx (bR rl) (nI i) tx = some (0, tx') ∧ X11_goesBy_L8 F fm acc (nI i) tm = some (acc + v, tm') ∧ St t rl true (T + n) nP nM q tx0 tm0 tx' tm' ∧ smN (tx' (t + 3)) = smN (tx (t + 3)) + v ∧ Mo t tx tx' := by
  intro n
  induction n with
  | zero =>
    intro i fx fm T tx tm acc hi hfx hfm hT h
    obtain ⟨gx, rfl, -⟩ := fuel hfx
    obtain ⟨gm, rfl, -⟩ := fuel hfm
    obtain ⟨hP, hM⟩ := h.lt
    have ht := h.tt
    have : i = nM := by omega
    subst this
    have m2 : ∀ (σ : Tau) (k : Int32 → Option (Int32 × Tau)), ald σ 1 2244 2 k = k (σ 1 2) := fun σ k => ald_nI (j := 2) (by decide) (by decide)
    have h1 : St t rl true T nP i q tx0 tm0 (up tx t 4 (tx t 4 + 1)) (up tm 1 2 (tx t 4 + 1)) := h.chg (o := 0) (j := 4) (k := 2) (v := tx t 4 + 1) (by decide) (by decide) (Val_upd h.V hP hM _ _)
    unfold X0_pass_L46 X11_goesBy_L8
    rw [h.xM, if_pos (nI_le (Nat.le_refl _) (by omega)), pst_eq, ald_lit (by decide) (by decide), h.mM, if_pos (nI_le (Nat.le_refl _) (by omega)), m2, af 1 2244 2 2 rfl (by decide) (by decide), h.R.day]
    refine ⟨0, _, _, rfl, by rw [Int32.add_zero], h1, ?_, Mo.of fun j => up_nc (by omega)⟩
    rw [Int32.add_zero]
    have : up tx t 4 (tx t 4 + 1) (t + 3) = tx (t + 3) := up_ne (by omega)
    rw [this]
  | succ n ih =>
    intro i fx fm T tx tm acc hi hfx hfm hT h
    obtain ⟨gx, rfl, -⟩ := fuel hfx
    obtain ⟨gm, rfl, -⟩ := fuel hfm
    obtain ⟨hP, hM⟩ := h.lt
    have him : i < nM := by omega
    have hpm := h.R.at_ (show i < 14 by omega)
    have hX : X0_pass_L46 F t (gx + 1) (bR rl) (nI i) tx = (if tx (t + 8) i = -1 then X0_pass_L46 F t gx (bR rl) (nI (i + 1)) tx else cal (X0_takeTurn F t (nI i) (bR rl) tx) fun _ τ6 => X0_pass_L46 F t gx (bR rl) (nI (i + 1)) τ6) := by
      conv => lhs; unfold X0_pass_L46
      unfold X0_pass_j69
      rw [h.xM, if_neg (nI_ge him (by omega)), X8_isAway_in h.xM him hM, cal_some, litA']
      by_cases e : tx (t + 8) i = -1
      · rw [bI_f (fun z => z e), if_pos rfl, if_pos e]
      · rw [bI_t e, if_neg (by decide), if_neg e]
    have hMm : X11_goesBy_L8 F (gm + 1) acc (nI i) tm = (cal (X11_turnOf F (nI i) tm) fun r6 τ7 => X11_goesBy_L8 F gm (acc + r6) (nI (i + 1)) τ7) := by
      conv => lhs; unfold X11_goesBy_L8
      rw [ald_lit (by decide) (by decide), h.mM, if_neg (nI_ge him (by omega)), litA']
    rw [hX, hMm]
    rcases h.atv him with e | ⟨p, hp, e⟩
    · rw [if_pos e]
      have hT0 : X11_turnOf F (nI i) tm = some (0, tm) := by
        unfold X11_turnOf
        rw [litA, ald_nI (by omega) (by omega), hpm, if_pos e]
      rw [hT0, cal_some]
      obtain ⟨v, tx', tm', e1, e2, e3, e4, e5⟩ := ih (i + 1) gx gm T tx tm (acc + 0) (by omega) (by omega) (by omega) (by omega) h
      rw [e1, e2]
      exact ⟨v, tx', tm', rfl, by rw [Int32.add_zero], e3.mono (by omega), e4, e5⟩
    · rw [if_neg (by rw [e]; exact fun z => (nI_m1 (by omega)).mp z)]
      obtain ⟨v, tx1, tm1, v01, d1, d2, h1, d3, d4⟩ := o_turn hF h (by omega) him hp e
      rw [d1, cal_some, d2, cal_some]
      obtain ⟨v', tx', tm', e1, e2, e3, e4, e5⟩ := ih (i + 1) gx gm (T + 1) tx1 tm1 (acc + v) (by omega) (by omega) (by omega) (by omega) h1
      rw [e1, e2]
      refine ⟨v + v', tx', tm', rfl, by rw [Int32.add_assoc], e3.mono (by omega), ?_, d4.trans e5⟩
      rw [e4, d3, Int32.add_assoc]
/-- a day -/
theorem o_pass (hF : 400 < F) (h : St t rl true T nP nM q tx0 tm0 tx tm) (hT : T + 14 < 2 ^ 30) : ∃ v tx' tm', X0_pass F t (bR rl) tx = some (0, tx') ∧ X11_goesBy F tm = some (v, tm') ∧ St t rl true (T + 14) nP nM q tx0 tm0 tx' tm' ∧ smN (tx' (t + 3)) = smN (tx (t + 3)) + v ∧ Mo t tx tx' := by
  obtain ⟨hP, hM⟩ := h.lt
  obtain ⟨c, c1, c2, c3, c4⟩ := h.cou
  obtain ⟨tx1, tm1, e1, e2, h1, e4⟩ := o_court (F := F) c 0 F F tx tm c (by omega) (by omega) (by omega) h c1 c2
  obtain ⟨v, tx2, tm2, g1, g2, g3, g4, g5⟩ := o_mutes hF nM 0 F F T tx1 tm1 0 (by omega) (by omega) (by omega) (by omega) h1
  have e5 : tx1 (t + 3) = tx (t + 3) := funext fun j => e4 3 j (.inl rfl)
  unfold X0_pass X11_goesBy X11_court
  show ∃ v tx' tm', X0_pass_L2 F t F (bR rl) (nI 0) tx = _ ∧ cal (X11_court_L2 F F (nI 0) tm) _ = _ ∧ _
  rw [e1, e2, cal_some]
  refine ⟨v, tx2, tm2, g1, ?_, g3.mono (by omega), by rw [g4, e5], (Mo.of fun j => e4 4 j (.inr rfl)).trans g5⟩
  show X11_goesBy_L8 F F 0 (nI 0) tm1 = _
  rw [g2, Int32.zero_add]
end Da
