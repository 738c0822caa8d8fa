/-! PURE PART. What is done in a day, in both: THE BOOK, draws, sending, calling home -/
def wrR (rl : Bool) (tx : Tau) (a b c : Int32) : Tau := if rl = true then wrX tx a b c else tx
def ntR (rl : Bool) (tm : Tau) (a b c : Int32) : Tau := if rl = true then ntM tm a b c else tm
theorem X_wr {F k : Nat} {rl : Bool} {a b c : Int32} {tx : Tau} (A : Tau → Option (Int32 × Tau)) (hk : tx 2 6 = nI k) (h : k ≤ 150) : (if bR rl = 0 then A tx else cal (X9_write F 1 a b c tx) fun _ τ => A τ) = A (wrR rl tx a b c) := by
  cases rl
  · rw [if_pos (show bR false = 0 from rfl)]; rfl
  · rw [if_neg (show ¬ bR true = 0 by decide), X9_write_eq hk h]; rfl
theorem M_nt {F k : Nat} {rl : Bool} {a b c : Int32} {tm : Tau} (hk : tm 1 4 = nI k) (h : k ≤ 150) (hi : tm 0 26 = bR rl) : X11_notes F a b c tm = some (0, ntR rl tm a b c) := by
  cases rl
  · rw [X11_notes_0 hi]; rfl
  · rw [X11_notes_eq hk h hi]; rfl
theorem wrR_ne {rl : Bool} {tx : Tau} {a b c : Int32} {c' j : Nat} (h1 : c' ≠ 46) (h2 : ¬ (c' = 2 ∧ j = 6)) : wrR rl tx a b c c' j = tx c' j := by
  unfold wrR wrX
  split
  · split
    · rfl
    · simp only [up, h1, false_and, if_false]
      rw [if_neg h2]
  · rfl
theorem ntR_ne {rl : Bool} {tm : Tau} {a b c : Int32} {c' j k : Nat} (hk : tm 1 4 = nI k) (h : k ≤ 150) (h1 : c' ≠ 1 ∨ (j ≠ 4 ∧ (j < 760 ∨ 1360 ≤ j))) : ntR rl tm a b c c' j = tm c' j := by
  unfold ntR ntM
  split
  · by_cases e : 150 ≤ k
    · rw [if_pos (by rw [hk, lit_le' (by decide) (by omega)]; exact e)]
    · rw [if_neg (by rw [hk, lit_le' (by decide) (by omega)]; exact e), hk, ix_nI (by omega)]
      simp only [up]
      rw [if_neg (by omega), if_neg (by omega), if_neg (by omega), if_neg (by omega), if_neg (by omega)]
  · rfl
theorem wrX_congr {tx tx' : Tau} {a b c : Int32} (h1 : ∀ i, tx' 46 i = tx 46 i) (h2 : tx' 2 6 = tx 2 6) (h3 : tx' 2 4 = tx 2 4) : (∀ i, wrX tx' a b c 46 i = wrX tx a b c 46 i) ∧ wrX tx' a b c 2 6 = wrX tx a b c 2 6 := by
  unfold wrX
  rw [h2, h3]
  split
  · exact ⟨h1, h2⟩
  · refine ⟨fun i => ?_, by rw [up_c, up_c]⟩
    simp only [up, h1]
theorem RB.wr {rl : Bool} {tx tm tx' tm' : Tau} {a b c : Int32} (h : RB (wrR rl tx a b c) tm) (h1 : ∀ i, tx' 46 i = tx 46 i) (h2 : tx' 2 6 = tx 2 6) (h3 : tx' 2 4 = tx 2 4) (h4 : tm' 1 4 = tm 1 4) (h5 : ∀ i, i < 600 → tm' 1 (760 + i) = tm 1 (760 + i)) : RB (wrR rl tx' a b c) tm' := by
  obtain ⟨k, k1, k2, k3, k4⟩ := h
  cases rl
  · refine ⟨k, k1, by rw [← k2]; exact h2, by rw [h4]; exact k3, fun i hi => ?_⟩
    rw [h5 i hi, k4 i hi]
    exact (h1 i).symm
  · obtain ⟨c1, c2⟩ := wrX_congr (a := a) (b := b) (c := c) h1 h2 h3
    refine ⟨k, k1, by rw [← k2]; exact c2, by rw [h4]; exact k3, fun i hi => ?_⟩
    rw [h5 i hi, k4 i hi]
    exact (c1 i).symm
section Op
variable {t T nP nM : Nat} {rl bk : Bool} {q : Nat → Nat} {tx0 tm0 tx tm tx' tm' : Tau} {F m : Nat}
theorem St.rb (h : St t rl true T nP nM q tx0 tm0 tx tm) : RB tx tm := h.2.2.2.2.1.2.2 rfl
theorem St.drop (h : St t rl bk T nP nM q tx0 tm0 tx tm) : St t rl false T nP nM q tx0 tm0 tx tm := by
  obtain ⟨a, b, c, d, f, g⟩ := h
  exact ⟨a, b, c, d, ⟨f.1, f.2.1, fun z => by cases z⟩, g⟩
theorem St.take (h : St t rl bk T nP nM q tx0 tm0 tx tm) (hb : RB tx tm) : St t rl true T nP nM q tx0 tm0 tx tm := by
  obtain ⟨a, b, c, d, f, g⟩ := h
  exact ⟨a, b, c, d, ⟨f.1, f.2.1, fun _ => hb⟩, g⟩
theorem St.wrote (h : St t rl bk T nP nM q tx0 tm0 tx tm) (a b c : Int32) : St t rl false T nP nM q tx0 tm0 (wrR rl tx a b c) tm := by
  cases rl
  · exact h.drop
  · obtain ⟨⟨a1, a2, a3, a4, a5, a6, a7⟩, e, w, d, f, g, i⟩ := h
    have ht : t = 2 := f.2.1 rfl
    subst ht
    refine ⟨⟨?_, ?_, ?_, a4, a5, a6, a7⟩, e, ?_, d, ⟨f.1, f.2.1, fun z => by cases z⟩, ?_, i⟩
    · intro k hk h4
      obtain ⟨s1, s2, s3, s4⟩ := sl_inv k hk
      rw [wrR_ne (by omega)]
      · exact a1 k hk h4
      · rintro ⟨e1, e2⟩
        have e3 : slo k = 0 := by omega
        rw [e3, e2] at s1
        exact h4 s1.symm
    · rw [wrR_ne (by decide) (by decide)]; exact a2
    · rw [wrR_ne (by decide) (by decide)]; exact a3
    · unfold Wd at w ⊢
      rw [vX_congr (tx := tx) (fun c j hc _ => wrR_ne (by omega) (by omega))]
      exact w
    · intro c j h1 h45 h212 h46
      rcases h46 with h46 | h46
      · rw [wrR_ne h46]
        · exact g c j h1 h45 h212 (.inl h46)
        · rintro ⟨e1, e2⟩
          subst e1; subst e2
          rcases h1 with h1 | h1 | ⟨-, h1⟩
          · omega
          · omega
          · rcases h1 with h1 | h1
            · omega
            · cases h1.2
      · cases h46
theorem St.noted {k : Nat} (h : St t rl bk T nP nM q tx0 tm0 tx tm) (hk : tm 1 4 = nI k) (hk2 : k ≤ 150) (a b c : Int32) : St t rl false T nP nM q tx0 tm0 tx (ntR rl tm a b c) := by
  cases rl
  · exact h.drop
  · have hne : ∀ c' j, (c' ≠ 1 ∨ (j ≠ 4 ∧ (j < 760 ∨ 1360 ≤ j))) → ntR true tm a b c c' j = tm c' j := fun c' j hc => ntR_ne hk hk2 hc
    obtain ⟨⟨a1, a2, a3, a4, a5, a6, a7⟩, e, w, d, f, g, i⟩ := h
    refine ⟨⟨?_, a2, a3, ?_, ?_, a6, a7⟩, ?_, ?_, ?_, ⟨f.1, f.2.1, fun z => by cases z⟩, g, ?_⟩
    · intro k hk h4
      rw [hne _ _ (by omega)]; exact a1 k hk h4
    · rw [hne _ _ (by omega)]; exact a4
    · rw [hne _ _ (by omega)]; exact a5
    · obtain ⟨v1, v2, v3, v4, v5, v6, v7, v8, v9⟩ := e
      refine ⟨fun m hm => ?_, fun m hm => ?_, fun m hm => ?_, fun m hm => ?_, fun m hm => ?_, fun p hp => ?_, fun p hp => ?_, fun m hm hm2 => ?_, fun p hp hp2 => ?_⟩
      · rw [hne _ _ (by omega)]; exact v1 m hm
      · rw [hne _ _ (by omega)]; exact v2 m hm
      · rw [hne _ _ (by omega)]; exact v3 m hm
      · rw [hne _ _ (by omega)]; exact v4 m hm
      · rw [hne _ _ (by omega)]; exact v5 m hm
      · rw [hne _ _ (by omega)]; exact v6 p hp
      · rw [hne _ _ (by omega)]; exact v7 p hp
      · rw [hne _ _ (by omega), hne _ _ (by omega), hne _ _ (by omega)]; exact v8 m hm hm2
      · rw [hne _ _ (by omega), hne _ _ (by omega), hne _ _ (by omega), hne _ _ (by omega)]; exact v9 p hp hp2
    · unfold Wd at w ⊢
      rw [vM_congr (w := tm 1) (fun k hk => hne _ _ (by omega))]
      exact w
    · rw [hne _ _ (by omega)]; exact d
    · refine ⟨fun c' j h1 h9 h10 => ?_, fun k' hk' => ?_⟩
      · rw [hne _ _ (.inl h1)]; exact i.1 c' j h1 h9 h10
      · rcases hk' with ⟨h1, h2⟩ | ⟨-, h2⟩
        · rw [hne _ _ (by rcases h2 with h2 | h2 | h2 <;> first | omega | cases h2)]
          exact i.2 k' (.inl ⟨h1, h2⟩)
        · cases h2
/-- both write a line -/
theorem St.book (h : St t rl true T nP nM q tx0 tm0 tx tm) (a b c : Int32) : St t rl true T nP nM q tx0 tm0 (wrR rl tx a b c) (ntR rl tm a b c) := by
  obtain ⟨k, k1, k2, k3, k4⟩ := h.rb
  refine ((h.wrote a b c).noted k3 k1 a b c).take ?_
  cases rl
  · exact h.rb
  · have ht : t = 2 := h.2.2.2.2.1.2.1 rfl
    subst ht
    exact RB.book h.rb h.R.day a b c
theorem o_falls (h : St t rl bk T nP nM q tx0 tm0 tx tm) (r : Int32) : ∃ v tx' tm', (v = 0 ∨ v = 1) ∧ X0_falls F t r (bR rl) tx = some (v, tx') ∧ X11_falls F r tm = some (v, tm') ∧ St t rl bk T nP nM q tx0 tm0 tx' tm' ∧ (∀ c j, c ≠ t → tx' c j = tx c j) := by
  unfold X0_falls X11_falls
  have hle : r ≤ 0 → r < 500 := fun z => by
    rw [Int32.le_iff_toInt_le] at z
    rw [Int32.lt_iff_toInt_lt]
    have e0 : (0 : Int32).toInt = 0 := by decide
    have e5 : (500 : Int32).toInt = 500 := by decide
    omega
  rw [h.is]
  cases rl
  · rw [if_pos (show bR false = 0 from rfl)]
    by_cases c0 : r ≤ 0
    · rw [if_pos (hle c0), if_pos c0]
      exact ⟨0, tx, tm, .inl rfl, rfl, rfl, h, fun _ _ _ => rfl⟩
    · rw [if_neg c0, if_pos (show bR false = 0 from rfl)]
      by_cases c5 : r < 500
      · rw [if_pos c5, if_pos c5]
        exact ⟨0, tx, tm, .inl rfl, rfl, rfl, h, fun _ _ _ => rfl⟩
      · rw [if_neg c5, if_neg c5]
        exact ⟨1, tx, tm, .inr rfl, rfl, rfl, h, fun _ _ _ => rfl⟩
  · rw [if_neg (show ¬ bR true = 0 by decide)]
    by_cases c0 : r ≤ 0
    · rw [if_pos c0, if_pos c0]
      exact ⟨0, tx, tm, .inl rfl, rfl, rfl, h, fun _ _ _ => rfl⟩
    · rw [if_neg c0, if_neg c0, if_neg (show ¬ bR true = 0 by decide)]
      have h1 := h.chg (o := 0) (j := 5) (k := 3) (v := 1664525 * tm 1 3 + 1013904223) (by decide) (by decide) (Val_upd h.V h.lt.1 h.lt.2 _ _)
      unfold X8_drawsBelow X11_draw
      have l3 : ∀ (σ : Tau) (k : Int32 → Option (Int32 × Tau)), ald σ 1 2244 3 k = k (σ 1 3) := fun σ k => ald_nI (j := 3) (by decide) (by decide)
      rw [pst_eq, l3, af 1 2244 3 3 rfl (by decide) (by decide), l3, if_neg (show ¬ (1000 : Int32) = 0 by decide), cal_some, up_c, up_c, h.R.draws]
      rw [h.R.draws] at h1
      by_cases cc : r ≤ rmd (ushr (1664525 * tx t 5 + 1013904223) 8) 1000
      · rw [if_pos cc, if_pos cc, cal_some, if_pos rfl]
        exact ⟨0, _, _, .inl rfl, rfl, rfl, h1, fun c j hc => up_nc hc⟩
      · rw [if_neg cc, if_neg cc, cal_some, if_neg (by decide)]
        exact ⟨1, _, _, .inr rfl, rfl, rfl, h1, fun c j hc => up_nc hc⟩
theorem o_send (h : St t rl true T nP nM q tx0 tm0 tx tm) (hm : m < nM) {p : Nat} (hp : p < nP) : ∃ tx' tm', X0_sendTo F t (nI m) (nI p) (bR rl) tx = some (0, tx') ∧ X11_sends F (nI m) (nI p) tm = some (0, tm') ∧ St t rl true T nP nM q tx0 tm0 tx' tm' ∧ (∀ o j, o = 3 ∨ o = 4 → tx' (t + o) j = tx (t + o) j) := by
  obtain ⟨hP, hM⟩ := h.lt
  unfold X0_sendTo X11_sends
  rw [X8_isHome_in h.xM hm hM, cal_some, litA, ald_nI (by omega) (by omega), h.R.at_ (show m < 14 by omega)]
  by_cases e : tx (t + 8) m = -1
  · rw [bI_t e, if_neg (by decide), if_pos e, ast_nI (by omega) (by omega), ast_nI (by omega) (by omega), ast_nI (by omega) (by omega), litA, ast_nI (by omega) (by omega)]
    have h1 := h.chg (v := nI p) (show 87 + m < 255 ∧ 87 + m ≠ 4 by omega) (sl_87 m (by omega)) (Val_upd h.V hP hM _ _ (h1 := fun _ _ _ => .inr ⟨p, hp, rfl⟩))
    have h2 := h1.chg (v := 0) (show 129 + m < 255 ∧ 129 + m ≠ 4 by omega) (sl_129 m (by omega)) (Val_upd h1.V hP hM _ _ (h3 := fun _ _ _ => ⟨0, by decide, rfl⟩) (h8 := fun _ _ _ _ => rfl))
    obtain ⟨k, k1, k2, k3, k4⟩ := h2.rb
    rw [X_wr (fun τ => some (0, τ)) k2 k1, M_nt k3 k1 h2.is, cal_some]
    have ht := h.2.2.2.2.1.1
    exact ⟨_, _, rfl, rfl, h2.book _ _ _, fun o j ho => by rw [wrR_ne (by omega) (by omega), up_nc (by omega), up_nc (by omega)]⟩
  · rw [bI_f e, if_pos rfl, if_neg e]
    exact ⟨tx, tm, rfl, rfl, h, fun _ _ _ => rfl⟩
theorem o_home (h : St t rl true T nP nM q tx0 tm0 tx tm) (hm : m < nM) : ∃ tx' tm', X0_goHome F t (nI m) (bR rl) tx = some (0, tx') ∧ X11_calls F (nI m) tm = some (0, tm') ∧ St t rl true T nP nM q tx0 tm0 tx' tm' ∧ (∀ o j, o = 3 ∨ o = 4 → tx' (t + o) j = tx (t + o) j) := by
  obtain ⟨hP, hM⟩ := h.lt
  unfold X0_goHome X11_calls
  rw [X8_isAway_in h.xM hm hM, cal_some, litA, ald_nI (by omega) (by omega), h.R.at_ (show m < 14 by omega)]
  by_cases e : tx (t + 8) m = -1
  · rw [bI_f (fun z => z e), if_pos rfl, if_pos e]
    exact ⟨tx, tm, rfl, rfl, h, fun _ _ _ => rfl⟩
  · have h1 := h.chg (v := -1) (show 87 + m < 255 ∧ 87 + m ≠ 4 by omega) (sl_87 m (by omega)) (Val_upd h.V hP hM _ _ (h1 := fun _ _ _ => .inl rfl))
    obtain ⟨k, k1, k2, k3, k4⟩ := h1.rb
    rw [bI_t e, if_neg (by decide), if_neg e, ast_nI (by omega) (by omega), ast_nI (by omega) (by omega), litA, ald_nI (by omega) (by omega), ald_nI (by omega) (by omega), h1.R.shown (show m < 14 by omega), X_wr (fun τ => some (0, τ)) k2 k1, M_nt k3 k1 h1.is, cal_some]
    have ht := h.2.2.2.2.1.1
    exact ⟨_, _, rfl, rfl, h1.book _ _ _, fun o j ho => by rw [wrR_ne (by omega) (by omega), up_nc (by omega)]⟩
end Op
