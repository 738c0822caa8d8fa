/-! PURE PART. A turn of a mute, in both -/
theorem up_over {τ : Tau} {c j c' j' : Nat} {a b d : Int32} : up (up (up τ c j a) c' j' b) c j d = up (up τ c' j' b) c j d := by
  funext x y
  simp only [up]
  split
  · rfl
  · rfl
/-- treaties only grow -/
def Mo (t : Nat) (tx tx' : Tau) : Prop := ∀ p z, p < 10 → z < 2 ^ 31 → tx (t + 4) p = nI z → ∃ z', z ≤ z' ∧ z' < 2 ^ 31 ∧ tx' (t + 4) p = nI z'
theorem Mo.of {t : Nat} {tx tx' : Tau} (h : ∀ j, tx' (t + 4) j = tx (t + 4) j) : Mo t tx tx' := fun p z _ hb hz => ⟨z, Nat.le_refl _, hb, (h p).trans hz⟩
theorem Mo.trans {t : Nat} {a b c : Tau} (h : Mo t a b) (g : Mo t b c) : Mo t a c := fun p z hp hb hz => by
  obtain ⟨z', h1, h2, h3⟩ := h p z hp hb hz
  obtain ⟨z'', g1, g2, g3⟩ := g p z' hp h2 h3
  exact ⟨z'', Nat.le_trans h1 g1, g2, g3⟩
section Tu
variable {t T nP nM : Nat} {rl bk : Bool} {q : Nat → Nat} {tx0 tm0 tx tm tx' tm' : Tau} {F m : Nat}
theorem St.mono {T' : Nat} (h : St t rl bk T nP nM q tx0 tm0 tx tm) (hT : T ≤ T') : St t rl bk T' nP nM q tx0 tm0 tx tm := by
  obtain ⟨a, b, c⟩ := h
  exact ⟨a, Val_mono b hT, c⟩
theorem St.want (h : St t rl bk T nP nM q tx0 tm0 tx tm) {p : Nat} (hp : p < 10) : q p ≤ 6 ∧ tx 51 p = nI (q p) ∧ tm 1 (445 + 7 * p) = nI (q p) ∧ ∀ j, j < q p → tm 1 (446 + 7 * p + j) = tx 50 (6 * p + j) := by
  obtain ⟨h1, h2, h3, h4⟩ := h.W.2.2.2.1 p hp
  rw [rsX_at (by omega), vX_at (by omega) (by show p < 10; omega)] at h2
  rw [rsM_at (by omega), vM_at (by omega)] at h3
  refine ⟨h1, h2, h3, fun j hj => ?_⟩
  have := h4 j hj
  rw [rsM_at (by omega), vM_at (by omega), rsX_at (by omega), vX_at (by omega) (by show _ < 60; omega)] at this
  exact this
theorem St.says (h : St t rl bk T nP nM q tx0 tm0 tx tm) {k : Nat} (hk : k < 120) : tm 1 (261 + k) = tx 48 k := by
  have := h.W.2.1 k hk
  rw [rsM_at (by omega), vM_at (by omega), rsX_at (by omega), vX_at (by omega) (by show _ < 120; omega)] at this
  exact this
theorem St.tt (h : St t rl bk T nP nM q tx0 tm0 tx tm) : t = 2 ∨ t = 103 := h.2.2.2.2.1.1
theorem o_cry (h : St t rl true T nP nM q tx0 tm0 tx tm) (hm : m < nM) {p : Nat} (hp : p < nP) (ha : tx (t + 8) m = nI p) : ∃ tx' tm', X0_cryOut F t (nI m) (bR rl) tx = some (0, tx') ∧ X11_criesOut F (nI m) tm = some (0, tm') ∧ St t rl true T nP nM q tx0 tm0 tx' tm' ∧ (∀ o j, o = 3 ∨ o = 4 → tx' (t + o) j = tx (t + o) j) := by
  obtain ⟨hP, hM⟩ := h.lt
  have ht := h.tt
  obtain ⟨n1, n2, n3, n4, n5, n6, n7, n8, n9, n10, n11, n12⟩ := lnT ht
  have hpm := h.R.at_ (show m < 14 by omega)
  rw [ha] at hpm
  have h1 := h.chg (v := 1) (show 101 + m < 255 ∧ 101 + m ≠ 4 by omega) (sl_101 m (by omega)) (Val_upd h.V hP hM _ _ (h5 := fun _ _ _ => .inr rfl))
  -- the tail, from any state
  have tail : ∀ sx sm, St t rl true T nP nM q tx0 tm0 sx sm → (∀ o j, o = 3 ∨ o = 4 → sx (t + o) j = tx (t + o) j) → ∃ tx' tm', X0_cryOut_j48 F t (nI m) (bR rl) (nI p) sx = some (0, tx') ∧ X11_criesOut_j49 F (nI m) (nI p) sm = some (0, tm') ∧ St t rl true T nP nM q tx0 tm0 tx' tm' ∧ (∀ o j, o = 3 ∨ o = 4 → tx' (t + o) j = tx (t + o) j) := by
    intro sx sm hs hn
    have g1 := hs.chg (v := 0) (show 5 + p < 255 ∧ 5 + p ≠ 4 by omega) (sl_5 p (by omega)) (Val_upd hs.V hP hM _ _)
    have g2 := g1.chg (v := 0) (show 15 + p < 255 ∧ 15 + p ≠ 4 by omega) (sl_15 p (by omega)) (Val_upd g1.V hP hM _ _ (h6 := fun _ _ _ => ⟨0, by decide, rfl, .inl rfl⟩))
    have g3 := g2.chg (v := -1) (show 87 + m < 255 ∧ 87 + m ≠ 4 by omega) (sl_87 m (by omega)) (Val_upd g2.V hP hM _ _ (h1 := fun _ _ _ => .inl rfl))
    obtain ⟨k, k1, k2, k3, k4⟩ := g3.rb
    have l0 : ∀ (σ : Tau) (k : Int32 → Option (Int32 × Tau)), ald σ 1 2244 0 k = k (σ 1 0) := fun σ k => ald_nI (j := 0) (by decide) (by decide)
    unfold X0_cryOut_j48 X11_criesOut_j49
    rw [X10_put_in n1 (show p < 10 by omega) (by decide), cal_some, X10_put_in n2 (show p < 10 by omega) (by decide), cal_some, X10_put_in n8 (show m < 14 by omega) (by decide), cal_some, X_wr (fun τ => some (0, τ)) k2 k1]
    rw [litA, ast_nI (by omega) (by omega), litA, ast_nI (by omega) (by omega), litA, ast_nI (by omega) (by omega), l0, M_nt k3 k1 g3.is, cal_some, g3.R.ports]
    exact ⟨_, _, rfl, rfl, g3.book _ _ _, fun o j ho => by rw [wrR_ne (by omega) (by omega), up_nc (by omega), up_nc (by omega), up_nc (by omega), hn o j ho]⟩
  have l0 : ∀ (σ : Tau) (k : Int32 → Option (Int32 × Tau)), ald σ 1 2244 0 k = k (σ 1 0) := fun σ k => ald_nI (j := 0) (by decide) (by decide)
  have l1 : ∀ (σ : Tau) (k : Int32 → Option (Int32 × Tau)), ald σ 1 2244 1 k = k (σ 1 1) := fun σ k => ald_nI (j := 1) (by decide) (by decide)
  unfold X0_cryOut X11_criesOut
  rw [X10_entry_in n8 (show m < 14 by omega) (by decide), cal_some, ha, X10_put_in n9 (show m < 14 by omega) (by decide), cal_some]
  rw [litA, ald_nI (by omega) (by omega), hpm, litA, ast_nI (by omega) (by omega), l0, h1.R.ports]
  by_cases c : up tx (t + 9) m 1 t 2 ≤ 0
  · rw [if_pos c, if_pos c]
    exact tail _ _ h1 (fun o j ho => up_nc (by omega))
  · rw [if_neg c, if_neg c, l0, pst_eq, pst_eq, af 1 2244 0 0 rfl (by decide) (by decide), l1, af 1 2244 1 1 rfl (by decide) (by decide), h1.R.ports]
    have h2 : St t rl true T nP nM q tx0 tm0 (up (up tx (t + 9) m 1) t 2 (up tx (t + 9) m 1 t 2 - 1)) (up (up tm 1 (101 + m) 1) 1 0 (up tx (t + 9) m 1 t 2 - 1)) :=
      h1.chg (o := 0) (j := 2) (k := 0) (v := up tx (t + 9) m 1 t 2 - 1) (by decide) (by decide) (Val_upd h1.V hP hM _ _)
    rw [h2.R.lost]
    have h3 : St t rl true T nP nM q tx0 tm0 (up (up (up tx (t + 9) m 1) t 2 (up tx (t + 9) m 1 t 2 - 1)) t 3 (up (up tx (t + 9) m 1) t 2 (up tx (t + 9) m 1 t 2 - 1) t 3 + 1)) (up (up (up tm 1 (101 + m) 1) 1 0 (up tx (t + 9) m 1 t 2 - 1)) 1 1 (up (up tx (t + 9) m 1) t 2 (up tx (t + 9) m 1 t 2 - 1) t 3 + 1)) :=
      h2.chg (o := 0) (j := 3) (k := 1) (v := up (up tx (t + 9) m 1) t 2 (up tx (t + 9) m 1 t 2 - 1) t 3 + 1) (by decide) (by decide) (Val_upd h2.V hP hM _ _)
    exact tail _ _ h3 (fun o j ho => by rw [up_nc (by omega), up_nc (by omega), up_nc (by omega)])
theorem X9_wantedBy_in {p : Nat} {τ : Tau} (hp : p < 10) : X9_wantedBy F 1 (nI p) τ = some (τ 51 p, τ) := by
  unfold X9_wantedBy
  rw [X10_entry_in (N := 10) rfl hp (by decide), cal_some]
theorem X9_wantAt_in {p s n : Nat} {τ : Tau} (hp : p < 10) (hn : τ 51 p = nI n) (hn6 : n ≤ 6) (hs : s < n) : X9_wantAt F 1 (nI p) (nI s) τ = some (τ 50 (6 * p + s), τ) := by
  unfold X9_wantAt
  rw [if_neg (nI_pos (by omega)), X10_entry_in (t0 := 51) (N := 10) rfl hp (by decide), cal_some, hn, if_neg (nI_ge hs (by omega)), litM, nI_add, X10_entry_in (N := 60) rfl (by omega) (by decide), cal_some]
theorem o_read (h : St t rl true T nP nM q tx0 tm0 tx tm) (hT : T < 2 ^ 30) (hm : m < nM) {p : Nat} (hp : p < nP) (ha : tx (t + 8) m = nI p) (sd : Int32) : ∃ tx' tm', X0_readOn F t (nI m) sd (bR rl) tx = some (0, tx') ∧ X11_isRead F (nI m) (nI p) sd tm = some (0, tm') ∧ St t rl true (T + 1) nP nM q tx0 tm0 tx' tm' ∧ (∀ j, tx' (t + 3) j = tx (t + 3) j) ∧ tx' (t + 11) m = tx (t + 11) m ∧ Mo t tx tx' := by
  obtain ⟨hP, hM⟩ := h.lt
  have ht := h.tt
  obtain ⟨n1, n2, n3, n4, n5, n6, n7, n8, n9, n10, n11, n12⟩ := lnT ht
  obtain ⟨w1, w2, w3, w4⟩ := h.want (show p < 10 by omega)
  obtain ⟨s, s1, s2, s3⟩ := h.stev (show p < 10 by omega)
  obtain ⟨z, z1, z2⟩ := h.trev (show p < 10 by omega)
  unfold X0_readOn X11_isRead
  rw [X10_entry_in n8 (show m < 14 by omega) (by decide), cal_some, ha, X8_hasPower_in h.xP hp hP, cal_some, if_neg (by decide), X9_wantedBy_in (by omega), cal_some, w2]
  rw [litM, litA, ald_nI (τ := tm) (by omega) (by omega), w3]
  by_cases hq : q p = 0
  · rw [hq, if_pos (show nI 0 = 0 from rfl), if_pos (show nI 0 = 0 from rfl)]
    exact ⟨tx, tm, rfl, rfl, h.mono (by omega), fun _ => rfl, rfl, Mo.of fun _ => rfl⟩
  · have hs : s < q p := by omega
    have hq0 : ¬ nI (q p) = 0 := fun e => hq (nI_inj (by omega) (by decide) e)
    rw [if_neg hq0, if_neg hq0, ald_nI (by omega) (by omega), s2, X9_wantAt_in (by omega) w2 w1 hs, cal_some, litA, ald_nI (τ := tm) (by omega) (by omega), h.R.step (show p < 10 by omega), s2, litA', nI_add, ald_nI (τ := tm) (by omega) (by omega), show 445 + 7 * p + 1 + s = 446 + 7 * p + s by omega, w4 s hs]
    by_cases hsd : sd = tx 50 (6 * p + s)
    · rw [if_pos hsd, if_pos hsd.symm, ald_nI (by omega) (by omega), s2, ald_nI (by omega) (by omega), h.R.step (show p < 10 by omega), s2, litA', ast_nI (by omega) (by omega), ald_nI (by omega) (by omega), up_c, X9_wantedBy_in (by omega), cal_some, up_nc (show (51 : Nat) ≠ t + 2 by omega), w2]
      rw [ast_nI (τ := tm) (by omega) (by omega), ald_nI (τ := up tm 1 (15 + p) (nI (s + 1))) (by omega) (by omega), up_c]
      by_cases hlt : s + 1 < q p
      · rw [if_pos (nI_lt hlt (by omega)), if_neg (nI_ge hlt (by omega))]
        have h1 := h.chg (v := nI (s + 1)) (show 15 + p < 255 ∧ 15 + p ≠ 4 by omega) (sl_15 p (by omega)) (Val_upd h.V hP hM _ _ (h6 := fun p' hp' e => by
          have : p' = p := by omega
          subst this
          exact ⟨s + 1, by omega, rfl, .inr hlt⟩))
        exact ⟨_, _, rfl, rfl, h1.mono (by omega), fun j => up_nc (by omega), up_nc (by omega), Mo.of fun j => up_nc (by omega)⟩
      · rw [if_neg (nI_nlt (by omega) (by omega)), if_pos (nI_le (by omega) (by omega)), ald_nI (by omega) (by omega), up_nc (show t + 4 ≠ t + 2 by omega), z2, litA', ast_nI (by omega) (by omega), ast_nI (by omega) (by omega), up_over]
        rw [litA, ald_nI (by omega) (by omega), up_nj (show 35 + p ≠ 15 + p by omega), h.R.treaty (show p < 10 by omega), z2, litA', ast_nI (by omega) (by omega), ast_nI (by omega) (by omega), up_over]
        have h1 := (h.mono (Nat.le_succ T)).chg (v := nI (z + 1)) (show 35 + p < 255 ∧ 35 + p ≠ 4 by omega) (sl_35 p (by omega)) (Val_upd (h.mono (Nat.le_succ T)).V hP hM _ _ (h7 := fun _ _ _ => ⟨z + 1, by omega, rfl⟩))
        have h2 := h1.chg (v := 0) (show 15 + p < 255 ∧ 15 + p ≠ 4 by omega) (sl_15 p (by omega)) (Val_upd h1.V hP hM _ _ (h6 := fun _ _ _ => ⟨0, by decide, rfl, .inl rfl⟩))
        obtain ⟨k, k1, k2, k3, k4⟩ := h2.rb
        rw [X_wr (fun τ => some (0, τ)) k2 k1, M_nt k3 k1 h2.is, cal_some]
        refine ⟨_, _, rfl, rfl, h2.book _ _ _, fun j => by rw [wrR_ne (by omega) (by omega), up_nc (by omega), up_nc (by omega)], by rw [wrR_ne (by omega) (by omega), up_nc (by omega), up_nc (by omega)], fun p' z' hp' hb' hz' => ?_⟩
        by_cases ep : p' = p
        · subst ep
          rw [z2] at hz'
          have := nI_inj (by omega) hb' hz'
          exact ⟨z + 1, by omega, by omega, by rw [wrR_ne (by omega) (by omega), up_nc (by omega), up_c]⟩
        · exact ⟨z', Nat.le_refl _, hb', by rw [wrR_ne (by omega) (by omega), up_nc (by omega), up_nj ep]; exact hz'⟩
    · rw [if_neg hsd, if_neg (fun e => hsd e.symm), ast_nI (by omega) (by omega), ast_nI (by omega) (by omega)]
      have h1 := h.chg (v := 0) (show 15 + p < 255 ∧ 15 + p ≠ 4 by omega) (sl_15 p (by omega)) (Val_upd h.V hP hM _ _ (h6 := fun _ _ _ => ⟨0, by decide, rfl, .inl rfl⟩))
      exact ⟨_, _, rfl, rfl, h1.mono (by omega), fun j => up_nc (by omega), up_nc (by omega), Mo.of fun j => up_nc (by omega)⟩
end Tu
