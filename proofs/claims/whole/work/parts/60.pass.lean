/-! PURE PART. Showing a thing, a turn, THE COURT, a day, in both -/
def smN (f : Nat → Int32) : Int32 := f 0 + f 1 + f 2 + f 3 + f 4 + f 5 + f 6 + f 7 + f 8 + f 9
theorem i32_comm4 (a b c : Int32) : a + b + c = a + c + b := by rw [Int32.add_assoc, Int32.add_comm b c, ← Int32.add_assoc]
theorem smN_inc {f g : Nat → Int32} {p : Nat} (hp : p < 10) (h1 : g p = f p + 1) (h2 : ∀ j, j ≠ p → g j = f j) : smN g = smN f + 1 := by
  have hk : p = 0 ∨ p = 1 ∨ p = 2 ∨ p = 3 ∨ p = 4 ∨ p = 5 ∨ p = 6 ∨ p = 7 ∨ p = 8 ∨ p = 9 := by omega
  unfold smN
  rcases hk with rfl | rfl | rfl | rfl | rfl | rfl | rfl | rfl | rfl | rfl <;> simp (disch := decide) only [h1, h2, ne_eq] <;> grind
section Pa
variable {t T nP nM : Nat} {rl bk : Bool} {q : Nat → Nat} {tx0 tm0 tx tm tx' tm' : Tau} {F m : Nat}
theorem o_shown (h : St t rl bk T nP nM q tx0 tm0 tx tm) (hm : m < nM) {s : Nat} (hs : tx (t + 11) m = nI s) (hs8 : s < 8) (v : Int32) : X0_showThing_j147 F t (nI m) tx = some (0, up tx (t + 11) m (nI (s + 1))) ∧ X11_isNoddedAt_j126 F (nI m) v tm = some (vp_nar .boolean v, up tm 1 (129 + m) (nI (s + 1))) ∧ St t rl bk T nP nM q tx0 tm0 (up tx (t + 11) m (nI (s + 1))) (up tm 1 (129 + m) (nI (s + 1))) := by
  obtain ⟨hP, hM⟩ := h.lt
  refine ⟨?_, ?_, h.chg (show 129 + m < 255 ∧ 129 + m ≠ 4 by omega) (sl_129 m (by omega)) (Val_upd h.V hP hM _ _ (h3 := fun _ _ _ => ⟨s + 1, by omega, rfl⟩) (h8 := fun a b _ c => by omega))⟩
  · unfold X0_showThing_j147
    rw [ald_nI (by omega) (by omega), hs, litA', ast_nI (by omega) (by omega)]
  · unfold X11_isNoddedAt_j126
    rw [litA, ald_nI (by omega) (by omega), h.R.shown (show m < 14 by omega), hs, litA', ast_nI (by omega) (by omega)]
theorem o_nod (hF : 400 < F) (h : St t rl true T nP nM q tx0 tm0 tx tm) (hT : T < 2 ^ 30) (hm : m < nM) {p a c s : Nat} (hp : p < nP) (hat : tx (t + 8) m = nI p) (hc : tx (t + 10) m = nI c) (hc8 : c ≤ 8) (hs : tx (t + 11) m = nI s) (hsc : s < c) (ht12 : tx (t + 12) (8 * m + s) = nI a) (ha : a < 12) :
    ∃ v tx' tm', (v = 0 ∨ v = 1) ∧ X0_showThing F t (nI m) (bR rl) tx = some (0, tx') ∧ X11_isNoddedAt F (nI m) (nI a) tm = some (v, tm') ∧ St t rl true (T + 1) nP nM q tx0 tm0 tx' tm' ∧ smN (tx' (t + 3)) = smN (tx (t + 3)) + v ∧ Mo t tx tx' := by
  obtain ⟨hP, hM⟩ := h.lt
  have ht := h.tt
  obtain ⟨n1, n2, n3, n4, n5, n6, n7, n8, n9, n10, n11, n12⟩ := lnT ht
  have hpm := h.R.at_ (show m < 14 by omega)
  rw [hat] at hpm
  have hnx : ∀ σ : Tau, σ t 1 = nI nM → σ (t + 10) m = nI c → σ (t + 11) m = nI s → σ (t + 12) (8 * m + s) = nI a → X8_nextThing F t (nI m) σ = some (nI a, σ) := by
    intro σ g0 g1 g2 g3
    rw [X8_nextThing_in g0 hm hM g1 hc8 g2 (by omega), if_pos hsc, g3]
  have hsay := h.says (show 12 * p + a < 120 by omega)
  rw [← Nat.add_assoc] at hsay
  obtain ⟨r, tx1, tm1, a1, a2, a3, a4⟩ := ask_nods hF h hm hat hp ha (hnx tx h.xM hc hs ht12)
  have h1 := h.scr a3 a4
  obtain ⟨v, tx2, tm2, v01, b1, b2, h2, b3⟩ := o_falls (F := F) h1 r
  have e1 : ∀ o j, 1 ≤ o → o ≤ 12 → tx2 (t + o) j = tx (t + o) j := fun o j o1 o2 => by rw [b3 _ _ (by omega), a3 _ _ (by omega) (by omega)]
  obtain ⟨k, k1, k2, k3, k4⟩ := h2.rb
  have hX : X0_showThing F t (nI m) (bR rl) tx = (if v = 0 then (ald tx2 (t + 1) 10 (nI p) fun v15 => ast tx2 (t + 1) 10 (nI p) (imax 0 (v15 - 1)) fun τ16 => if bR rl = 0 then X0_showThing_j147 F t (nI m) τ16 else cal (X9_write F 1 2 (nI m) (tx 48 (12 * p + a)) τ16) fun _ τ20 => X0_showThing_j147 F t (nI m) τ20)
      else (ald tx2 (t + 3) 10 (nI p) fun v21 => ast tx2 (t + 3) 10 (nI p) (v21 + 1) fun τ22 => cal (X0_ask F t (nI m) 2 τ22) fun r23 τ24 => cal (X0_addTrust F t (nI p) r23 τ24) fun _ τ26 => if bR rl = 0 then X0_showThing_j100 F t (nI m) (bR rl) (tx 48 (12 * p + a)) τ26 else cal (X9_write F 1 1 (nI m) (tx 48 (12 * p + a)) τ26) fun _ τ30 => X0_showThing_j100 F t (nI m) (bR rl) (tx 48 (12 * p + a)) τ30)) := by
    unfold X0_showThing
    rw [X10_entry_in n8 (show m < 14 by omega) (by decide), cal_some, hat, X8_hasPower_in h.xP hp hP, cal_some, if_neg (by decide), X8_hasMute_in h.xM hm hM, cal_some, if_neg (by decide), hnx tx h.xM hc hs ht12, cal_some, X9_saysTo_in (by omega) ha, cal_some, a1, cal_some, b1, cal_some]
  have hMm : X11_isNoddedAt F (nI m) (nI a) tm = (if v = 0 then X11_isNoddedAt_j41 F (nI m) (nI a) (nI p) (tx 48 (12 * p + a)) v 2 tm2 else X11_isNoddedAt_j41 F (nI m) (nI a) (nI p) (tx 48 (12 * p + a)) v 1 tm2) := by
    unfold X11_isNoddedAt X11_meaning
    rw [litA, ald_nI (by omega) (by omega), hpm, litM, litA, nI_add, ald_nI (by omega) (by omega), hsay, cal_some, a2, cal_some, b2, cal_some]
  have hdx : ∀ g : Nat → Int32, (∀ j, g j = tx2 (t + 3) j) → smN g = smN (tx (t + 3)) := fun g hg => by
    have : g = tx (t + 3) := funext fun j => by rw [hg j, e1 3 j (by decide) (by decide)]
    rw [this]
  rw [hX, hMm]
  rcases v01 with rfl | rfl
  · rw [if_pos rfl, if_pos rfl]
    -- not nodded at
    have i2 : tm2 0 26 = bR rl := h2.is
    have n2' : St t rl false T nP nM q tx0 tm0 tx2 (ntR rl tm2 2 (nI m) (tx 48 (12 * p + a))) := h2.noted k3 k1 _ _ _
    have rb2 := (h2.book 2 (nI m) (tx 48 (12 * p + a))).rb
    have h3 := n2'.chg (v := imax 0 (tx2 (t + 1) p - 1)) (show 5 + p < 255 ∧ 5 + p ≠ 4 by omega) (sl_5 p (by omega)) (Val_upd n2'.V hP hM _ _)
    have rb3 := rb2.wr (tx' := up tx2 (t + 1) p (imax 0 (tx2 (t + 1) p - 1))) (tm' := up (ntR rl tm2 2 (nI m) (tx 48 (12 * p + a))) 1 (5 + p) (imax 0 (tx2 (t + 1) p - 1))) (fun i => up_nc (by omega)) (up_nc (by omega)) (up_nc (by omega)) (up_nj (by omega)) (fun i _ => up_nj (by omega))
    have h4 := (h3.wrote 2 (nI m) (tx 48 (12 * p + a))).take rb3
    have kx : up tx2 (t + 1) p (imax 0 (tx2 (t + 1) p - 1)) 2 6 = nI k := by rw [up_nc (by omega)]; exact k2
    have sx : wrR rl (up tx2 (t + 1) p (imax 0 (tx2 (t + 1) p - 1))) 2 (nI m) (tx 48 (12 * p + a)) (t + 11) m = nI s := by
      rw [wrR_ne (by omega) (by omega), up_nc (by omega), e1 11 m (by decide) (by decide), hs]
    obtain ⟨c1, c2, c3⟩ := o_shown (F := F) h4 hm sx (by omega) 0
    have hx2 : (ald tx2 (t + 1) 10 (nI p) fun v15 => ast tx2 (t + 1) 10 (nI p) (imax 0 (v15 - 1)) fun τ16 => if bR rl = 0 then X0_showThing_j147 F t (nI m) τ16 else cal (X9_write F 1 2 (nI m) (tx 48 (12 * p + a)) τ16) fun _ τ20 => X0_showThing_j147 F t (nI m) τ20) = X0_showThing_j147 F t (nI m) (wrR rl (up tx2 (t + 1) p (imax 0 (tx2 (t + 1) p - 1))) 2 (nI m) (tx 48 (12 * p + a))) := by
      rw [ald_nI (by omega) (by omega), ast_nI (by omega) (by omega)]
      exact X_wr (fun τ => X0_showThing_j147 F t (nI m) τ) kx k1
    have hm2 : X11_isNoddedAt_j41 F (nI m) (nI a) (nI p) (tx 48 (12 * p + a)) 0 2 tm2 = X11_isNoddedAt_j126 F (nI m) 0 (up (ntR rl tm2 2 (nI m) (tx 48 (12 * p + a))) 1 (5 + p) (imax 0 (tx2 (t + 1) p - 1))) := by
      unfold X11_isNoddedAt_j41
      rw [M_nt k3 k1 i2, cal_some, if_pos rfl, litA, ald_nI (by omega) (by omega), X11_greater_eq, cal_some, ast_nI (by omega) (by omega), n2'.R.trust (show p < 10 by omega)]
    rw [hx2, hm2, c1, c2, nar0]
    refine ⟨0, _, _, .inl rfl, rfl, rfl, c3.mono (by omega), ?_, Mo.of fun j => by rw [up_nc (by omega), wrR_ne (by omega) (by omega), up_nc (by omega), e1 4 j (by decide) (by decide)]⟩
    rw [Int32.add_zero]
    exact hdx _ (fun j => by rw [up_nc (by omega), wrR_ne (by omega) (by omega), up_nc (by omega)])
  · rw [if_neg (by decide), if_neg (by decide)]
    have i2 : tm2 0 26 = bR rl := h2.is
    have n2' : St t rl false T nP nM q tx0 tm0 tx2 (ntR rl tm2 1 (nI m) (tx 48 (12 * p + a))) := h2.noted k3 k1 _ _ _
    have rb2 := (h2.book 1 (nI m) (tx 48 (12 * p + a))).rb
    generalize htmn : ntR rl tm2 1 (nI m) (tx 48 (12 * p + a)) = tmn at n2' rb2
    -- the nod
    have h3 := n2'.chg (v := tx2 (t + 3) p + 1) (show 25 + p < 255 ∧ 25 + p ≠ 4 by omega) (sl_25 p (by omega)) (Val_upd n2'.V hP hM _ _)
    have rb3 := rb2.wr (tx' := up tx2 (t + 3) p (tx2 (t + 3) p + 1)) (tm' := up tmn 1 (25 + p) (tx2 (t + 3) p + 1)) (fun i => up_nc (by omega)) (up_nc (by omega)) (up_nc (by omega)) (up_nj (by omega)) (fun i _ => up_nj (by omega))
    have e3 : ∀ o j, 1 ≤ o → o ≤ 12 → o ≠ 3 → up tx2 (t + 3) p (tx2 (t + 3) p + 1) (t + o) j = tx (t + o) j := fun o j o1 o2 o3 => by rw [up_nc (by omega), e1 o j o1 o2]
    obtain ⟨w, tx4, tm4, d1, d2, d3, d4⟩ := ask_wins hF h3 hm (by rw [e3 8 m (by decide) (by decide) (by decide)]; exact hat) hp ha (hnx _ h3.xM (by rw [e3 10 m (by decide) (by decide) (by decide)]; exact hc) (by rw [e3 11 m (by decide) (by decide) (by decide)]; exact hs) (by rw [e3 12 _ (by decide) (by decide) (by decide)]; exact ht12))
    have h4 := h3.scr d3 d4
    have rb4 := rb3.wr (tx' := tx4) (tm' := tm4) (fun i => d3 _ _ (by decide) (by decide)) (d3 _ _ (by decide) (by decide)) (d3 _ _ (by decide) (by decide)) (d4 _ _ (by decide) (by decide)) (fun i _ => d4 _ _ (by decide) (by decide))
    have e4 : ∀ o j, 1 ≤ o → o ≤ 12 → o ≠ 3 → tx4 (t + o) j = tx (t + o) j := fun o j o1 o2 o3 => by rw [d3 _ _ (by omega) (by omega), e3 o j o1 o2 o3]
    -- trust
    have h5 := h4.chg (v := imin 99 (tx4 (t + 1) p + w)) (show 5 + p < 255 ∧ 5 + p ≠ 4 by omega) (sl_5 p (by omega)) (Val_upd h4.V hP hM _ _)
    have rb5 := rb4.wr (tx' := up tx4 (t + 1) p (imin 99 (tx4 (t + 1) p + w))) (tm' := up tm4 1 (5 + p) (imin 99 (tx4 (t + 1) p + w))) (fun i => up_nc (by omega)) (up_nc (by omega)) (up_nc (by omega)) (up_nj (by omega)) (fun i _ => up_nj (by omega))
    have h6 := (h5.wrote 1 (nI m) (tx 48 (12 * p + a))).take rb5
    have kx : up tx4 (t + 1) p (imin 99 (tx4 (t + 1) p + w)) 2 6 = nI k := by
      rw [up_nc (by omega), d3 _ _ (by decide) (by decide), up_nc (by omega)]; exact k2
    have e6 : ∀ o j, 2 ≤ o → o ≤ 12 → o ≠ 3 → wrR rl (up tx4 (t + 1) p (imin 99 (tx4 (t + 1) p + w))) 1 (nI m) (tx 48 (12 * p + a)) (t + o) j = tx (t + o) j := fun o j o1 o2 o3 => by
      rw [wrR_ne (by omega) (by omega), up_nc (by omega), e4 o j (by omega) o2 o3]
    obtain ⟨tx7, tm7, f1, f2, h7, f3, f4, f5⟩ := o_read (F := F) h6 hT hm hp (by rw [e6 8 m (by decide) (by decide) (by decide)]; exact hat) (tx 48 (12 * p + a))
    obtain ⟨c1, c2, c3⟩ := o_shown (F := F) h7 hm (by rw [f4, e6 11 m (by decide) (by decide) (by decide)]; exact hs) (by omega) 1
    have hx2 : (ald tx2 (t + 3) 10 (nI p) fun v21 => ast tx2 (t + 3) 10 (nI p) (v21 + 1) fun τ22 => cal (X0_ask F t (nI m) 2 τ22) fun r23 τ24 => cal (X0_addTrust F t (nI p) r23 τ24) fun _ τ26 => if bR rl = 0 then X0_showThing_j100 F t (nI m) (bR rl) (tx 48 (12 * p + a)) τ26 else cal (X9_write F 1 1 (nI m) (tx 48 (12 * p + a)) τ26) fun _ τ30 => X0_showThing_j100 F t (nI m) (bR rl) (tx 48 (12 * p + a)) τ30) =
        X0_showThing_j100 F t (nI m) (bR rl) (tx 48 (12 * p + a)) (wrR rl (up tx4 (t + 1) p (imin 99 (tx4 (t + 1) p + w))) 1 (nI m) (tx 48 (12 * p + a))) := by
      rw [ald_nI (by omega) (by omega), ast_nI (by omega) (by omega), d1, cal_some]
      unfold X0_addTrust
      rw [X8_hasPower_in h4.xP hp hP, cal_some, if_neg (by decide), ald_nI (by omega) (by omega), ast_nI (by omega) (by omega), cal_some]
      exact X_wr (fun τ => X0_showThing_j100 F t (nI m) (bR rl) (tx 48 (12 * p + a)) τ) kx k1
    have hm2 : X11_isNoddedAt_j41 F (nI m) (nI a) (nI p) (tx 48 (12 * p + a)) 1 1 tm2 = X11_isNoddedAt_j126 F (nI m) 1 tm7 := by
      unfold X11_isNoddedAt_j41
      rw [M_nt k3 k1 i2, cal_some, htmn, if_neg (by decide), litA, ald_nI (by omega) (by omega), n2'.R.nods (show p < 10 by omega), ast_nI (by omega) (by omega), litA, ald_nI (by omega) (by omega), d2, cal_some, X11_lesser_eq, cal_some, ast_nI (by omega) (by omega)]
      have et : up tmn 1 (25 + p) (tx2 (t + 3) p + 1) 1 (5 + p) = tx4 (t + 1) p := by
        rw [h3.R.trust (show p < 10 by omega)]
        exact (d3 _ _ (by omega) (by omega)).symm
      rw [et]
      have e7 : St t rl true T nP nM q tx0 tm0 (wrR rl (up tx4 (t + 1) p (imin 99 (tx4 (t + 1) p + w))) 1 (nI m) (tx 48 (12 * p + a))) (up tm4 1 (5 + p) (imin 99 (tx4 (t + 1) p + w))) := h6
      rw [f2, cal_some]
    rw [hx2, hm2]
    unfold X0_showThing_j100
    rw [f1, cal_some, c1, c2, nar1]
    refine ⟨1, _, _, .inr rfl, rfl, rfl, c3, ?_, (Mo.of fun j => e6 4 j (by decide) (by decide) (by decide)).trans (f5.trans (Mo.of fun j => up_nc (by omega)))⟩
    refine (smN_inc (p := p) (by omega) (f := tx (t + 3)) ?_ (fun j hj => ?_))
    · rw [up_nc (by omega), f3, wrR_ne (by omega) (by omega), up_nc (by omega), d3 _ _ (by omega) (by omega), up_c, e1 3 p (by decide) (by decide)]
    · rw [up_nc (by omega), f3, wrR_ne (by omega) (by omega), up_nc (by omega), d3 _ _ (by omega) (by omega), up_nj hj, e1 3 j (by decide) (by decide)]
end Pa
