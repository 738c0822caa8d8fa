/-! PURE PART. Asking THE LAW of someone, in both -/
def ScX (tx tx' : Tau) : Prop := ∀ c j, c ≠ 45 → c ≠ 212 → tx' c j = tx c j
def ScM (tm tm' : Tau) : Prop := ∀ c j, c ≠ 9 → c ≠ 10 → tm' c j = tm c j
theorem ScX.trans {a b c : Tau} (h : ScX a b) (g : ScX b c) : ScX a c := fun k j h1 h2 => by rw [g k j h1 h2, h k j h1 h2]
theorem ScM.trans {a b c : Tau} (h : ScM a b) (g : ScM b c) : ScM a c := fun k j h1 h2 => by rw [g k j h1 h2, h k j h1 h2]
section As
variable {t T nP nM : Nat} {rl bk : Bool} {q : Nat → Nat} {tx0 tm0 tx tm tx' tm' : Tau} {F m : Nat}
theorem St.scr (h : St t rl bk T nP nM q tx0 tm0 tx tm) (hx : ScX tx tx') (hm : ScM tm tm') : St t rl bk T nP nM q tx0 tm0 tx' tm' := by
  obtain ⟨⟨a1, a2, a3, a4, a5, a6, a7⟩, b, w, d, f, g, i⟩ := h
  have ht : t = 2 ∨ t = 103 := f.1
  have em : tm' 1 = tm 1 := funext fun j => hm 1 j (by decide) (by decide)
  refine ⟨⟨?_, ?_, ?_, ?_, ?_, a6, a7⟩, ?_, ?_, ?_, ⟨f.1, f.2.1, fun hr => ?_⟩, ?_, ?_⟩
  · intro k hk h4
    have := (sl_inv k hk).2.1
    rw [em, hx _ _ (by omega) (by omega)]; exact a1 k hk h4
  · rw [hx _ _ (by omega) (by omega)]; exact a2
  · rw [hx _ _ (by omega) (by omega)]; exact a3
  · rw [em]; exact a4
  · rw [em]; exact a5
  · rw [em]; exact b
  · rw [em]
    unfold Wd at w ⊢
    rw [vX_congr (tx := tx) (fun c j hc _ => hx _ _ (by omega) (by omega))]
    exact w
  · rw [hm _ _ (by decide) (by decide)]; exact d
  · obtain ⟨k, k1, k2, k3, k4⟩ := f.2.2 hr
    exact ⟨k, k1, by rw [hx _ _ (by decide) (by decide)]; exact k2, by rw [em]; exact k3, fun i hi => by rw [em, hx _ _ (by decide) (by decide)]; exact k4 i hi⟩
  · intro c j h1 h45 h212 h46
    rw [hx c j h45 h212]; exact g c j h1 h45 h212 h46
  · refine ⟨fun c j h1 h9 h10 => ?_, fun k hk => ?_⟩
    · rw [hm c j h9 h10]; exact i.1 c j h1 h9 h10
    · rw [em]; exact i.2 k hk
/-- the law after the facts are gathered -/
theorem told_eq (hF : 400 < F) (h : St t rl bk T nP nM q tx0 tm0 tx tm) (v : Nat → Int32) (wd : Nat) (hwd : wd < 3) (oth most : Int32) :
    ∃ r tx' tm', X2_tell F 39 212 (nI wd) oth (gF 212 0 tx v) = some (r, tx') ∧ X11_lawSays F (nI (20 + wd)) oth most (gF 10 1 tm v) = some (imax 0 (imin most r), tm') ∧ ScX tx tx' ∧ ScM tm tm' := by
  have g1 : ScX tx (gF 212 0 tx v) := fun c j _ h2 => gF_ne h2
  have g2 : ScM tm (gF 10 1 tm v) := fun c j _ h2 => gF_ne h2
  have h' := h.scr g1 g2
  obtain ⟨ops, nL, hL⟩ := Wd_law h'.W (f := v) (fun k hk => by have := gF_at (c := 212) (b := 0) (τ := tx) (v := v) hk; rw [Nat.zero_add] at this; exact this) (fun k hk => by have := gF_at (c := 10) (b := 1) (τ := tm) (v := v) hk; rw [Nat.add_comm] at this; exact this)
  have hn : nL ≤ 16 := hL.2.2.2.2.2.2.1
  obtain ⟨r, tx', tm', e1, e2, e3, e4⟩ := tell_eq (F := F) hF hwd oth most nL 0 (by omega) F F (by omega) (by omega) _ _ hL
  refine ⟨r, tx', tm', e1, e2, fun c j h1 h2 => by rw [e3 c j h1]; exact gF_ne h2, fun c j h1 h2 => by rw [e4 c j h1]; exact gF_ne h2⟩
theorem St.atp (h : St t rl bk T nP nM q tx0 tm0 tx tm) (hm : m < nM) : ∃ p, tx (t + 8) m = vo p ∧ tm 1 (87 + m) = vo p ∧ ∀ a, p = some a → a < nP := by
  have hR := h.R.at_ (show m < 14 by have := h.lt; omega)
  rcases h.atv hm with e | ⟨p, hp, e⟩
  · exact ⟨none, e, hR.trans e, fun a z => by cases z⟩
  · exact ⟨some p, e, hR.trans e, fun a z => by cases z; exact hp⟩
theorem ask_cries (hF : 400 < F) (h : St t rl bk T nP nM q tx0 tm0 tx tm) (hm : m < nM) :
    ∃ r tx' tm', X0_ask F t (nI m) 1 tx = some (r, tx') ∧ X11_criesOf F (nI m) tm = some (r, tm') ∧ ScX tx tx' ∧ ScM tm tm' := by
  obtain ⟨hP, hM⟩ := h.lt
  obtain ⟨p, hpx, hpm, hpb⟩ := h.atp hm
  have e1 := X_gather (F := F) h hm (p := p) (th := none) hpx hpb (fun a z => by cases z) (fun z => absurd rfl z)
  have e2 := M_asks (F := F) (τ := tm) (show m < 14 by omega) (p := p) (th := none) hpm (fun a z => by have := hpb a z; omega) (fun a z => by cases z) (fun z => absurd rfl z)
  have f2 : gF 212 0 tx (facV (tm 1) m p none) 212 2 = tm 1 (73 + m) := gF_at (b := 0) (k := 2) (by decide)
  have f1 : gF 212 0 tx (facV (tm 1) m p none) 212 1 = tm 1 (59 + m) := gF_at (b := 0) (k := 1) (by decide)
  have k2 : gF 10 1 tm (facV (tm 1) m p none) 1 (73 + m) = tm 1 (73 + m) := gF_ne (by decide)
  have k1 : gF 10 1 tm (facV (tm 1) m p none) 1 (59 + m) = tm 1 (59 + m) := gF_ne (by decide)
  have l2 : ∀ (σ : Tau) (k : Int32 → Option (Int32 × Tau)), ald σ 212 10 2 k = k (σ 212 2) := fun σ k => ald_nI (j := 2) (by decide) (by decide)
  have l1 : ∀ (σ : Tau) (k : Int32 → Option (Int32 × Tau)), ald σ 212 10 1 k = k (σ 212 1) := fun σ k => ald_nI (j := 1) (by decide) (by decide)
  have hx : ∀ o : Int32, (X0_ask_j90 F t 1 o (gF 212 0 tx (facV (tm 1) m p none)) = cal (X2_tell F 39 212 (nI 1) o (gF 212 0 tx (facV (tm 1) m p none))) fun r7 τ8 => some (imax 0 (imin 1000 r7), τ8)) := by
    intro o
    unfold X0_ask_j90 X0_ask_j123
    rfl
  unfold X0_ask X11_criesOf X0_ask_j27 X0_ask_j88 X11_criesOf_j38
  rw [X8_hasMute_in h.xM hm hM, cal_some, if_neg (by decide), if_pos rfl]
  show ∃ r tx' tm', (cal (X0_gather F t (nI m) (vo none) tx) _) = _ ∧ (cal (X11_asks F (nI m) (vo none) tm) _) = _ ∧ _
  rw [e1, e2, cal_some, cal_some, if_neg (by decide), if_pos rfl, l2, f2, litA, ald_nI (by omega) (by omega), litA, k2]
  by_cases hf : tm 1 (73 + m) = 1
  · rw [if_pos hf, if_pos hf, l1, f1, ald_nI (by omega) (by omega), k1, hx]
    obtain ⟨r, tx', tm', q1, q2, q3, q4⟩ := told_eq (F := F) hF h (facV (tm 1) m p none) 1 (by decide) (50 * tm 1 (59 + m)) 1000
    rw [q1, cal_some]
    refine ⟨_, tx', tm', rfl, ?_, q3, q4⟩
    show cal (X11_lawSays F (nI (20 + 1)) _ 1000 _) _ = _
    rw [q2, cal_some]
  · rw [if_neg hf, if_neg hf, hx]
    obtain ⟨r, tx', tm', q1, q2, q3, q4⟩ := told_eq (F := F) hF h (facV (tm 1) m p none) 1 (by decide) 0 1000
    rw [q1, cal_some]
    refine ⟨_, tx', tm', rfl, ?_, q3, q4⟩
    show cal (X11_lawSays F (nI (20 + 1)) _ 1000 _) _ = _
    rw [q2, cal_some]
theorem ask_nods (hF : 400 < F) (h : St t rl bk T nP nM q tx0 tm0 tx tm) (hm : m < nM) {p a : Nat} (hp : tx (t + 8) m = nI p) (hpn : p < nP) (ha : a < 12) (hn : X8_nextThing F t (nI m) tx = some (nI a, tx)) :
    ∃ r tx' tm', X0_ask F t (nI m) 0 tx = some (r, tx') ∧ X11_nodsOf F (nI m) (nI a) tm = some (r, tm') ∧ ScX tx tx' ∧ ScM tm tm' := by
  obtain ⟨hP, hM⟩ := h.lt
  have hpm := h.R.at_ (show m < 14 by omega)
  rw [hp] at hpm
  have e1 := X_gather (F := F) h hm (p := some p) (th := some a) hp (fun b z => by cases z; exact hpn) (fun b z => by cases z; exact ha) (fun _ z => by cases z)
  have e2 := M_asks (F := F) (τ := tm) (show m < 14 by omega) (p := some p) (th := some a) hpm (fun b z => by cases z; omega) (fun b z => by cases z; exact ha) (fun _ z => by cases z)
  have f0 : gF 212 0 tx (facV (tm 1) m (some p) (some a)) 212 0 = tm 1 (45 + m) := gF_at (b := 0) (k := 0) (by decide)
  have f3 : gF 212 0 tx (facV (tm 1) m (some p) (some a)) 212 3 = tm 1 (5 + p) := gF_at (b := 0) (k := 3) (by decide)
  have k2 : ∀ j, gF 10 1 tm (facV (tm 1) m (some p) (some a)) 1 j = tm 1 j := fun j => gF_ne (by decide)
  have l0 : ∀ (σ : Tau) (k : Int32 → Option (Int32 × Tau)), ald σ 212 10 0 k = k (σ 212 0) := fun σ k => ald_nI (j := 0) (by decide) (by decide)
  have l3 : ∀ (σ : Tau) (k : Int32 → Option (Int32 × Tau)), ald σ 212 10 3 k = k (σ 212 3) := fun σ k => ald_nI (j := 3) (by decide) (by decide)
  unfold X0_ask X11_nodsOf X0_ask_j27
  rw [X8_hasMute_in h.xM hm hM, cal_some, if_neg (by decide), if_neg (by decide), hn, cal_some]
  show ∃ r tx' tm', (cal (X0_gather F t (nI m) (vo (some a)) tx) _) = _ ∧ (cal (X11_asks F (nI m) (vo (some a)) tm) _) = _ ∧ _
  rw [e1, e2, cal_some, cal_some, if_pos rfl, l0, l3, f0, f3, litA, ald_nI (by omega) (by omega), litA, ald_nI (by omega) (by omega), k2, k2, hpm, litA, ald_nI (by omega) (by omega), k2]
  obtain ⟨r, tx', tm', q1, q2, q3, q4⟩ := told_eq (F := F) hF h (facV (tm 1) m (some p) (some a)) 0 (by decide) (60 * tm 1 (45 + m) + 5 * tm 1 (5 + p)) 1000
  refine ⟨imax 0 (imin 1000 r), tx', tm', ?_, ?_, q3, q4⟩
  · unfold X0_ask_j90 X0_ask_j123
    show cal (X2_tell F 39 212 (nI 0) _ _) _ = _
    rw [q1, cal_some, if_neg (by decide)]
  · show cal (X11_lawSays F (nI (20 + 0)) _ 1000 _) _ = _
    rw [q2, cal_some]
theorem ask_wins (hF : 400 < F) (h : St t rl bk T nP nM q tx0 tm0 tx tm) (hm : m < nM) {p a : Nat} (hp : tx (t + 8) m = nI p) (hpn : p < nP) (ha : a < 12) (hn : X8_nextThing F t (nI m) tx = some (nI a, tx)) :
    ∃ r tx' tm', X0_ask F t (nI m) 2 tx = some (r, tx') ∧ X11_winsOf F (nI m) (nI a) tm = some (r, tm') ∧ ScX tx tx' ∧ ScM tm tm' := by
  obtain ⟨hP, hM⟩ := h.lt
  have hpm := h.R.at_ (show m < 14 by omega)
  rw [hp] at hpm
  have e1 := X_gather (F := F) h hm (p := some p) (th := some a) hp (fun b z => by cases z; exact hpn) (fun b z => by cases z; exact ha) (fun _ z => by cases z)
  have e2 := M_asks (F := F) (τ := tm) (show m < 14 by omega) (p := some p) (th := some a) hpm (fun b z => by cases z; omega) (fun b z => by cases z; exact ha) (fun _ z => by cases z)
  unfold X0_ask X11_winsOf X0_ask_j27
  rw [X8_hasMute_in h.xM hm hM, cal_some, if_neg (by decide), if_neg (by decide), hn, cal_some]
  show ∃ r tx' tm', (cal (X0_gather F t (nI m) (vo (some a)) tx) _) = _ ∧ (cal (X11_asks F (nI m) (vo (some a)) tm) _) = _ ∧ _
  rw [e1, e2, cal_some, cal_some, if_neg (by decide), if_neg (by decide)]
  obtain ⟨r, tx', tm', q1, q2, q3, q4⟩ := told_eq (F := F) hF h (facV (tm 1) m (some p) (some a)) 2 (by decide) 1 99
  refine ⟨imax 0 (imin 99 r), tx', tm', ?_, ?_, q3, q4⟩
  · unfold X0_ask_j90 X0_ask_j123
    show cal (X2_tell F 39 212 (nI 2) _ _) _ = _
    rw [q1, cal_some, if_pos rfl]
  · show cal (X11_lawSays F (nI (20 + 2)) _ 99 _) _ = _
    rw [q2, cal_some]
end As
