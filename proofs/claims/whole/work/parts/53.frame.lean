/-! PURE PART. The state of a day: frames, helpers of the class -/
def RB (tx tm : Tau) : Prop := ∃ k, k ≤ 150 ∧ tx 2 6 = nI k ∧ tm 1 4 = nI k ∧ ∀ i, i < 600 → tm 1 (760 + i) = tx 46 i
def FX (t : Nat) (rl : Bool) (tx tx' : Tau) : Prop := ∀ c j, (c < t ∨ t + 12 < c ∨ (c = t ∧ (j < 2 ∨ (j = 6 ∧ rl = false)))) → c ≠ 45 → c ≠ 212 → (c ≠ 46 ∨ rl = false) → tx' c j = tx c j
def FM (rl : Bool) (tm tm' : Tau) : Prop := (∀ c j, c ≠ 1 → c ≠ 9 → c ≠ 10 → tm' c j = tm c j) ∧ (∀ k, (255 ≤ k ∧ (k < 760 ∨ 1360 ≤ k ∨ rl = false)) ∨ (k = 4 ∧ rl = false) → tm' 1 k = tm 1 k)
def bR (rl : Bool) : Int32 := if rl = true then 1 else 0
/-- the state within a day: the town at t, as the reference's row; tx0, tm0: where it began -/
def St (t : Nat) (rl bk : Bool) (T nP nM : Nat) (q : Nat → Nat) (tx0 tm0 tx tm : Tau) : Prop :=
  (Tw t tx tm ∧ tx t 0 = nI nP ∧ tx t 1 = nI nM ∧ tm 1 255 = nI nP ∧ tm 1 256 = nI nM ∧ nP ≤ 10 ∧ nM ≤ 14) ∧ Val T nP nM q (tm 1) ∧ Wd nP nM q 1 tx (tm 1) ∧ tm 0 26 = bR rl ∧ ((t = 2 ∨ t = 103) ∧ (rl = true → t = 2) ∧ (bk = true → RB tx tm)) ∧ FX t rl tx0 tx ∧ FM rl tm0 tm
section Fr
variable {t T nP nM : Nat} {rl bk : Bool} {q : Nat → Nat} {tx0 tm0 tx tm : Tau}
theorem Wd_up {b c j k : Nat} {v v' : Int32} {w : Nat → Int32} (h : Wd nP nM q b tx w) (hc : c < b + 15 ∨ b + 50 < c ∨ (b + 43 < c ∧ c < b + 46)) (hk : k < 257 ∨ (760 ≤ k ∧ k < 1360) ∨ 2244 ≤ k) : Wd nP nM q b (up tx c j v) (upd w k v') := by
  unfold Wd
  rw [vX_up hc, vM_upd hk]
  exact h
theorem Wd_upX {b c j : Nat} {v : Int32} {w : Nat → Int32} (h : Wd nP nM q b tx w) (hc : c < b + 15 ∨ b + 50 < c ∨ (b + 43 < c ∧ c < b + 46)) : Wd nP nM q b (up tx c j v) w := by
  unfold Wd
  rw [vX_up hc]
  exact h
theorem Wd_upM {b k : Nat} {v' : Int32} {w : Nat → Int32} (h : Wd nP nM q b tx w) (hk : k < 257 ∨ (760 ≤ k ∧ k < 1360) ∨ 2244 ≤ k) : Wd nP nM q b tx (upd w k v') := by
  unfold Wd
  rw [vM_upd hk]
  exact h
theorem RB.upX {c j : Nat} {v : Int32} (h : RB tx tm) (hc : ¬ (c = 2 ∧ j = 6) ∧ c ≠ 46) : RB (up tx c j v) tm := by
  obtain ⟨k, h1, h2, h3, h4⟩ := h
  refine ⟨k, h1, ?_, h3, fun i hi => ?_⟩
  · rw [up_if, if_neg (fun z => hc.1 ⟨z.1.symm, z.2.symm⟩)]; exact h2
  · rw [up_nc (Ne.symm hc.2)]; exact h4 i hi
theorem RB.upM {c k : Nat} {v : Int32} (h : RB tx tm) (hc : c ≠ 1 ∨ (k ≠ 4 ∧ (k < 760 ∨ 1360 ≤ k))) : RB tx (up tm c k v) := by
  obtain ⟨n, h1, h2, h3, h4⟩ := h
  refine ⟨n, h1, h2, ?_, fun i hi => ?_⟩
  · rw [up_if, if_neg (fun z => by omega)]; exact h3
  · rw [up_if, if_neg (fun z => by omega)]; exact h4 i hi
/-- a slot of the town changes alike -/
theorem St.chg (h : St t rl bk T nP nM q tx0 tm0 tx tm) {o j k : Nat} {v : Int32} (hk : k < 255 ∧ k ≠ 4) (e : slo k = o ∧ sli k = j) (hv : Val T nP nM q (upd (tm 1) k v)) : St t rl bk T nP nM q tx0 tm0 (up tx (t + o) j v) (up tm 1 k v) := by
  obtain ⟨⟨a1, a2, a3, a4, a5, a6, a7⟩, b, c, d, f, g, i⟩ := h
  obtain ⟨s1, s2, s3, s4⟩ := sl_inv k hk.1
  rw [e.1] at s1 s2 s3 s4
  rw [e.2] at s1 s3 s4
  have hj : o = 0 → j ≠ 6 := by
    intro ho hj
    rw [ho, hj] at s1
    exact hk.2 s1.symm
  refine ⟨⟨a1.chg v hk.1 e, ?_, ?_, ?_, ?_, a6, a7⟩, ?_, ?_, ?_, ⟨f.1, f.2.1, fun hr => ?_⟩, ?_, ?_⟩
  · rw [up_if, if_neg (fun z => by have := s4 (by omega); omega)]; exact a2
  · rw [up_if, if_neg (fun z => by have := s4 (by omega); omega)]; exact a3
  · rw [up_nj (by omega)]; exact a4
  · rw [up_nj (by omega)]; exact a5
  · rw [up_eq]; exact hv
  · rw [up_eq]; exact Wd_up c (by omega) (by omega)
  · rw [up_nc (by omega)]; exact d
  · have ht := f.1
    refine ((f.2.2 hr).upX ⟨fun z => ?_, by omega⟩).upM (by omega)
    exact hj (by omega) z.2
  · intro c' j' hc h45 h212 h46
    rw [up_if, if_neg]
    · exact g c' j' hc h45 h212 h46
    · rintro ⟨e1, e2⟩
      rcases hc with hc | hc | ⟨hc, hq⟩
      · omega
      · omega
      · have := s4 (by omega)
        have := hj (by omega)
        omega
  · refine ⟨fun c' j' h1 h9 h10 => ?_, fun k' hk' => ?_⟩
    · rw [up_nc h1]; exact i.1 c' j' h1 h9 h10
    · rw [up_nj (by omega)]; exact i.2 k' hk'
/-- scratch cells -/
theorem St.scX (h : St t rl bk T nP nM q tx0 tm0 tx tm) {c j : Nat} {v : Int32} (hc : c = 45 ∨ c = 212) : St t rl bk T nP nM q tx0 tm0 (up tx c j v) tm := by
  obtain ⟨⟨a1, a2, a3, a4, a5, a6, a7⟩, b, w, d, f, g, i⟩ := h
  have ht : t = 2 ∨ t = 103 := f.1
  refine ⟨⟨a1.upX (by omega), ?_, ?_, a4, a5, a6, a7⟩, b, Wd_upX w (by omega), d, ⟨f.1, f.2.1, fun hr => (f.2.2 hr).upX (by omega)⟩, ?_, i⟩
  · rw [up_nc (by omega)]; exact a2
  · rw [up_nc (by omega)]; exact a3
  · intro c' j' h1 h45 h212 h46
    rw [up_nc (by omega)]; exact g c' j' h1 h45 h212 h46
theorem St.scM (h : St t rl bk T nP nM q tx0 tm0 tx tm) {c j : Nat} {v : Int32} (hc : c = 9 ∨ c = 10) : St t rl bk T nP nM q tx0 tm0 tx (up tm c j v) := by
  obtain ⟨⟨a1, a2, a3, a4, a5, a6, a7⟩, b, w, d, f, g, i⟩ := h
  have e1 : up tm c j v 1 = tm 1 := up_ne (by omega)
  refine ⟨⟨a1.upM (by omega), a2, a3, ?_, ?_, a6, a7⟩, ?_, ?_, ?_, ⟨f.1, f.2.1, fun hr => (f.2.2 hr).upM (by omega)⟩, g, ?_⟩
  · rw [e1]; exact a4
  · rw [e1]; exact a5
  · rw [e1]; exact b
  · rw [e1]; exact w
  · rw [up_nc (by omega)]; exact d
  · refine ⟨fun c' j' h1 h9 h10 => ?_, fun k' hk' => ?_⟩
    · rw [up_nc (by omega)]; exact i.1 c' j' h1 h9 h10
    · rw [e1]; exact i.2 k' hk'
theorem St.lt (h : St t rl bk T nP nM q tx0 tm0 tx tm) : nP ≤ 10 ∧ nM ≤ 14 := ⟨h.1.2.2.2.2.2.1, h.1.2.2.2.2.2.2⟩
theorem St.R (h : St t rl bk T nP nM q tx0 tm0 tx tm) : Tw t tx tm := h.1.1
theorem St.xP (h : St t rl bk T nP nM q tx0 tm0 tx tm) : tx t 0 = nI nP := h.1.2.1
theorem St.xM (h : St t rl bk T nP nM q tx0 tm0 tx tm) : tx t 1 = nI nM := h.1.2.2.1
theorem St.mP (h : St t rl bk T nP nM q tx0 tm0 tx tm) : tm 1 255 = nI nP := h.1.2.2.2.1
theorem St.mM (h : St t rl bk T nP nM q tx0 tm0 tx tm) : tm 1 256 = nI nM := h.1.2.2.2.2.1
theorem St.V (h : St t rl bk T nP nM q tx0 tm0 tx tm) : Val T nP nM q (tm 1) := h.2.1
theorem St.W (h : St t rl bk T nP nM q tx0 tm0 tx tm) : Wd nP nM q 1 tx (tm 1) := h.2.2.1
theorem St.is (h : St t rl bk T nP nM q tx0 tm0 tx tm) : tm 0 26 = bR rl := h.2.2.2.1
/-- where someone is, in both -/
theorem St.atv (h : St t rl bk T nP nM q tx0 tm0 tx tm) {m : Nat} (hm : m < nM) : tx (t + 8) m = -1 ∨ ∃ p, p < nP ∧ tx (t + 8) m = nI p := by
  rw [← h.R.at_ (by have := h.lt; omega)]; exact h.V.1 m hm
theorem St.carv (h : St t rl bk T nP nM q tx0 tm0 tx tm) {m : Nat} (hm : m < nM) : ∃ c, c ≤ 8 ∧ tx (t + 10) m = nI c := by
  rw [← h.R.many (by have := h.lt; omega)]; exact h.V.2.1 m hm
theorem St.shov (h : St t rl bk T nP nM q tx0 tm0 tx tm) {m : Nat} (hm : m < nM) : ∃ c, c ≤ 8 ∧ tx (t + 11) m = nI c := by
  rw [← h.R.shown (by have := h.lt; omega)]; exact h.V.2.2.1 m hm
theorem St.thiv (h : St t rl bk T nP nM q tx0 tm0 tx tm) {k : Nat} (hk : k < 112) : ∃ c, c < 12 ∧ tx (t + 12) k = nI c := by
  rw [← h.R.thing hk]; exact h.V.2.2.2.1 k hk
theorem St.stev (h : St t rl bk T nP nM q tx0 tm0 tx tm) {p : Nat} (hp : p < 10) : ∃ s, s ≤ 6 ∧ tx (t + 2) p = nI s ∧ (s = 0 ∨ s < q p) := by
  rw [← h.R.step hp]; exact h.V.2.2.2.2.2.1 p hp
theorem St.trev (h : St t rl bk T nP nM q tx0 tm0 tx tm) {p : Nat} (hp : p < 10) : ∃ z, z ≤ T ∧ tx (t + 4) p = nI z := by
  rw [← h.R.treaty hp]; exact h.V.2.2.2.2.2.2.1 p hp
end Fr
/-! helpers of the class -/
theorem nI_has {m n : Nat} (h : m < n) (hn : n < 2 ^ 31) : 0 ≤ nI m ∧ nI m < nI n := ⟨nI_pos' (by omega), nI_lt h hn⟩
theorem bnd_le {a : Int32} {n N : Nat} (h : a < nI n) (h2 : n ≤ N) (hN : N < 100000) : ¬ (nI N ≤ a) := by
  intro z
  have e1 := Int32.lt_iff_toInt_lt.mp h
  have e2 := Int32.le_iff_toInt_le.mp z
  rw [nI_toInt (by omega)] at e1 e2
  omega
theorem X8_hasMute_eq {F t n : Nat} {a : Int32} {τ : Tau} (hn : τ t 1 = nI n) (h14 : n ≤ 14) : X8_hasMute F t a τ = some (bI (0 ≤ a ∧ a < nI n), τ) := by
  unfold X8_hasMute
  rw [hn]
  by_cases h1 : a < 0
  · rw [if_pos h1, bI_f (fun z => i32_nle.mpr h1 z.1)]
  · rw [if_neg h1]
    by_cases h2 : nI n ≤ a
    · rw [if_pos h2, bI_f (fun z => i32_nle.mpr z.2 h2)]
    · rw [if_neg h2, if_neg (show ¬ (14 : Int32) ≤ a from bnd_le (N := 14) (i32_nle.mp h2) h14 (by decide)), bI_t ⟨i32_nlt.mp h1, i32_nle.mp h2⟩]
theorem X8_hasPower_eq {F t n : Nat} {a : Int32} {τ : Tau} (hn : τ t 0 = nI n) (h10 : n ≤ 10) : X8_hasPower F t a τ = some (bI (0 ≤ a ∧ a < nI n), τ) := by
  unfold X8_hasPower
  rw [hn]
  by_cases h1 : a < 0
  · rw [if_pos h1, bI_f (fun z => i32_nle.mpr h1 z.1)]
  · rw [if_neg h1]
    by_cases h2 : nI n ≤ a
    · rw [if_pos h2, bI_f (fun z => i32_nle.mpr z.2 h2)]
    · rw [if_neg h2, if_neg (show ¬ (10 : Int32) ≤ a from bnd_le (N := 10) (i32_nle.mp h2) h10 (by decide)), bI_t ⟨i32_nlt.mp h1, i32_nle.mp h2⟩]
theorem X8_hasMute_out {F t n : Nat} {a : Int32} {τ : Tau} (hn : τ t 1 = nI n) (h : ¬ (0 ≤ a ∧ a < nI n)) : X8_hasMute F t a τ = some (0, τ) := by
  unfold X8_hasMute
  rw [hn]
  by_cases h1 : a < 0
  · rw [if_pos h1]
  · rw [if_neg h1]
    by_cases h2 : nI n ≤ a
    · rw [if_pos h2]
    · exact absurd ⟨i32_nlt.mp h1, i32_nle.mp h2⟩ h
theorem X8_hasMute_in {F t m n : Nat} {τ : Tau} (hn : τ t 1 = nI n) (h : m < n) (h2 : n ≤ 14) : X8_hasMute F t (nI m) τ = some (1, τ) := by
  rw [X8_hasMute_eq hn h2, bI_t (nI_has h (by omega))]
theorem X8_hasPower_in {F t m n : Nat} {τ : Tau} (hn : τ t 0 = nI n) (h : m < n) (h2 : n ≤ 10) : X8_hasPower F t (nI m) τ = some (1, τ) := by
  rw [X8_hasPower_eq hn h2, bI_t (nI_has h (by omega))]
theorem X8_isHome_in {F t m n : Nat} {τ : Tau} (hn : τ t 1 = nI n) (h : m < n) (h2 : n ≤ 14) : X8_isHome F t (nI m) τ = some (bI (τ (t + 8) m = -1), τ) := by
  unfold X8_isHome
  rw [X8_hasMute_in hn h h2, cal_some, if_neg (by decide), ald_nI (by omega) (by omega)]
  by_cases e : τ (t + 8) m = -1
  · rw [if_pos e, bI_t e]
  · rw [if_neg e, bI_f e]
theorem X8_isAway_in {F t m n : Nat} {τ : Tau} (hn : τ t 1 = nI n) (h : m < n) (h2 : n ≤ 14) : X8_isAway F t (nI m) τ = some (bI (τ (t + 8) m ≠ -1), τ) := by
  unfold X8_isAway
  rw [X8_hasMute_in hn h h2, cal_some, if_neg (by decide), ald_nI (by omega) (by omega)]
  by_cases e : τ (t + 8) m = -1
  · rw [if_pos e, bI_f (fun z => z e)]
  · rw [if_neg e, bI_t e]
theorem X8_thingOf_in {F t m n c s : Nat} {τ : Tau} (hn : τ t 1 = nI n) (h : m < n) (h2 : n ≤ 14) (hc : τ (t + 10) m = nI c) (hc8 : c ≤ 8) (hs : s < 2 ^ 31) : X8_thingOf F t (nI m) (nI s) τ = some (if s < c then τ (t + 12) (8 * m + s) else -1, τ) := by
  unfold X8_thingOf X8_thingOf_j32 X8_thingOf_j33
  rw [X8_hasMute_in hn h h2, cal_some, if_neg (by decide)]
  by_cases h7 : s ≤ 7
  · rw [within_in ⟨by omega, h7⟩ (by decide), cal_some, if_neg (by decide), ald_nI (by omega) (by omega), hc]
    by_cases e : s < c
    · rw [if_neg (nI_ge e (by omega)), if_neg (by decide), if_pos e, litM, nI_add, ald_nI (by omega) (by omega)]
    · rw [if_pos (nI_le (by omega) (by omega)), if_neg e, if_pos rfl]
  · rw [within_out (.inr (by omega)) (by omega) (by decide) (by decide), cal_some, if_pos rfl, if_pos rfl, if_neg (by omega)]
theorem X8_nextThing_in {F t m n c s : Nat} {τ : Tau} (hn : τ t 1 = nI n) (h : m < n) (h2 : n ≤ 14) (hc : τ (t + 10) m = nI c) (hc8 : c ≤ 8) (hs : τ (t + 11) m = nI s) (hs8 : s ≤ 8) : X8_nextThing F t (nI m) τ = some (if s < c then τ (t + 12) (8 * m + s) else -1, τ) := by
  unfold X8_nextThing
  rw [X8_hasMute_in hn h h2, cal_some, if_neg (by decide), ald_nI (by omega) (by omega), hs, X8_thingOf_in hn h h2 hc hc8 (by omega), cal_some]
theorem X11_nextThing_in {F m c s : Nat} {τ : Tau} (h : m < 14) (hc : τ 1 (115 + m) = nI c) (hc8 : c ≤ 8) (hs : τ 1 (129 + m) = nI s) (hs8 : s ≤ 8) : X11_nextThing F (nI m) τ = some (if s < c then τ 1 (143 + (8 * m + s)) else -1, τ) := by
  unfold X11_nextThing
  rw [litA, ald_nI (by omega) (by omega), litA, ald_nI (by omega) (by omega), hs, hc]
  by_cases e : s < c
  · rw [if_neg (nI_ge e (by omega)), if_pos e, ald_nI (by omega) (by omega), hs, litM, litA, nI_add, ald_nI (by omega) (by omega), Nat.add_assoc]
  · rw [if_pos (nI_le (by omega) (by omega)), if_neg e]
/-! THE BOOK -/
def wrX (τ : Tau) (a b c : Int32) : Tau := if 150 ≤ τ 2 6 then τ else
  up (up (up (up (up τ 46 (4 * ix (τ 2 6)) (τ 2 4)) 46 (4 * ix (τ 2 6) + 1) a) 46 (4 * ix (τ 2 6) + 2) b) 46 (4 * ix (τ 2 6) + 3) c) 2 6 (τ 2 6 + 1)
def ntM (τ : Tau) (a b c : Int32) : Tau := if 150 ≤ τ 1 4 then τ else
  up (up (up (up (up τ 1 (760 + 4 * ix (τ 1 4)) (τ 1 2)) 1 (760 + 4 * ix (τ 1 4) + 1) a) 1 (760 + 4 * ix (τ 1 4) + 2) b) 1 (760 + 4 * ix (τ 1 4) + 3) c) 1 4 (τ 1 4 + 1)
theorem X9_write_eq {F k : Nat} {a b c : Int32} {τ : Tau} (hk : τ 2 6 = nI k) (h : k ≤ 150) : X9_write F 1 a b c τ = some (0, wrX τ a b c) := by
  unfold X9_write wrX
  simp only [Nat.reduceAdd, hk, lit_le' (show (150 : Nat) < 2 ^ 31 by decide) (show k < 2 ^ 31 by omega)]
  by_cases e : 150 ≤ k
  · rw [if_pos e, if_pos e]
  · rw [if_neg e, if_neg e, litM, if_neg (nI_pos (by omega)), litA', if_neg (by rw [lit_le' (by decide) (by omega)]; omega), ast_nI (by omega) (by omega), litA', ast_nI (by omega) (by omega), litA', ast_nI (by omega) (by omega), ast_nI (by omega) (by omega), pst_eq, ix_nI (by omega)]
    simp [up, hk]
theorem X11_notes_eq {F k : Nat} {a b c : Int32} {τ : Tau} (hk : τ 1 4 = nI k) (h : k ≤ 150) (hi : τ 0 26 = 1) : X11_notes F a b c τ = some (0, ntM τ a b c) := by
  unfold X11_notes ntM
  rw [hi, if_neg (by decide)]
  simp only [ald_lit (show (4 : Nat) < 2244 by decide) (by decide), ald_lit (show (2 : Nat) < 2244 by decide) (by decide), hk, lit_le' (show (150 : Nat) < 2 ^ 31 by decide) (show k < 2 ^ 31 by omega), lit_eq (show (150 : Nat) < 2 ^ 31 by decide) (show k < 2 ^ 31 by omega)]
  by_cases e : 150 ≤ k
  · rw [if_pos (by omega), if_pos e]
  · rw [if_neg (by omega), if_neg e, litM, litA, ast_nI (by omega) (by omega), litA', ast_nI (by omega) (by omega), litA', ast_nI (by omega) (by omega), litA', ast_nI (by omega) (by omega), ast_lit (by decide) (by decide), ix_nI (by omega)]
    have e4 : ∀ x : Nat, 4 ≠ 760 + 4 * k + x := by omega
    have e5 : 4 ≠ 760 + 4 * k := by omega
    simp [up, hk, e4, e5]
theorem X11_notes_0 {F : Nat} {a b c : Int32} {τ : Tau} (hi : τ 0 26 = 0) : X11_notes F a b c τ = some (0, τ) := by
  unfold X11_notes
  rw [hi, if_pos rfl]
theorem RB.book {tx tm : Tau} (h : RB tx tm) (hd : tm 1 2 = tx 2 4) (a b c : Int32) : RB (wrX tx a b c) (ntM tm a b c) := by
  obtain ⟨k, h1, h2, h3, h4⟩ := id h
  unfold wrX ntM
  by_cases e : 150 ≤ k
  · rw [if_pos (by rw [h2, lit_le' (by decide) (by omega)]; exact e), if_pos (by rw [h3, lit_le' (by decide) (by omega)]; exact e)]
    exact h
  · rw [if_neg (by rw [h2, lit_le' (by decide) (by omega)]; exact e), if_neg (by rw [h3, lit_le' (by decide) (by omega)]; exact e), h2, h3, hd, ix_nI (by omega)]
    refine ⟨k + 1, by omega, ?_, ?_, fun i hi => ?_⟩
    · rw [up_c, litA']
    · rw [up_c, litA']
    · rw [up_nj (show 760 + i ≠ 4 by omega), up_nc (show (46 : Nat) ≠ 2 by decide)]
      have E : ∀ x, (760 + i = 760 + 4 * k + x) = (i = 4 * k + x) := fun x => propext (by omega)
      have E0 : (760 + i = 760 + 4 * k) = (i = 4 * k) := propext (by omega)
      simp only [up, true_and, E, E0]
      rw [h4 i hi]
