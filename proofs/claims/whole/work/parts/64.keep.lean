/-! PURE PART. What is kept, given back; thought; THE IMAGE -/
def blk (τ : Tau) (a b o s n lo : Nat) : Tau := fun c j => if c = b ∧ o + lo ≤ j ∧ j < o + n then τ a (j - o + s) else τ c j
theorem blk_end {τ : Tau} {a b o s n : Nat} : blk τ a b o s n n = τ := by
  funext c j
  unfold blk
  rw [if_neg (by omega)]
theorem blk_step {τ : Tau} {a b o s n lo : Nat} (h : lo < n) (hab : a ≠ b ∨ o ≤ s) : blk (up τ b (o + lo) (τ a (s + lo))) a b o s n (lo + 1) = blk τ a b o s n lo := by
  funext c j
  unfold blk
  by_cases e : c = b ∧ o + (lo + 1) ≤ j ∧ j < o + n
  · rw [if_pos e, if_pos ⟨e.1, by omega, e.2.2⟩, up_if, if_neg (by omega)]
  · rw [if_neg e, up_if]
    by_cases e2 : c = b ∧ j = o + lo
    · rw [if_pos e2, if_pos ⟨e2.1, by omega, by omega⟩, e2.2, show o + lo - o + s = s + lo by omega]
    · rw [if_neg e2, if_neg (by omega)]
theorem L52_eq {F b : Nat} (hb : b < 6) : ∀ (m lo f : Nat) (τ : Tau), lo + m = 255 → m < f → τ 0 4 = nI b → X11_keeps_L52 F f (nI lo) τ = some (0, up (up (blk τ 1 3 (255 * b) 0 255 lo) 0 4 (nI (b + 1))) 0 26 1) := by
  intro m
  induction m with
  | zero =>
    intro lo f τ hlo hf h4
    obtain ⟨g, rfl, -⟩ := fuel hf
    have : lo = 255 := by omega
    subst this
    unfold X11_keeps_L52
    rw [if_pos (show (255 : Int32) ≤ nI 255 by decide), pst_eq, pst_eq, h4, litA', blk_end]
  | succ m ih =>
    intro lo f τ hlo hf h4
    obtain ⟨g, rfl, -⟩ := fuel hf
    conv => lhs; unfold X11_keeps_L52
    rw [if_neg (by rw [lit_le' (by decide) (by omega)]; omega), ald_nI (by omega) (by omega), h4, litM, nI_add, ast_nI (by omega) (by omega), litA', ih (lo + 1) g _ (by omega) (by omega) (by rw [up_nc (by decide)]; exact h4)]
    have := blk_step (τ := τ) (a := 1) (b := 3) (o := 255 * b) (s := 0) (n := 255) (lo := lo) (by omega) (.inl (by decide))
    rw [Nat.zero_add] at this
    rw [this]
theorem L11_eq {F : Nat} : ∀ (m lo f : Nat) (τ : Tau), lo + m = 1275 → m < f → τ 0 4 = nI 6 → X11_keeps_L11 F f (nI lo) τ = X11_keeps_j50 F (up (blk τ 3 3 0 255 1275 lo) 0 4 (nI 5)) := by
  intro m
  induction m with
  | zero =>
    intro lo f τ hlo hf h4
    obtain ⟨g, rfl, -⟩ := fuel hf
    have : lo = 1275 := by omega
    subst this
    unfold X11_keeps_L11
    rw [if_pos (show (1275 : Int32) ≤ nI 1275 by decide), pst_eq, h4, blk_end]
    rfl
  | succ m ih =>
    intro lo f τ hlo hf h4
    obtain ⟨g, rfl, -⟩ := fuel hf
    conv => lhs; unfold X11_keeps_L11
    rw [if_neg (by rw [lit_le' (by decide) (by omega)]; omega), litA', ald_nI (by omega) (by omega), ast_nI (by omega) (by omega), litA', ih (lo + 1) g _ (by omega) (by omega) (by rw [up_nc (by decide)]; exact h4)]
    have := blk_step (τ := τ) (a := 3) (b := 3) (o := 0) (s := 255) (n := 1275) (lo := lo) (by omega) (.inr (by decide))
    rw [Nat.zero_add, Nat.add_comm 255 lo] at this
    rw [this]
/-- after the reference has kept -/
theorem keeps_eq {F sz : Nat} {tm : Tau} (hF : 1275 < F) (h : tm 0 4 = nI sz) (hsz : sz ≤ 6) : ∃ tm', X11_keeps F tm = some (0, tm') ∧ tm' 0 4 = nI (min 6 (sz + 1)) ∧ tm' 0 26 = 1 ∧ (∀ c j, c ≠ 3 → ¬ (c = 0 ∧ (j = 4 ∨ j = 26)) → tm' c j = tm c j) ∧
    (∀ k, k < 255 → tm' 3 (255 * (min 6 (sz + 1) - 1) + k) = tm 1 k) ∧ (∀ j k, k < 255 → j + 1 < min 6 (sz + 1) → tm' 3 (255 * j + k) = tm 3 (255 * (if sz = 6 then j + 1 else j) + k)) := by
  by_cases e : sz = 6
  · subst e
    have hM : X11_keeps F tm = some (0, up (up (blk (up (blk tm 3 3 0 255 1275 0) 0 4 (nI 5)) 1 3 (255 * 5) 0 255 0) 0 4 (nI (5 + 1))) 0 26 1) := by
      unfold X11_keeps
      rw [if_pos (show tm 0 4 = 6 from h)]
      show X11_keeps_L11 F F (nI 0) tm = _
      rw [L11_eq 1275 0 F tm (by omega) (by omega) h]
      show X11_keeps_L52 F F (nI 0) _ = _
      rw [L52_eq (b := 5) (by decide) 255 0 F _ (by omega) (by omega) up_c]
    rw [hM]
    refine ⟨_, rfl, ?_, ?_, ?_, ?_, ?_⟩
    · rw [up_nj (by decide), up_c]; rfl
    · rw [up_c]
    · intro c j h3 h0
      rw [up_if, if_neg (by omega), up_if, if_neg (by omega)]
      unfold blk
      rw [if_neg (fun z => h3 z.1), up_if, if_neg (by omega), if_neg (fun z => h3 z.1)]
    · intro k hk
      rw [up_nc (by decide), up_nc (by decide)]
      unfold blk
      rw [if_pos ⟨rfl, by omega, by omega⟩, up_nc (by decide), if_neg (by omega)]
      rw [show 255 * (min 6 (6 + 1) - 1) + k - 255 * 5 + 0 = k by omega]
    · intro j k hk hj
      rw [up_nc (by decide), up_nc (by decide)]
      unfold blk
      rw [if_neg (by omega), up_nc (by decide), if_pos ⟨rfl, by omega, by omega⟩, if_pos rfl]
      congr 1
      omega
  · have hM : X11_keeps F tm = some (0, up (up (blk tm 1 3 (255 * sz) 0 255 0) 0 4 (nI (sz + 1))) 0 26 1) := by
      unfold X11_keeps
      rw [if_neg (by rw [h, lit_eq (by decide) (by omega)]; exact e)]
      show X11_keeps_L52 F F (nI 0) tm = _
      rw [L52_eq (b := sz) (by omega) 255 0 F tm (by omega) (by omega) h]
    rw [hM]
    have e6 : min 6 (sz + 1) = sz + 1 := by omega
    rw [e6]
    refine ⟨_, rfl, ?_, ?_, ?_, ?_, ?_⟩
    · rw [up_nj (by decide), up_c]
    · rw [up_c]
    · intro c j h3 h0
      rw [up_if, if_neg (by omega), up_if, if_neg (by omega)]
      unfold blk
      rw [if_neg (fun z => h3 z.1)]
    · intro k hk
      rw [up_nc (by decide), up_nc (by decide)]
      unfold blk
      rw [if_pos ⟨rfl, by omega, by omega⟩, show 255 * (sz + 1 - 1) + k - 255 * sz + 0 = k by omega]
    · intro j k hk hj
      rw [up_nc (by decide), up_nc (by decide)]
      unfold blk
      rw [if_neg (by omega), if_neg e]
theorem cpK_out {t0 t1 k c j : Nat} {lm : Nat → Nat} {τ : Tau} (h : c < t0 ∨ t0 + k ≤ c) : cpK t0 t1 lm k τ c j = τ c j := by
  unfold cpK
  rw [if_neg (by omega)]
theorem cpK_in {t0 t1 k o j : Nat} {lm : Nat → Nat} {τ : Tau} (h : o < k) (hj : j < lm o) : cpK t0 t1 lm k τ (t0 + o) j = τ (t1 + o) j := by
  unfold cpK
  rw [if_pos ⟨by omega, by omega, by rw [Nat.add_sub_cancel_left]; exact hj⟩, Nat.add_sub_cancel_left]
theorem o_keep {F T nP nM : Nat} {q : Nat → Nat} {tx tm : Tau} (hF : 1275 < F) (hW : RW T nP nM q 1 tx (tm 1)) (hH : RH T nP nM q tx tm) : ∃ tx' tm', X1_keep F 2 tx = some (0, tx') ∧ X11_keeps F tm = some (0, tm') ∧ RH T nP nM q tx' tm' ∧ tm' 0 26 = 1 ∧
    (∀ c j, ¬ (c = 116 ∧ j < 2) → ¬ (118 ≤ c ∧ c ≤ 195) → tx' c j = tx c j) ∧ (∀ c j, c ≠ 3 → ¬ (c = 0 ∧ (j = 4 ∨ j = 26)) → tm' c j = tm c j) := by
  obtain ⟨sz, nx, s6, n6, x0, x1, m4, hK⟩ := hH
  obtain ⟨w1, w2, w3, w4, w5, w6, w7, w8, w9, w10, w11⟩ := hW
  obtain ⟨tm', k1, k2, k3, k4, k5, k6⟩ := keeps_eq (F := F) hF m4 s6
  have hX : X1_keep F 2 tx = some (0, up (up (cpK (118 + 13 * nx) 2 lmT 13 tx) 116 1 (nI ((nx + 1) % 6))) 116 0 (nI (min 6 (sz + 1)))) := by
    unfold X1_keep
    rw [x1, gd_nI n6 (by omega), ix_nI (by omega), X8_copyFrom_eq (town_k n6) town_2 (by omega), cal_some, pst_eq, cpK_out (by omega), x1, litA', show (6 : Int32) = nI 6 from rfl, nI_rmd (by omega) (by decide) (by decide), pst_eq, up_nj (by decide), cpK_out (by omega), x0, litA', nI_imin (by decide) (by omega)]
  refine ⟨_, tm', hX, k1, ⟨min 6 (sz + 1), (nx + 1) % 6, by omega, by omega, up_c, ?_, k2, ?_⟩, k3, ?_, k4⟩
  · rw [up_nj (by decide), up_c]
  · intro j hj
    by_cases ej : j + 1 = min 6 (sz + 1)
    · -- the new one
      have hr : ((nx + 1) % 6 + 6 - min 6 (sz + 1) + j) % 6 = nx := by omega
      have hj5 : min 6 (sz + 1) - 1 = j := by omega
      rw [hr]
      rw [hj5] at k5
      have e0 : ∀ o s, o < 13 → s < lmT o → up (up (cpK (118 + 13 * nx) 2 lmT 13 tx) 116 1 (nI ((nx + 1) % 6))) 116 0 (nI (min 6 (sz + 1))) (118 + 13 * nx + o) s = tx (2 + o) s := by
        intro o s ho hs
        rw [up_nc (by omega), up_nc (by omega), cpK_in ho hs]
      refine ⟨fun k hk => ?_, ?_, ?_, ?_, ?_⟩
      · obtain ⟨i1, i2, i3, i4⟩ := sl_inv k hk
        rw [k5 k hk, e0 _ _ i2 i3, w1 k hk]
      · exact (e0 0 0 (by decide) (by decide)).trans w2
      · exact (e0 0 1 (by decide) (by decide)).trans w3
      · exact Val_congr w7 w8 (fun k hk => k5 k hk)
      · rw [k5 4 (by decide)]; exact w10
    · have hj2 : j + 1 < min 6 (sz + 1) := by omega
      have hjs : (if sz = 6 then j + 1 else j) < sz := by split <;> omega
      obtain ⟨b1, b2, b3, b4, b5⟩ := hK _ hjs
      have hr : ((nx + 1) % 6 + 6 - min 6 (sz + 1) + j) % 6 = (nx + 6 - sz + (if sz = 6 then j + 1 else j)) % 6 := by split <;> omega
      have hne : (nx + 6 - sz + (if sz = 6 then j + 1 else j)) % 6 ≠ nx := by split <;> omega
      have hlt : (nx + 6 - sz + (if sz = 6 then j + 1 else j)) % 6 < 6 := Nat.mod_lt _ (by decide)
      rw [hr]
      have k7 := fun k hk => k6 j k hk hj2
      generalize (nx + 6 - sz + (if sz = 6 then j + 1 else j)) % 6 = r at b1 b2 b3 hne hlt ⊢
      generalize (if sz = 6 then j + 1 else j) = j' at b1 b4 b5 hjs k7
      have e0 : ∀ o s, o < 13 → up (up (cpK (118 + 13 * nx) 2 lmT 13 tx) 116 1 (nI ((nx + 1) % 6))) 116 0 (nI (min 6 (sz + 1))) (118 + 13 * r + o) s = tx (118 + 13 * r + o) s := by
        intro o s ho
        rw [up_nc (by omega), up_nc (by omega), cpK_out (by omega)]
      refine ⟨fun k hk => ?_, ?_, ?_, ?_, ?_⟩
      · rw [k7 k hk, e0 _ _ (sl_inv k hk).2.1, b1 k hk]
      · exact (e0 0 0 (by decide)).trans b2
      · exact (e0 0 1 (by decide)).trans b3
      · exact Val_congr w7 b4 (fun k hk => k7 k hk)
      · rw [k7 4 (by decide)]; exact b5
  · intro c j h1 h2
    rw [up_if, if_neg (by omega), up_if, if_neg (by omega), cpK_out (by omega)]

/-! UNDO -/
theorem undoL_eq {F b : Nat} (hb : b < 6) : ∀ (m lo f : Nat) (τ : Tau), lo + m = 255 → m < f → τ 0 4 = nI b → X11_undo_L21 F f (nI lo) τ = some (1, blk τ 3 1 0 (255 * b) 255 lo) := by
  intro m
  induction m with
  | zero =>
    intro lo f τ hlo hf h4
    obtain ⟨g, rfl, -⟩ := fuel hf
    have : lo = 255 := by omega
    subst this
    unfold X11_undo_L21
    rw [if_pos (show (255 : Int32) ≤ nI 255 by decide), blk_end]
  | succ m ih =>
    intro lo f τ hlo hf h4
    obtain ⟨g, rfl, -⟩ := fuel hf
    conv => lhs; unfold X11_undo_L21
    rw [if_neg (by rw [lit_le' (by decide) (by omega)]; omega), h4, litM, nI_add, ald_nI (by omega) (by omega), ast_nI (by omega) (by omega), litA', ih (lo + 1) g _ (by omega) (by omega) (by rw [up_nc (by decide)]; exact h4)]
    have := blk_step (τ := τ) (a := 3) (b := 1) (o := 0) (s := 255 * b) (n := 255) (lo := lo) (by omega) (.inl (by decide))
    rw [Nat.zero_add] at this
    rw [this]
theorem step42 (F : Nat) (hF : 5000 ≤ F) : Step42 F Rl := by
  intro n tx tm _ h
  obtain ⟨nP, nM, q, hW, hH, h3⟩ := id h
  obtain ⟨sz, nx, s6, n6, x0, x1, m4, hK⟩ := hH
  obtain ⟨w1, w2, w3, w4, w5, w6, w7, w8, w9, w10, w11⟩ := hW
  have hXu : X10_undo F tx = (cal (X1_giveBack F 2 tx) fun r1 τ2 => some (vp_nar .boolean r1, τ2)) := rfl
  unfold X1_giveBack at hXu
  unfold X11_undo
  by_cases e : sz = 0
  · subst e
    rw [hXu, x0, m4, if_neg (by decide), if_pos (show nI 0 = 0 from rfl), cal_some, nar0]
    exact ⟨0, tx, tm, rfl, rfl, Rl_mono n tx tm h⟩
  · have hr : (nx + 6 - sz + (sz - 1)) % 6 = (nx + 5) % 6 := by omega
    obtain ⟨b1, b2, b3, b4, b5⟩ := hK (sz - 1) (by omega)
    rw [hr] at b1 b2 b3
    have hlt : (nx + 5) % 6 < 6 := Nat.mod_lt _ (by decide)
    have hX : X10_undo F tx = some (1, cpK 2 (118 + 13 * ((nx + 5) % 6)) lmT 13 (up (up tx 116 0 (nI (sz - 1))) 116 1 (nI ((nx + 5) % 6)))) := by
      rw [hXu, x0, if_pos (by rw [show (0 : Int32) = nI 0 from rfl]; exact nI_lt (by omega) (by omega)), pst_eq, litS (by omega), pst_eq, up_c, show up tx 116 0 (nI (sz - 1)) 116 1 = nI nx from (up_nj (by decide)).trans x1, litA', litS (by omega), show (6 : Int32) = nI 6 from rfl, nI_rmd (by omega) (by decide) (by decide), show nx + 6 - 1 = nx + 5 by omega, gd_nI hlt (by omega), ix_nI (by omega), X8_copyFrom_eq town_2 (town_k hlt) (by omega), cal_some, cal_some, nar1]
    have hMm : (if tm 0 4 = 0 then some ((0 : Int32), tm) else pst tm 0 4 (tm 0 4 - 1) fun τ1 => X11_undo_L21 F F 0 τ1) = some (1, blk (up tm 0 4 (nI (sz - 1))) 3 1 0 (255 * (sz - 1)) 255 0) := by
      rw [m4, if_neg (by rw [lit_eq (by decide) (by omega)]; exact e), pst_eq, litS (by omega)]
      exact undoL_eq (b := sz - 1) (by omega) 255 0 F _ (by omega) (by omega) up_c
    rw [hX, hMm]
    refine ⟨1, _, _, rfl, rfl, ?_⟩
    have ex : ∀ c j, ¬ (2 ≤ c ∧ c ≤ 14) → ¬ (c = 116 ∧ j < 2) → cpK 2 (118 + 13 * ((nx + 5) % 6)) lmT 13 (up (up tx 116 0 (nI (sz - 1))) 116 1 (nI ((nx + 5) % 6))) c j = tx c j := by
      intro c j h1 h2
      rw [cpK_out (by omega), up_if, if_neg (by omega), up_if, if_neg (by omega)]
    have ein : ∀ o s, o < 13 → s < lmT o → cpK 2 (118 + 13 * ((nx + 5) % 6)) lmT 13 (up (up tx 116 0 (nI (sz - 1))) 116 1 (nI ((nx + 5) % 6))) (2 + o) s = tx (118 + 13 * ((nx + 5) % 6) + o) s := by
      intro o s ho hs
      rw [cpK_in ho hs, up_nc (by omega), up_nc (by omega)]
    have em1 : ∀ k, k < 255 → blk (up tm 0 4 (nI (sz - 1))) 3 1 0 (255 * (sz - 1)) 255 0 1 k = tm 3 (255 * (sz - 1) + k) := by
      intro k hk
      unfold blk
      rw [if_pos ⟨rfl, by omega, by omega⟩, up_nc (by decide), show k - 0 + 255 * (sz - 1) = 255 * (sz - 1) + k by omega]
    have em : ∀ c j, ¬ (c = 1 ∧ j < 255) → ¬ (c = 0 ∧ j = 4) → blk (up tm 0 4 (nI (sz - 1))) 3 1 0 (255 * (sz - 1)) 255 0 c j = tm c j := by
      intro c j h1 h2
      unfold blk
      rw [if_neg (by omega), up_if, if_neg (by omega)]
    obtain ⟨hI, hT, hFa, hS⟩ := h3
    refine ⟨nP, nM, q, ?_, ?_, (hI.mono (by omega)).congr (fun c j hc => ex _ _ (by omega) (by omega)) (em _ _ (by omega) (by omega)) (fun k _ => em _ _ (by omega) (by omega)), hT.congr (fun c j hc => ex _ _ (by omega) (by omega)) (em _ _ (by omega) (by omega)) (fun k => em _ _ (by omega) (by omega)), ?_, hS.congr (ex _ _ (by omega) (by omega)) (fun j => ex _ _ (by omega) (by omega))⟩
    · refine ⟨fun k hk => ?_, (ein 0 0 (by decide) (by decide)).trans b2, (ein 0 1 (by decide) (by decide)).trans b3, by rw [em _ _ (by omega) (by omega)]; exact w4, by rw [em _ _ (by omega) (by omega)]; exact w5, w6, w7, ?_, ?_, ?_, fun i hi => ?_⟩
      · obtain ⟨i1, i2, i3, i4⟩ := sl_inv k hk
        rw [em1 k hk, b1 k hk]
        exact (ein _ _ i2 i3).symm
      · exact Val_congr w7 (Val_mono b4 (by omega)) (fun k hk => em1 k hk)
      · unfold Wd at w9 ⊢
        rw [vX_congr (tx := tx) (fun c j hc _ => ex _ _ (by omega) (by omega)), vM_congr (w := tm 1) (fun k hk => em _ _ (by omega) (by omega))]
        exact w9
      · rw [em1 4 (by decide)]; exact b5
      · rw [em _ _ (by omega) (by omega), ex _ _ (by omega) (by omega)]; exact w11 i hi
    · refine ⟨sz - 1, (nx + 5) % 6, by omega, hlt, ?_, ?_, ?_, fun j hj => ?_⟩
      · rw [cpK_out (by omega), up_nj (by decide), up_c]
      · rw [cpK_out (by omega), up_c]
      · unfold blk
        rw [if_neg (by omega), up_c]
      · have hr2 : ((nx + 5) % 6 + 6 - (sz - 1) + j) % 6 = (nx + 6 - sz + j) % 6 := by omega
        have hl2 : (nx + 6 - sz + j) % 6 < 6 := Nat.mod_lt _ (by decide)
        rw [hr2]
        obtain ⟨c1, c2, c3, c4, c5⟩ := hK j (by omega)
        refine ⟨fun k hk => ?_, by rw [ex _ _ (by omega) (by omega)]; exact c2, by rw [ex _ _ (by omega) (by omega)]; exact c3, ?_, by rw [em _ _ (by omega) (by omega)]; exact c5⟩
        · have := (sl_inv k hk).2.1
          rw [em _ _ (by omega) (by omega), ex _ _ (by omega) (by omega)]; exact c1 k hk
        · exact Val_congr w7 (Val_mono c4 (by omega)) (fun k hk => em _ _ (by omega) (by omega))
    · unfold Rfa at hFa ⊢
      rw [ex _ _ (by omega) (by omega), ex _ _ (by omega) (by omega), em _ _ (by omega) (by omega), em _ _ (by omega) (by omega), em _ _ (by omega) (by omega)]
      exact hFa
