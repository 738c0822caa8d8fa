/-! PURE PART. Steps: tables, stand -/
theorem Pc.tabs {T nP nM : Nat} {q : Nat → Nat} {tx tm : Tau} (h : Pc T nP nM q tx tm) : ∀ k, k < 9 → tx 35 k = tm 1 (554 + k) ∧ tx 36 k = tm 1 (563 + k) ∧ -9 ≤ (tm 1 (554 + k)).toInt ∧ (tm 1 (554 + k)).toInt ≤ 9 ∧ -9 ≤ (tm 1 (563 + k)).toInt ∧ (tm 1 (563 + k)).toInt ≤ 9 := tab_out h.1.2.2.2.2.2.2.2.2.1.2.2.2.2.2.2.2.2.2.2.2.2.2.2.2.1
theorem gets_0 {F r c : Nat} {τ : Tau} (hr : r < 3) (hc : c < 3) : X11_gets F 0 (nI r) (nI c) τ = some (τ 1 (554 + (3 * r + c)), τ) := by
  unfold X11_gets
  rw [show (554 : Int32) + 9 * 0 = nI 554 by decide, litM, nI_add, nI_add, ald_nI (by omega) (by omega), Nat.add_assoc]
theorem gets_1 {F r c : Nat} {τ : Tau} (hr : r < 3) (hc : c < 3) : X11_gets F 1 (nI r) (nI c) τ = some (τ 1 (563 + (3 * r + c)), τ) := by
  unfold X11_gets
  rw [show (554 : Int32) + 9 * 1 = nI 563 by decide, litM, nI_add, nI_add, ald_nI (by omega) (by omega), Nat.add_assoc]
theorem ent35 {F k : Nat} {τ : Tau} (hk : k < 9) : X10_entry F 35 (nI k) τ = some (τ 35 k, τ) := X10_entry_in (N := 9) rfl hk (by decide)
theorem ent36 {F k : Nat} {τ : Tau} (hk : k < 9) : X10_entry F 36 (nI k) τ = some (τ 36 k, τ) := X10_entry_in (N := 9) rfl hk (by decide)
theorem rests_eq {F T nP nM r c : Nat} {q : Nat → Nat} {tx tm : Tau} (h : Pc T nP nM q tx tm) (hr : r < 3) (hc : c < 3) : ∀ (m i fx fm : Nat), i + m = 3 → m < fx → m < fm → (∃ b : Bool, X4_rests_L11 F fx (nI (3 * r + c)) (nI r) (nI c) (nI i) tx = some (bI (b = true), tx) ∧ X11_rests_L5 F fm (nI r) (nI c) 1 (nI i) tm = some (bI (b = true), tm)) ∧ X11_rests_L5 F fm (nI r) (nI c) 0 (nI i) tm = some (0, tm) := by
  intro m
  induction m with
  | zero =>
    intro i fx fm hi hfx hfm
    obtain ⟨gx, rfl, -⟩ := fuel hfx
    obtain ⟨gm, rfl, -⟩ := fuel hfm
    have : i = 3 := by omega
    subst this
    unfold X4_rests_L11 X11_rests_L5
    rw [if_pos (show (3 : Int32) ≤ nI 3 by decide), if_pos (show (3 : Int32) ≤ nI 3 by decide), if_pos (show (3 : Int32) ≤ nI 3 by decide), nar1, nar0]
    exact ⟨⟨true, rfl, rfl⟩, rfl⟩
  | succ m ih =>
    intro i fx fm hi hfx hfm
    obtain ⟨gx, rfl, -⟩ := fuel hfx
    obtain ⟨gm, rfl, -⟩ := fuel hfm
    obtain ⟨⟨b, r1, r2⟩, r3⟩ := ih (i + 1) gx gm (by omega) (by omega) (by omega)
    have hn : ¬ (3 : Int32) ≤ nI i := by rw [lit_le' (by decide) (by omega)]; omega
    have t0 := fun k hk => (h.tabs k hk).1
    have t1 := fun k hk => (h.tabs k hk).2.1
    have hM : ∀ z : Int32, (z = 0 ∨ z = 1) → X11_rests_L5 F (gm + 1) (nI r) (nI c) z (nI i) tm = (if tx 35 (3 * r + c) < tx 35 (3 * i + c) then X11_rests_L5 F gm (nI r) (nI c) 0 (nI (i + 1)) tm else if tx 36 (3 * r + c) < tx 36 (3 * r + i) then X11_rests_L5 F gm (nI r) (nI c) 0 (nI (i + 1)) tm else X11_rests_L5 F gm (nI r) (nI c) z (nI (i + 1)) tm) := by
      intro z hz
      have z1 : z &&& 1 = z := by rcases hz with rfl | rfl <;> decide
      have z0 : z &&& 0 = 0 := by rcases hz with rfl | rfl <;> decide
      conv => lhs; unfold X11_rests_L5
      unfold X11_rests_j52 X11_rests_j53
      rw [if_neg hn, gets_0 (by omega) hc, cal_some, gets_0 hr hc, cal_some, gets_1 hr (by omega), cal_some, gets_1 hr hc, cal_some, t0 _ (by omega), t0 _ (by omega), t1 _ (by omega), t1 _ (by omega), z0, z1, litA']
    have hX : X4_rests_L11 F (gx + 1) (nI (3 * r + c)) (nI r) (nI c) (nI i) tx = (if tx 35 (3 * r + c) < tx 35 (3 * i + c) then some (0, tx) else if tx 36 (3 * r + c) < tx 36 (3 * r + i) then some (0, tx) else X4_rests_L11 F gx (nI (3 * r + c)) (nI r) (nI c) (nI (i + 1)) tx) := by
      conv => lhs; unfold X4_rests_L11
      unfold X4_rests_j52 X4_rests_j89
      rw [if_neg hn, litM, nI_add, ent35 (by omega), cal_some, ent35 (by omega), cal_some, litM, nI_add, ent36 (by omega), cal_some, ent36 (by omega), cal_some, litA']
      by_cases a : tx 35 (3 * i + c) ≤ tx 35 (3 * r + c)
      · rw [if_pos a, if_pos rfl, if_pos rfl, if_neg (fun z => i32_nle.mpr z a)]
        by_cases d : tx 36 (3 * r + i) ≤ tx 36 (3 * r + c)
        · rw [if_pos d, if_neg (fun z => i32_nle.mpr z d)]
        · rw [if_neg d, if_neg n10, if_pos (i32_nle.mp d)]
          split <;> rfl
      · rw [if_neg a, cal_some, ent36 (by omega), cal_some, if_pos (i32_nle.mp a), if_neg n10, if_neg n10]
        split <;> rfl
    refine ⟨?_, ?_⟩
    · rw [hX, hM 1 (.inr rfl)]
      split
      · exact ⟨false, rfl, r3⟩
      · split
        · exact ⟨false, rfl, r3⟩
        · exact ⟨b, r1, r2⟩
    · rw [hM 0 (.inl rfl)]
      split
      · exact r3
      · split <;> exact r3
theorem rests_ex {F T nP nM : Nat} {q : Nat → Nat} {tx tm : Tau} (hF : 5000 ≤ F) (h : Pc T nP nM q tx tm) : ∃ P : Nat → Bool, ∀ k, k < 9 → X4_rests F (nI k) tx = some (bI (P k = true), tx) ∧ X11_rests F (nI (k / 3)) (nI (k % 3)) tm = some (bI (P k = true), tm) := by
  have hk : ∀ k, k < 9 → ∃ b : Bool, X4_rests F (nI k) tx = some (bI (b = true), tx) ∧ X11_rests F (nI (k / 3)) (nI (k % 3)) tm = some (bI (b = true), tm) := by
    intro k hk
    obtain ⟨⟨b, r1, r2⟩, -⟩ := rests_eq (F := F) (r := k / 3) (c := k % 3) h (by omega) (by omega) 3 0 F F (by decide) (by omega) (by omega)
    refine ⟨b, ?_, r2⟩
    unfold X4_rests
    rw [show (3 : Int32) = nI 3 from rfl, nI_div (by omega) (by decide) (by decide), nI_rmd (by omega) (by decide) (by decide)]
    rw [show 3 * (k / 3) + k % 3 = k by omega] at r1
    exact r1
  refine ⟨fun k => if hh : k < 9 then (hk k hh).choose else false, fun k hh => ?_⟩
  simp only [dif_pos hh]
  exact (hk k hh).choose_spec
/-- how many from k on, and the first -/
def cntT (P : Nat → Bool) : Nat → Nat
  | 0 => 0
  | n + 1 => cntT P n + (if P (8 - n) = true then 1 else 0)
def fstT (P : Nat → Bool) : Nat → Int32
  | 0 => -1
  | n + 1 => if P (8 - n) = true then nI (8 - n) else fstT P n
theorem cntT_le (P : Nat → Bool) : ∀ n, cntT P n ≤ n := by
  intro n
  induction n with
  | zero => exact Nat.le_refl _
  | succ n ih =>
    unfold cntT
    split <;> omega
theorem step25 (F : Nat) (hF : 5000 ≤ F) : Step25 F Rl := by
  intro n tx tm a1 _ h
  obtain ⟨nP, nM, q, hP⟩ := h.pc
  obtain ⟨P, hp⟩ := rests_ex (F := F) hF hP
  have ok : ∀ (v : Int32) (x m : Option (Int32 × Tau)), x = some (v, tx) → m = some (v, tm) → ∃ r tx' tm', x = some (r, tx') ∧ m = some (r, tm') ∧ Rl (n + 1) tx' tm' := fun v x m e1 e2 => ⟨v, tx, tm, e1, e2, Rl_mono n tx tm h⟩
  have hM : ∀ (k f : Nat), k ≤ 9 → k < f → X11_tables_L47 F f a1 (nI (cntT P (9 - k))) (fstT P (9 - k)) (nI k - 1) tm = (if a1 = 0 then some (nI (cntT P 9), tm) else some (fstT P 9, tm)) := by
    intro k
    induction k with
    | zero =>
      intro f _ hf
      obtain ⟨g, rfl, -⟩ := fuel hf
      unfold X11_tables_L47
      rw [if_pos (by decide)]
    | succ k ih =>
      intro f hk hf
      obtain ⟨g, rfl, -⟩ := fuel hf
      conv => lhs; unfold X11_tables_L47
      unfold X11_tables_j76
      have e1 : nI (k + 1) - 1 = nI k := by rw [litS (by omega), Nat.add_sub_cancel]
      have e2 : nI k + (-1) = nI k - 1 := by rw [Int32.sub_eq_add_neg]
      rw [e1, if_neg (nI_pos (by omega)), show (3 : Int32) = nI 3 from rfl, nI_div (by omega) (by decide) (by decide), nI_rmd (by omega) (by decide) (by decide), (hp k (by omega)).2, cal_some, ite_bI, e2, litA']
      have e9 : 9 - k = (9 - (k + 1)) + 1 := by omega
      have e8 : 8 - (9 - (k + 1)) = k := by omega
      have := ih g (by omega) (by omega)
      rw [e9] at this
      unfold cntT fstT at this
      rw [e8] at this
      by_cases c : P k = true
      · rw [if_pos c]
        rw [if_pos c, if_pos c] at this
        exact this
      · rw [if_neg c]
        rw [if_neg c, if_neg c] at this
        exact this
  have hM9 : X11_tables_L47 F F a1 0 (-1) 8 tm = (if a1 = 0 then some (nI (cntT P 9), tm) else some (fstT P 9, tm)) := hM 9 F (by decide) (by omega)
  have hXc : ∀ (m i f acc : Nat), i + m = 9 → m < f → acc ≤ i → X4_restingCells_L4 F f (nI acc) (nI i) tx = some (nI (acc + cntT P m), tx) := by
    intro m
    induction m with
    | zero =>
      intro i f acc hi hf ha
      obtain ⟨g, rfl, -⟩ := fuel hf
      have : i = 9 := by omega
      subst this
      unfold X4_restingCells_L4
      rw [if_pos (by decide)]
      rfl
    | succ m ih =>
      intro i f acc hi hf ha
      obtain ⟨g, rfl, -⟩ := fuel hf
      unfold X4_restingCells_L4 X4_restingCells_j24
      rw [if_neg (by rw [lit_le' (by decide) (by omega)]; omega), (hp i (by omega)).1, cal_some, ite_bI, litA', litA', litA']
      have e8 : 8 - m = i := by omega
      unfold cntT
      rw [e8]
      by_cases c : P i = true
      · rw [if_pos c, if_pos c, ih (i + 1) g _ (by omega) (by omega) (by omega)]
        congr 3
        omega
      · rw [if_neg c, if_neg c, ih (i + 1) g _ (by omega) (by omega) (by omega)]
        congr 3
  have hXf : ∀ (m i f : Nat), i + m = 9 → m < f → X4_firstRest_L2 F f (nI i) tx = some (fstT P m, tx) := by
    intro m
    induction m with
    | zero =>
      intro i f hi hf
      obtain ⟨g, rfl, -⟩ := fuel hf
      have : i = 9 := by omega
      subst this
      unfold X4_firstRest_L2
      rw [if_pos (by decide)]
      rfl
    | succ m ih =>
      intro i f hi hf
      obtain ⟨g, rfl, -⟩ := fuel hf
      unfold X4_firstRest_L2
      rw [if_neg (by rw [lit_le' (by decide) (by omega)]; omega), (hp i (by omega)).1, cal_some, ite_bI, litA']
      have e8 : 8 - m = i := by omega
      unfold fstT
      rw [e8]
      by_cases c : P i = true
      · rw [if_pos c, if_pos c]
      · rw [if_neg c, if_neg c, ih (i + 1) g (by omega) (by omega)]
  -- what a row gets
  have led : ∀ (r : Nat), r < 3 → ∃ v : Int32, -9 ≤ v.toInt ∧ v.toInt ≤ 9 ∧ X4_whatRowGets F (nI r) tx = some (v, tx) ∧ X11_led F (nI r) tm = some (v, tm) := by
    intro r hr
    have t0 := fun k hk => (hP.tabs k hk).1.symm
    have t1 := fun k hk => (hP.tabs k hk).2.1.symm
    have key : ∀ (m k b fx fm : Nat), k + m = 3 → b < 3 → m < fx → m < fm → ∃ v : Int32, -9 ≤ v.toInt ∧ v.toInt ≤ 9 ∧ X4_whatRowGets_L8 F fx (nI r) (nI (3 * r + b)) (nI (3 * r + k)) tx = some (v, tx) ∧ X11_led_L4 F fm (nI r) (nI b) (nI k) tm = some (v, tm) := by
      intro m
      induction m with
      | zero =>
        intro k b fx fm hk hb hfx hfm
        obtain ⟨gx, rfl, -⟩ := fuel hfx
        obtain ⟨gm, rfl, -⟩ := fuel hfm
        have : k = 3 := by omega
        subst this
        obtain ⟨-, -, i1, i2, -⟩ := hP.tabs (3 * r + b) (by omega)
        rw [t0 _ (by omega)] at i1 i2
        unfold X4_whatRowGets_L8 X11_led_L4
        rw [litM, litA', if_pos (nI_le (by omega) (by omega)), ent35 (by omega), cal_some, if_pos (by decide), gets_0 hr hb, cal_some, t0 _ (by omega)]
        exact ⟨_, i1, i2, rfl, rfl⟩
      | succ m ih =>
        intro k b fx fm hk hb hfx hfm
        obtain ⟨gx, rfl, -⟩ := fuel hfx
        obtain ⟨gm, rfl, -⟩ := fuel hfm
        obtain ⟨-, -, -, -, y1, y2⟩ := hP.tabs (3 * r + k) (by omega)
        obtain ⟨-, -, -, -, z1, z2⟩ := hP.tabs (3 * r + b) (by omega)
        rw [t1 _ (by omega)] at y1 y2 z1 z2
        have hd : (tx 36 (3 * r + k) - tx 36 (3 * r + b)).toInt = (tx 36 (3 * r + k)).toInt - (tx 36 (3 * r + b)).toInt := by
          rw [Int32.toInt_sub]
          exact Int.bmod_eq_of_le (by omega) (by omega)
        have d1 : (0 < tx 36 (3 * r + k) - tx 36 (3 * r + b)) ↔ tx 36 (3 * r + b) < tx 36 (3 * r + k) := by
          rw [Int32.lt_iff_toInt_lt, Int32.lt_iff_toInt_lt, hd, show (0 : Int32).toInt = 0 by decide]
          omega
        have d2 : (tx 36 (3 * r + k) - tx 36 (3 * r + b) = 0) ↔ tx 36 (3 * r + k) = tx 36 (3 * r + b) := by
          rw [← Int32.toInt_inj, ← Int32.toInt_inj, hd, show (0 : Int32).toInt = 0 by decide]
          omega
        have hX : X4_whatRowGets_L8 F (gx + 1) (nI r) (nI (3 * r + b)) (nI (3 * r + k)) tx = (if tx 36 (3 * r + b) < tx 36 (3 * r + k) ∨ (tx 36 (3 * r + k) = tx 36 (3 * r + b) ∧ tx 35 (3 * r + k) < tx 35 (3 * r + b)) then X4_whatRowGets_L8 F gx (nI r) (nI (3 * r + k)) (nI (3 * r + (k + 1))) tx else X4_whatRowGets_L8 F gx (nI r) (nI (3 * r + b)) (nI (3 * r + (k + 1))) tx) := by
          conv => lhs; unfold X4_whatRowGets_L8
          unfold X4_whatRowGets_j77 X4_whatRowGets_j79
          rw [litM, litA', if_neg (nI_ge (by omega) (by omega)), ent36 (by omega), cal_some, ent36 (by omega), cal_some, ent35 (by omega), cal_some, ent35 (by omega), cal_some, litA', Nat.add_assoc (3 * r) k 1]
          by_cases g : tx 36 (3 * r + b) < tx 36 (3 * r + k)
          · rw [if_pos (d1.mpr g), if_pos (.inl g)]
          · rw [if_neg (fun z => g (d1.mp z))]
            by_cases e : tx 36 (3 * r + k) = tx 36 (3 * r + b)
            · rw [if_pos (d2.mpr e)]
              by_cases l : tx 35 (3 * r + b) ≤ tx 35 (3 * r + k)
              · rw [if_pos l, if_neg]
                rintro (z | z)
                · exact g z
                · exact i32_nle.mpr z.2 l
              · rw [if_neg l, if_pos (.inr ⟨e, i32_nle.mp l⟩)]
            · rw [if_neg (fun z => e (d2.mp z)), if_neg]
              rintro (z | z)
              · exact g z
              · exact e z.1
        have hMl : X11_led_L4 F (gm + 1) (nI r) (nI b) (nI k) tm = (if tx 36 (3 * r + b) < tx 36 (3 * r + k) ∨ (tx 36 (3 * r + k) = tx 36 (3 * r + b) ∧ tx 35 (3 * r + k) < tx 35 (3 * r + b)) then X11_led_L4 F gm (nI r) (nI k) (nI (k + 1)) tm else X11_led_L4 F gm (nI r) (nI b) (nI (k + 1)) tm) := by
          conv => lhs; unfold X11_led_L4
          unfold X11_led_j31 X11_led_j71 X11_led_j72 X11_led_j84 X11_led_j89
          have kk : nI k + 1 = nI (k + 1) := litA'
          rw [if_neg (by rw [lit_le' (by decide) (by omega)]; omega)]
          simp only [gets_1 hr (show k < 3 by omega), gets_1 hr hb, gets_0 hr (show k < 3 by omega), gets_0 hr hb, cal_some, t0 _ (show 3 * r + k < 9 by omega), t0 _ (show 3 * r + b < 9 by omega), t1 _ (show 3 * r + k < 9 by omega), t1 _ (show 3 * r + b < 9 by omega), kk, if_true, if_neg n10]
          by_cases g : tx 36 (3 * r + b) < tx 36 (3 * r + k)
          · have hD : tx 36 (3 * r + b) < tx 36 (3 * r + k) ∨ (tx 36 (3 * r + k) = tx 36 (3 * r + b) ∧ tx 35 (3 * r + k) < tx 35 (3 * r + b)) := .inl g
            rw [if_neg (show ¬ tx 36 (3 * r + k) ≤ tx 36 (3 * r + b) from fun z => i32_nle.mpr g z), if_pos hD]
            split
            · split <;> rfl
            · rfl
          · rw [if_pos (show tx 36 (3 * r + k) ≤ tx 36 (3 * r + b) from i32_nlt.mp g)]
            by_cases e : tx 36 (3 * r + k) = tx 36 (3 * r + b)
            · rw [if_pos e]
              by_cases l : tx 35 (3 * r + b) ≤ tx 35 (3 * r + k)
              · rw [if_pos l, if_neg]
                rintro (z | z)
                · exact g z
                · exact i32_nle.mpr z.2 l
              · have hD : tx 36 (3 * r + b) < tx 36 (3 * r + k) ∨ (tx 36 (3 * r + k) = tx 36 (3 * r + b) ∧ tx 35 (3 * r + k) < tx 35 (3 * r + b)) := .inr ⟨e, i32_nle.mp l⟩
                rw [if_neg l, if_pos hD]
            · rw [if_neg e, if_neg]
              rintro (z | z)
              · exact g z
              · exact e z.1
        rw [hX, hMl]
        split
        · exact ih (k + 1) k gx gm (by omega) (by omega) (by omega) (by omega)
        · exact ih (k + 1) b gx gm (by omega) hb (by omega) (by omega)
    obtain ⟨v, v1, v2, e1, e2⟩ := key 2 1 0 F F (by decide) (by decide) (by omega) (by omega)
    refine ⟨v, v1, v2, ?_, e2⟩
    unfold X4_whatRowGets
    rw [litM, litA']
    exact e1
  unfold X10_tables X11_tables
  by_cases c0 : a1 = 0
  · rw [if_pos c0]
    have c2 : ¬ a1 = 2 := by rw [c0]; decide
    rw [X11_isIn_eq, cal_some, bI_t (by rw [c0]; decide), if_neg n10, if_neg c2, hM9, if_pos c0]
    unfold X4_restingCells
    rw [show X4_restingCells_L4 F F 0 0 tx = some (nI (0 + cntT P 9), tx) from hXc 9 0 F 0 (by decide) (by omega) (by decide), cal_some, Nat.zero_add]
    exact ok _ _ _ rfl rfl
  rw [if_neg c0]
  by_cases c1 : a1 = 1
  · rw [if_pos c1]
    have c2 : ¬ a1 = 2 := by rw [c1]; decide
    rw [X11_isIn_eq, cal_some, bI_t (by rw [c1]; decide), if_neg n10, if_neg c2, hM9, if_neg c0]
    unfold X4_firstRest
    rw [show X4_firstRest_L2 F F 0 tx = some (fstT P 9, tx) from hXf 9 0 F (by decide) (by omega), cal_some]
    exact ok _ _ _ rfl rfl
  rw [if_neg c1]
  by_cases c2 : a1 = 2
  · rw [if_pos c2]
    obtain ⟨v0, a, b, x0, m0⟩ := led 0 (by decide)
    obtain ⟨v1, c, d, x1, m1⟩ := led 1 (by decide)
    obtain ⟨v2, e, f, x2, m2⟩ := led 2 (by decide)
    rw [X11_isIn_eq, cal_some, bI_t (by rw [c2]; decide), if_neg n10, if_pos c2, show X11_led F 0 tm = some (v0, tm) from m0, cal_some, show X11_led F 1 tm = some (v1, tm) from m1, cal_some, show X11_led F 2 tm = some (v2, tm) from m2, cal_some, X11_greater_eq, cal_some, X11_greater_eq, cal_some]
    have hX : X4_leads F tx = some (imax (imax (imax (-9) v0) v1) v2, tx) := by
      unfold X4_leads
      obtain ⟨g, hg, -⟩ := fuel (show 3 < F by omega)
      obtain ⟨g1, hg1, -⟩ := fuel (show 2 < g by omega)
      obtain ⟨g2, hg2, -⟩ := fuel (show 1 < g1 by omega)
      obtain ⟨g3, hg3, -⟩ := fuel (show 0 < g2 by omega)
      have s1 : ∀ (f : Nat) (acc v : Int32) (k : Nat), k < 3 → X4_whatRowGets F (nI k) tx = some (v, tx) → X4_leads_L5 F (f + 1) acc (nI k) tx = X4_leads_L5 F f (imax acc v) (nI (k + 1)) tx := by
        intro f acc v k hk hv
        conv => lhs; unfold X4_leads_L5
        rw [if_neg (by rw [lit_le' (by decide) (by omega)]; omega), hv, cal_some, litA']
      conv => lhs; arg 2; rw [hg]
      rw [show X4_leads_L5 F (g + 1) (-9) 0 tx = _ from s1 g (-9) v0 0 (by decide) x0, hg1, s1 g1 _ v1 1 (by decide) x1, hg2, s1 g2 _ v2 2 (by decide) x2, hg3]
      unfold X4_leads_L5
      rw [if_pos (by decide)]
    have tI : ∀ x y : Int32, (imax x y).toInt = max x.toInt y.toInt := by
      intro x y
      unfold imax
      by_cases hh : x < y
      · rw [if_pos hh]
        rw [Int32.lt_iff_toInt_lt] at hh
        omega
      · rw [if_neg hh]
        rw [Int32.lt_iff_toInt_lt] at hh
        omega
    rw [hX, cal_some]
    refine ok _ _ _ rfl ?_
    have : imax v0 (imax v1 v2) = imax (imax (imax (-9) v0) v1) v2 := by
      apply Int32.toInt_inj.mp
      rw [tI, tI, tI, tI, tI, show (-9 : Int32).toInt = -9 by decide]
      omega
    rw [this]
  rw [if_neg c2, X11_isIn_eq, cal_some, bI_f, if_pos rfl]
  · exact ok _ _ _ rfl rfl
  · intro z
    obtain ⟨j, j1, j2, rfl⟩ := in_ex (lo := 0) (hi := 2) z (by decide) (by decide)
    have : j = 0 ∨ j = 1 ∨ j = 2 := by omega
    rcases this with rfl | rfl | rfl
    · exact c0 rfl
    · exact c1 rfl
    · exact c2 rfl
