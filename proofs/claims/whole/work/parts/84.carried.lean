/-! PURE PART. Steps: carried -/
theorem shl_p {d : Nat} (hd : d < 31) : shl 1 (nI d) = nI (2 ^ d) := by
  have := nI_shl (a := 1) (k := d) hd (by rw [Nat.one_mul]; exact Nat.pow_lt_pow_right (by decide) hd)
  rw [Nat.one_mul] at this
  exact this
theorem bit_nI {A k : Nat} (hA : A < 2 ^ 31) (hk : k < 32) : (shr (nI A) (nI k)) &&& 1 = nI (A / 2 ^ k % 2) := by
  rw [nI_shr hA hk, an1 (by have := Nat.div_le_self A (2 ^ k); omega)]
theorem fill_X {F t0 : Nat} {v : Int32} (hl : lnX t0 < 2 ^ 31) : ∀ (m i f : Nat) (τ : Tau), i + m = lnX t0 → m < f → ∃ τ', X_Arrays_fill___II_V_L5 F t0 f v (nI i) (nI (lnX t0)) τ = some (0, τ') ∧ (∀ j, i ≤ j → j < lnX t0 → τ' t0 j = v) ∧ (∀ j, j < i → τ' t0 j = τ t0 j) ∧ ∀ c j, c ≠ t0 → τ' c j = τ c j := by
  intro m
  induction m with
  | zero =>
    intro i f τ hi hf
    obtain ⟨g, rfl, -⟩ := fuel hf
    refine ⟨τ, ?_, fun j h1 h2 => absurd h1 (by omega), fun _ _ => rfl, fun _ _ _ => rfl⟩
    unfold X_Arrays_fill___II_V_L5
    rw [if_pos (nI_le (by omega) (by omega))]
  | succ m ih =>
    intro i f τ hi hf
    obtain ⟨g, rfl, -⟩ := fuel hf
    obtain ⟨τ', e1, e2, e3, e4⟩ := ih (i + 1) g (up τ t0 i v) (by omega) (by omega)
    refine ⟨τ', ?_, fun j h1 h2 => ?_, fun j hj => ?_, fun c j hc => ?_⟩
    · conv => lhs; unfold X_Arrays_fill___II_V_L5
      rw [if_neg (nI_ge (by omega) (by omega)), ast_nI (by omega) (by omega), litA', e1]
    · by_cases e : j = i
      · subst e
        rw [e3 _ (by omega), up_c]
      · exact e2 j (by omega) h2
    · rw [e3 j (by omega), up_nj (by omega)]
    · rw [e4 c j hc, up_nc hc]
theorem fill_all {F t0 : Nat} {v : Int32} (hl : lnX t0 < 5000) (hF : 5000 ≤ F) (τ : Tau) : ∃ τ', X_Arrays_fill___II_V F t0 v τ = some (0, τ') ∧ (∀ j, j < lnX t0 → τ' t0 j = v) ∧ ∀ c j, c ≠ t0 → τ' c j = τ c j := by
  obtain ⟨τ', e1, e2, e3, e4⟩ := fill_X (F := F) (t0 := t0) (v := v) (by omega) (lnX t0) 0 F τ (by omega) (by omega)
  exact ⟨τ', e1, fun j hj => e2 j (Nat.zero_le _) hj, e4⟩
/-- what the chosen of the first k give together -/
def sm (f : Nat → Nat) : Nat → Nat → Nat
  | 0, _ => 0
  | k + 1, A => sm f k A + if A / 2 ^ k % 2 = 1 then f k else 0
theorem sm_low {f : Nat → Nat} {A B : Nat} : ∀ i, (∀ k, k < i → A / 2 ^ k % 2 = B / 2 ^ k % 2) → sm f i A = sm f i B := by
  intro i
  induction i with
  | zero => intro _; rfl
  | succ i ih =>
    intro h
    unfold sm
    rw [ih (fun k hk => h k (by omega)), h i (by omega)]
theorem sm_ext {f : Nat → Nat} {A i : Nat} (h : A < 2 ^ i) : ∀ d, sm f (i + d) A = sm f i A := by
  intro d
  induction d with
  | zero => rfl
  | succ d ih =>
    show sm f (i + d) A + (if A / 2 ^ (i + d) % 2 = 1 then f (i + d) else 0) = _
    rw [ih, Nat.div_eq_of_lt (Nat.lt_of_lt_of_le h (Nat.pow_le_pow_right (by decide) (by omega)))]
    rfl
theorem bit_low {B i k : Nat} (hk : k < i) : (B + 2 ^ i) / 2 ^ k % 2 = B / 2 ^ k % 2 := by
  have e : 2 ^ i = 2 ^ k * (2 * 2 ^ (i - k - 1)) := by
    rw [show i = k + (1 + (i - k - 1)) by omega, Nat.pow_add, Nat.pow_add, show k + (1 + (i - k - 1)) - k - 1 = i - k - 1 by omega]
  rw [e, Nat.add_mul_div_left _ _ (Nat.two_pow_pos k)]
  omega
theorem bit_top {B i : Nat} (h : B < 2 ^ i) : (B + 2 ^ i) / 2 ^ i = 1 := by
  rw [Nat.add_div_right _ (Nat.two_pow_pos i), Nat.div_eq_of_lt h]
theorem sm_add {f : Nat → Nat} {B i s : Nat} (h : B < 2 ^ i) (hi : i < s) : sm f s (B + 2 ^ i) = sm f s B + f i := by
  obtain ⟨d, rfl⟩ : ∃ d, s = i + 1 + d := ⟨s - i - 1, by omega⟩
  have h2 : B + 2 ^ i < 2 ^ (i + 1) := by rw [Nat.pow_succ]; omega
  have h3 : B < 2 ^ (i + 1) := by rw [Nat.pow_succ]; omega
  rw [sm_ext h2 d, sm_ext h3 d, sm_ext h 1]
  show sm f i (B + 2 ^ i) + (if (B + 2 ^ i) / 2 ^ i % 2 = 1 then f i else 0) = _
  rw [bit_top h, if_pos rfl, sm_low i (fun k hk => bit_low hk)]
theorem loa_out {tx : Tau} {w : Nat → Int32} (h : Rloa (rsX 21 22 (vX 1 tx)) (rsM 608 629 (vM w))) : ∃ s, s ≤ 10 ∧ tx 22 0 = nI s ∧ w 608 = nI s ∧ ∀ i, i < s → ∃ g v, 1 ≤ g ∧ g ≤ 30 ∧ v ≤ 99 ∧ tx 23 i = nI (100 * g + v) ∧ w (609 + 2 * i) = nI g ∧ w (610 + 2 * i) = nI v := by
  obtain ⟨s, s1, s2, s3, s4⟩ := h
  rw [rsX_at (by omega), vX_at (by omega) (by decide)] at s2
  rw [rsM_at (by omega), vM_at (by omega)] at s3
  refine ⟨s, s1, s2, s3, fun i hi => ?_⟩
  obtain ⟨g, v, h1, h2, h3, h4, h5, h6⟩ := s4 i hi
  rw [rsX_at (by omega), vX_at (by omega) (by show i < 10; omega)] at h4
  rw [rsM_at (by omega), vM_at (by omega)] at h5 h6
  exact ⟨g, v, h1, h2, h3, h4, h5, h6⟩
theorem Pc.loads {T nP nM : Nat} {q : Nat → Nat} {tx tm : Tau} (h : Pc T nP nM q tx tm) : ∃ (s : Nat) (g v : Nat → Nat), s ≤ 10 ∧ tx 22 0 = nI s ∧ tm 1 608 = nI s ∧ ∀ i, i < s → g i ≤ 30 ∧ v i ≤ 99 ∧ tx 23 i = nI (100 * g i + v i) ∧ tm 1 (609 + 2 * i) = nI (g i) ∧ tm 1 (610 + 2 * i) = nI (v i) := by
  obtain ⟨s, s1, s2, s3, s4⟩ := loa_out h.1.2.2.2.2.2.2.2.2.1.2.2.2.2.2.2.2.2.1
  have : ∀ i, ∃ gv : Nat × Nat, i < s → gv.1 ≤ 30 ∧ gv.2 ≤ 99 ∧ tx 23 i = nI (100 * gv.1 + gv.2) ∧ tm 1 (609 + 2 * i) = nI gv.1 ∧ tm 1 (610 + 2 * i) = nI gv.2 := by
    intro i
    by_cases hi : i < s
    · obtain ⟨g, v, h1, h2, h3, h4, h5, h6⟩ := s4 i hi
      exact ⟨(g, v), fun _ => ⟨h2, h3, h4, h5, h6⟩⟩
    · exact ⟨(0, 0), fun z => absurd z hi⟩
  exact ⟨s, fun i => (this i).choose.1, fun i => (this i).choose.2, s1, s2, s3, fun i hi => (this i).choose_spec hi⟩
/-- the better of two -/
def bstC (cap : Int32) (g v : Nat → Nat) (s A b : Nat) : Nat := if cap < nI (sm g s A) then b else if nI (sm v s A) ≤ nI (sm v s b) then b else A
def bstN (cap : Int32) (g v : Nat → Nat) (s : Nat) : Nat → Nat
  | 0 => 0
  | A + 1 => bstC cap g v s A (bstN cap g v s A)
theorem bstN_le (cap : Int32) (g v : Nat → Nat) (s : Nat) : ∀ A, bstN cap g v s A ≤ A := by
  intro A
  induction A with
  | zero => exact Nat.le_refl _
  | succ A ih =>
    show bstC cap g v s A (bstN cap g v s A) ≤ A + 1
    unfold bstC
    split
    · omega
    · split <;> omega
theorem bstN_1 (cap : Int32) (g v : Nat → Nat) (s : Nat) : bstN cap g v s 1 = 0 := by
  have := bstN_le cap g v s 0
  show bstC cap g v s 0 (bstN cap g v s 0) = 0
  rw [show bstN cap g v s 0 = 0 from rfl]
  unfold bstC
  split
  · rfl
  · split <;> rfl
theorem bstN_lt (cap : Int32) (g v : Nat → Nat) (s : Nat) : ∀ A, 1 ≤ A → bstN cap g v s A < A := by
  intro A
  induction A with
  | zero => intro h; exact absurd h (by decide)
  | succ A ih =>
    intro _
    by_cases e : A = 0
    · subst e
      rw [bstN_1]
      decide
    · have := ih (by omega)
      show bstC cap g v s A (bstN cap g v s A) < A + 1
      unfold bstC
      split
      · omega
      · split <;> omega
def DpOK (g v : Nat → Nat) (s B : Nat) (tx τ : Tau) : Prop := (∀ A, A < B → τ 214 A = nI (sm g s A) ∧ τ 215 A = nI (sm v s A)) ∧ ∀ c j, c ≠ 214 → c ≠ 215 → τ c j = tx c j
theorem allOf_M {F s c A : Nat} {f : Nat → Nat} {tm : Tau} (hs : s ≤ 10) (hc : c < 2) (m0 : tm 1 608 = nI s) (hf : ∀ i, i < s → tm 1 (609 + 2 * i + c) = nI (f i)) (hA : A < 1024) (hF : 5000 ≤ F) : X11_allOf F (nI A) (nI c) tm = some (nI (sm f s A), tm) := by
  have key : ∀ (m i fm : Nat), i + m = s → m < fm → X11_allOf_L5 F fm (nI A) (nI c) (nI (sm f i A)) (nI i) tm = some (nI (sm f s A), tm) := by
    intro m
    induction m with
    | zero =>
      intro i fm him hfm
      obtain ⟨gm, rfl, -⟩ := fuel hfm
      have : i = s := by omega
      subst this
      unfold X11_allOf_L5
      rw [ald_lit (by decide) (by decide), m0, if_pos (nI_le (Nat.le_refl _) (by omega))]
    | succ m ih =>
      intro i fm him hfm
      obtain ⟨gm, rfl, -⟩ := fuel hfm
      have hk := ih (i + 1) gm (by omega) (by omega)
      rw [show sm f (i + 1) A = sm f i A + (if A / 2 ^ i % 2 = 1 then f i else 0) from rfl] at hk
      conv => lhs; unfold X11_allOf_L5
      unfold X11_allOf_j48
      have hz : (609 : Int32) + 2 * nI i + nI c = nI (609 + 2 * i + c) := by rw [litM, litA, nI_add]
      have ki : nI i + 1 = nI (i + 1) := litA'
      rw [ald_lit (by decide) (by decide), m0, if_neg (nI_ge (by omega) (by omega)), bit_nI (by omega) (by omega), hz, ald_nI (by omega) (by omega), hf i (by omega), ki]
      by_cases e : A / 2 ^ i % 2 = 1
      · rw [if_pos e] at hk
        rw [if_pos (by rw [e]; rfl), nI_add]
        exact hk
      · rw [if_neg e, Nat.add_zero] at hk
        rw [if_neg (show ¬ nI (A / 2 ^ i % 2) = 1 by rw [lit_eq (by decide) (by omega)]; exact e), show nI (sm f i A) + (0 : Int32) = nI (sm f i A + 0) from litA', Nat.add_zero]
        exact hk
  exact key s 0 F (by omega) (by omega)
theorem worth_X {F s A : Nat} {g v : Nat → Nat} {tx : Tau} (hs : s ≤ 10) (x0 : tx 22 0 = nI s) (hf : ∀ i, i < s → g i ≤ 30 ∧ v i ≤ 99 ∧ tx 23 i = nI (100 * g i + v i)) (hA : A < 1024) (hF : 5000 ≤ F) : X4_worthOf F (nI A) tx = some (nI (sm v s A), tx) := by
  have key : ∀ (m i fm : Nat), i + m = s → m < fm → X4_worthOf_L4 F fm (nI A) (nI (sm v i A)) (nI i) tx = some (nI (sm v s A), tx) := by
    intro m
    induction m with
    | zero =>
      intro i fm him hfm
      obtain ⟨gm, rfl, -⟩ := fuel hfm
      have : i = s := by omega
      subst this
      unfold X4_worthOf_L4
      rw [x0, if_pos (nI_le (Nat.le_refl _) (by omega))]
    | succ m ih =>
      intro i fm him hfm
      obtain ⟨gm, rfl, -⟩ := fuel hfm
      obtain ⟨h1, h2, h3⟩ := hf i (by omega)
      have hk := ih (i + 1) gm (by omega) (by omega)
      rw [show sm v (i + 1) A = sm v i A + (if A / 2 ^ i % 2 = 1 then v i else 0) from rfl] at hk
      conv => lhs; unfold X4_worthOf_L4
      unfold X4_worthOf_j45
      have ki : nI i + 1 = nI (i + 1) := litA'
      rw [x0, if_neg (nI_ge (by omega) (by omega)), bit_nI (by omega) (by omega), X5_get_in (cap := 10) rfl (by decide) x0 (by omega) hs, cal_some, show tx (22 + 1) i = _ from h3, ki, show (100 : Int32) = nI 100 from rfl, nI_rmd (by omega) (by decide) (by decide), show (100 * g i + v i) % 100 = v i by omega]
      by_cases e : A / 2 ^ i % 2 = 1
      · rw [if_pos e] at hk
        rw [if_neg (by rw [e]; decide), nI_add]
        exact hk
      · rw [if_neg e, Nat.add_zero] at hk
        rw [if_pos (by rw [show A / 2 ^ i % 2 = 0 by omega]; rfl), show nI (sm v i A) + (0 : Int32) = nI (sm v i A + 0) from litA', Nat.add_zero]
        exact hk
  exact key s 0 F (by omega) (by omega)
theorem load_in {F s i : Nat} {cap : Int32} {g v : Nat → Nat} {tx : Tau} {self : Int32 → Int32 → Int32 → Tau → Option (Int32 × Tau)} (hs : s ≤ 10) (hi : i < s) (hg : ∀ k, k < s → g k ≤ 30 ∧ v k ≤ 99) : ∀ (m A f : Nat) (τ : Tau), A + m = 2 ^ (i + 1) → 2 ^ i ≤ A → m < f → DpOK g v s A tx τ → ∃ τ', X4_bestLoad_L71 F self f cap (nI (bstN cap g v s A)) (nI i) (nI (g i)) (nI (v i)) (nI A) τ = self cap (nI (bstN cap g v s (2 ^ (i + 1)))) (nI (i + 1)) τ' ∧ DpOK g v s (2 ^ (i + 1)) tx τ' := by
  have p10 : 2 ^ (i + 1) ≤ 1024 := Nat.pow_le_pow_right (n := 2) (by decide) (show i + 1 ≤ 10 by omega)
  have pss : 2 ^ (i + 1) = 2 ^ i * 2 := Nat.pow_succ 2 i
  have hsh2 : shl 2 (nI i) = nI (2 ^ (i + 1)) := by
    rw [show (2 : Int32) = nI 2 from rfl, nI_shl (by omega) (by omega), pss, Nat.mul_comm]
  intro m
  induction m with
  | zero =>
    intro A f τ hA hA2 hf hD
    obtain ⟨gx, rfl, -⟩ := fuel hf
    have : A = 2 ^ (i + 1) := by omega
    rw [this] at hD ⊢
    refine ⟨τ, ?_, hD⟩
    unfold X4_bestLoad_L71
    rw [hsh2, if_pos (nI_le (Nat.le_refl _) (by omega)), litA']
  | succ m ih =>
    intro A f τ hA hA2 hf hD
    obtain ⟨gx, rfl, -⟩ := fuel hf
    obtain ⟨B, rfl⟩ : ∃ B, A = B + 2 ^ i := ⟨A - 2 ^ i, by omega⟩
    have hB : B < 2 ^ i := by omega
    have hb := bstN_lt cap g v s (B + 2 ^ i) (by have := Nat.two_pow_pos i; omega)
    have hpos := Nat.two_pow_pos i
    generalize hbb : bstN cap g v s (B + 2 ^ i) = b at hb ⊢
    have ag : sm g s (B + 2 ^ i) = sm g s B + g i := sm_add hB hi
    have av : sm v s (B + 2 ^ i) = sm v s B + v i := sm_add hB hi
    have nB : nI (B + 2 ^ i) - nI (2 ^ i) = nI B := by rw [nI_sub (by omega), Nat.add_sub_cancel]
    have hD' : DpOK g v s (B + 2 ^ i + 1) tx (up (up τ 214 (B + 2 ^ i) (nI (sm g s (B + 2 ^ i)))) 215 (B + 2 ^ i) (nI (sm v s (B + 2 ^ i)))) := by
      refine ⟨fun A hA => ?_, fun c j h1 h2 => ?_⟩
      · by_cases e : A = B + 2 ^ i
        · subst e
          exact ⟨(up_nc (by decide)).trans up_c, up_c⟩
        · obtain ⟨h1, h2⟩ := hD.1 A (by omega)
          exact ⟨by rw [up_nc (by decide), up_nj e, h1], by rw [up_nj e, up_nc (by decide), h2]⟩
      · rw [up_nc h2, up_nc h1, hD.2 c j h1 h2]
    have hX : X4_bestLoad_L71 F self (gx + 1) cap (nI b) (nI i) (nI (g i)) (nI (v i)) (nI (B + 2 ^ i)) τ = X4_bestLoad_L71 F self gx cap (nI (bstC cap g v s (B + 2 ^ i) b)) (nI i) (nI (g i)) (nI (v i)) (nI (B + 2 ^ i + 1)) (up (up τ 214 (B + 2 ^ i) (nI (sm g s (B + 2 ^ i)))) 215 (B + 2 ^ i) (nI (sm v s (B + 2 ^ i)))) := by
      conv => lhs; unfold X4_bestLoad_L71
      unfold X4_bestLoad_j169
      rw [hsh2, shl_p (show i < 31 by omega), nB, if_neg (nI_ge (by omega) (by omega)), X10_entry_in (N := 1024) rfl (by omega) (by decide), cal_some, X10_put_in (N := 1024) rfl (by omega) (by decide), cal_some, (hD.1 B (by omega)).1, nI_add, ← ag]
      rw [X10_entry_in (N := 1024) rfl (by omega) (by decide), cal_some, X10_put_in (N := 1024) rfl (by omega) (by decide), cal_some, up_nc (show (215 : Nat) ≠ 214 by decide), (hD.1 B (by omega)).2, nI_add, ← av]
      rw [X10_entry_in (N := 1024) rfl (by omega) (by decide), cal_some, X10_entry_in (N := 1024) rfl (by omega) (by decide), cal_some, X10_entry_in (N := 1024) rfl (by omega) (by decide), cal_some, litA']
      rw [(hD'.1 (B + 2 ^ i) (by omega)).1, (hD'.1 (B + 2 ^ i) (by omega)).2, (hD'.1 b (by omega)).2]
      unfold bstC
      split
      · rfl
      · split <;> rfl
    obtain ⟨τ', e1, e2⟩ := ih (B + 2 ^ i + 1) gx _ (by omega) (by omega) (by omega) hD'
    refine ⟨τ', ?_, e2⟩
    rw [hX, ← e1, show bstN cap g v s (B + 2 ^ i + 1) = bstC cap g v s (B + 2 ^ i) (bstN cap g v s (B + 2 ^ i)) from rfl, hbb]
theorem step30 (F : Nat) (hF : 5000 ≤ F) : Step30 F Rl := by
  intro n tx tm a1 a2 _ h
  have no : ∀ (x m : Option (Int32 × Tau)), x = some (-1, tx) → m = some (-1, tm) → ∃ r tx' tm', x = some (r, tx') ∧ m = some (r, tm') ∧ Rl (n + 1) tx' tm' := fun x m e1 e2 => ⟨-1, tx, tm, e1, e2, Rl_mono n tx tm h⟩
  obtain ⟨nP, nM, q, hP⟩ := h.pc
  obtain ⟨s, g, v, s1, s2, s3, s4⟩ := hP.loads
  have hg : ∀ k, k < s → g k ≤ 30 ∧ v k ≤ 99 := fun k hk => ⟨(s4 k hk).1, (s4 k hk).2.1⟩
  unfold X10_carried X11_carried
  rw [X10_within_eq, cal_some, X11_isIn_eq, cal_some]
  by_cases p1 : (0 : Int32) ≤ a1 ∧ a1 ≤ 200
  · rw [bI_t p1, if_neg n10, if_neg n10, X10_within_eq, cal_some, X11_isIn_eq, cal_some]
    by_cases p2 : (0 : Int32) ≤ a2 ∧ a2 ≤ 1
    · rw [bI_t p2, if_neg n10, if_neg n10]
      have p10 : 2 ^ s ≤ 1024 := Nat.pow_le_pow_right (n := 2) (by decide) (show s ≤ 10 by omega)
      have ppos := Nat.two_pow_pos s
      have hMg : ∀ A, A < 1024 → X11_allOf F (nI A) 0 tm = some (nI (sm g s A), tm) := fun A hA => allOf_M (c := 0) s1 (by decide) s3 (fun i hi => (s4 i hi).2.2.2.1) hA hF
      have hMv : ∀ A, A < 1024 → X11_allOf F (nI A) 1 tm = some (nI (sm v s A), tm) := fun A hA => allOf_M (c := 1) s1 (by decide) s3 (fun i hi => by rw [show 609 + 2 * i + 1 = 610 + 2 * i by omega]; exact (s4 i hi).2.2.2.2) hA hF
      have hM : ∀ (m A f : Nat), A + m = 2 ^ s → 1 ≤ A → m < f → X11_carried_L27 F f a1 a2 (nI (bstN a1 g v s A)) (nI A) tm = (if a2 = 0 then some (nI (sm v s (bstN a1 g v s (2 ^ s))), tm) else some (nI (bstN a1 g v s (2 ^ s)), tm)) := by
        intro m
        induction m with
        | zero =>
          intro A f hA h1 hf
          obtain ⟨gm, rfl, -⟩ := fuel hf
          have hA2 : A = 2 ^ s := by omega
          subst hA2
          have hb := bstN_le a1 g v s (2 ^ s)
          have hb2 := bstN_lt a1 g v s (2 ^ s) h1
          unfold X11_carried_L27
          rw [ald_lit (by decide) (by decide), s3, shl_p (by omega), if_pos (nI_le (Nat.le_refl _) (by omega)), hMv _ (by omega), cal_some]
        | succ m ih =>
          intro A f hA h1 hf
          obtain ⟨gm, rfl, -⟩ := fuel hf
          have hb2 := bstN_lt a1 g v s A h1
          have hk := ih (A + 1) gm (by omega) (by omega) (by omega)
          rw [show bstN a1 g v s (A + 1) = bstC a1 g v s A (bstN a1 g v s A) from rfl] at hk
          unfold bstC at hk
          conv => lhs; unfold X11_carried_L27
          unfold X11_carried_j72
          rw [ald_lit (by decide) (by decide), s3, shl_p (by omega), if_neg (nI_ge (by omega) (by omega)), hMg _ (by omega), cal_some, hMv _ (by omega), cal_some, hMv _ (by omega), cal_some, litA']
          by_cases c : a1 < nI (sm g s A)
          · rw [if_pos c] at hk
            rw [if_pos c]
            exact hk
          · rw [if_neg c] at hk
            rw [if_neg c]
            by_cases d : nI (sm v s A) ≤ nI (sm v s (bstN a1 g v s A))
            · rw [if_pos d] at hk
              rw [if_pos d]
              exact hk
            · rw [if_neg d] at hk
              rw [if_neg d]
              exact hk
      have hM1 := hM (2 ^ s - 1) 1 F (by omega) (by decide) (by omega)
      rw [bstN_1] at hM1
      have hX : ∀ (m i f : Nat) (τ : Tau), i + m = s → m < f → DpOK g v s (2 ^ i) tx τ → ∃ τ', X4_bestLoad_L20 F f a1 (nI (bstN a1 g v s (2 ^ i))) (nI i) τ = some (nI (bstN a1 g v s (2 ^ s)), τ') ∧ DpOK g v s (2 ^ s) tx τ' := by
        intro m
        induction m with
        | zero =>
          intro i f τ him hf hD
          obtain ⟨gx, rfl, -⟩ := fuel hf
          have : i = s := by omega
          subst this
          refine ⟨τ, ?_, hD⟩
          unfold X4_bestLoad_L20
          rw [hD.2 22 0 (by decide) (by decide), s2, if_pos (nI_le (Nat.le_refl _) (by omega))]
        | succ m ih =>
          intro i f τ him hf hD
          obtain ⟨gx, rfl, -⟩ := fuel hf
          obtain ⟨g1, v1, e23, -, -⟩ := s4 i (by omega)
          have h22 : τ 22 0 = nI s := (hD.2 22 0 (by decide) (by decide)).trans s2
          have h23 : τ (22 + 1) i = nI (100 * g i + v i) := (hD.2 23 i (by decide) (by decide)).trans e23
          have pss : 2 ^ (i + 1) = 2 ^ i * 2 := Nat.pow_succ 2 i
          have p10 : 2 ^ (i + 1) ≤ 1024 := Nat.pow_le_pow_right (n := 2) (by decide) (show i + 1 ≤ 10 by omega)
          obtain ⟨τ1, e1, e2⟩ := load_in (F := F) (cap := a1) (tx := tx) (self := X4_bestLoad_L20 F gx) s1 (show i < s by omega) hg (2 ^ i) (2 ^ i) F τ (by omega) (Nat.le_refl _) (by omega) hD
          obtain ⟨τ2, e3, e4⟩ := ih (i + 1) gx τ1 (by omega) (by omega) e2
          refine ⟨τ2, ?_, e4⟩
          conv => lhs; unfold X4_bestLoad_L20
          rw [h22, if_neg (nI_ge (by omega) (by omega)), X5_get_in (cap := 10) rfl (by decide) h22 (by omega) s1, cal_some, X5_get_in (cap := 10) rfl (by decide) h22 (by omega) s1, cal_some, h23, show (100 : Int32) = nI 100 from rfl, nI_rmd (by omega) (by decide) (by decide), nI_div (by omega) (by decide) (by decide), show (100 * g i + v i) % 100 = v i by omega, show (100 * g i + v i) / 100 = g i by omega, shl_p (by omega), e1, e3]
      obtain ⟨x1, f1, f2, f3⟩ := fill_all (F := F) (t0 := 214) (v := 0) (by decide) hF tx
      obtain ⟨x2, k1, k2, k3⟩ := fill_all (F := F) (t0 := 215) (v := 0) (by decide) hF x1
      have sm0 : ∀ f : Nat → Nat, sm f s 0 = 0 := fun f => by
        have := sm_ext (f := f) (A := 0) (i := 0) (by decide) s
        rw [Nat.zero_add] at this
        rw [this]
        rfl
      obtain ⟨x3, l1, l2⟩ := hX s 0 F x2 (by omega) (by omega) ⟨fun A hA => by
        have : A = 0 := by rw [Nat.pow_zero] at hA; omega
        subst this
        rw [sm0, sm0]
        exact ⟨(k3 214 0 (by decide)).trans (f2 0 (by decide)), k2 0 (by decide)⟩, fun c j h1 h2 => by rw [k3 c j h2, f3 c j h1]⟩
      rw [Nat.pow_zero, bstN_1] at l1
      have hb2 := bstN_lt a1 g v s (2 ^ s) ppos
      have hXb : X4_bestLoad F a1 tx = some (nI (bstN a1 g v s (2 ^ s)), x3) := by
        unfold X4_bestLoad
        rw [f1, cal_some, k1, cal_some]
        exact l1
      have hend : Rl (n + 1) x3 tm := Rl.same h (fun c j hc => l2.2 c j (by rcases hc with hc | hc; (unfold wnX at hc; omega); (unfold coX at hc; omega)) (by rcases hc with hc | hc; (unfold wnX at hc; omega); (unfold coX at hc; omega))) (fun _ _ _ => rfl)
      rw [hXb, cal_some, show X11_carried_L27 F F a1 a2 0 1 tm = _ from hM1]
      by_cases c : a2 = 0
      · rw [if_pos c, if_pos c, worth_X (g := g) (v := v) s1 ((l2.2 22 0 (by decide) (by decide)).trans s2) (fun i hi => ⟨(s4 i hi).1, (s4 i hi).2.1, (l2.2 23 i (by decide) (by decide)).trans (s4 i hi).2.2.1⟩) (by omega) hF, cal_some]
        exact ⟨_, x3, tm, rfl, rfl, hend⟩
      · rw [if_neg c, if_neg c]
        exact ⟨_, x3, tm, rfl, rfl, hend⟩
    · rw [bI_f p2, if_pos rfl, if_pos rfl]
      exact no _ _ rfl rfl
  · rw [bI_f p1, if_pos rfl, if_pos rfl]
    exact no _ _ rfl rfl
