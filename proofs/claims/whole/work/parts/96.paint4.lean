/-! PURE PART. Maps: the model's rounds -/
def M15 (ok : (Nat → Bool) → Bool) (q : Nat) (τ : Tau) : Prop := ∀ S, S < 256 → τ 15 S = nI (vL ok (zsL q) S.testBit)
theorem w_le (ok : (Nat → Bool) → Bool) {l n B : Nat} {S : Nat → Bool} (h : ∀ xs : List (Nat → Bool), xs.length = n → vL ok xs S ≤ B) : ∀ (cls p : List (Nat → Bool)), (p ++ cls).length = n → wL ok p cls l S ≤ cls.length * B := by
  intro cls
  induction cls with
  | nil => intro p _; exact Nat.zero_le _
  | cons c cls ih =>
    intro p hp
    show vL ok (p ++ insL c l :: cls) S + wL ok (p ++ [c]) cls l S ≤ (cls.length + 1) * B
    have a := h (p ++ insL c l :: cls) (by rw [List.length_append, List.length_cons] at hp ⊢; exact hp)
    have b := ih (p ++ [c]) (by rw [List.append_assoc]; exact hp)
    rw [Nat.succ_mul]
    omega
theorem v_le (ok : (Nat → Bool) → Bool) (n : Nat) : ∀ m, m ≤ 8 → ∀ cls : List (Nat → Bool), cls.length = n → vL ok cls (restL (8 - m)) ≤ n ^ m := by
  intro m
  induction m with
  | zero =>
    intro _ cls _
    rw [Nat.pow_zero]
    have hz : ∀ j, j < 8 → restL (8 - 0) j = false := fun j hj => decide_eq_false (by omega)
    have : ∀ cls : List (Nat → Bool), vL ok cls (restL (8 - 0)) ≤ 1 := by
      intro cls
      induction cls with
      | nil =>
        show (if empL (restL (8 - 0)) = true then 1 else 0) ≤ 1
        split <;> omega
      | cons c cls ih =>
        rw [v_none ok hz]
        split
        · exact ih
        · exact Nat.zero_le _
    exact this cls
  | succ m ih =>
    intro hm cls hc
    have hl : 7 - m < 8 := by omega
    obtain ⟨r1, r2⟩ := rest_ins hl
    rw [show 7 - m + 1 = 8 - m by omega] at r1 r2
    rw [show 8 - (m + 1) = 7 - m by omega, r1, land_step ok hl _ _ r2, Nat.pow_succ, Nat.mul_comm]
    have := w_le ok (l := 7 - m) (fun xs hx => ih (by omega) xs hx) cls [] hc
    rw [hc] at this
    exact this
theorem full_fun : Nat.testBit 255 = restL 0 := by
  funext j
  by_cases h : j < 8
  · have : ∀ j, j < 8 → Nat.testBit 255 j = restL 0 j := by decide
    exact this j h
  · rw [Nat.testBit_lt_two_pow (Nat.lt_of_lt_of_le (show 255 < 2 ^ 8 by decide) (Nat.pow_le_pow_right (by decide) (by omega)))]
    exact (decide_eq_false (by omega)).symm
theorem more15 {F s q : Nat} {a b : Nat → Nat} {tm : Tau} (hF : 5000 ≤ F) (hs : s ≤ 14) (m0 : tm 1 674 = nI s) (hm : ∀ i, i < s → a i < 8 ∧ b i < 8 ∧ tm 1 (675 + 2 * i) = nI (a i) ∧ tm 1 (676 + 2 * i) = nI (b i)) (h : M15 (okE s a b) q tm) : ∃ tm', X11_oneColourMore F tm = some (0, tm') ∧ M15 (okE s a b) (q + 1) tm' ∧ ∀ c j, c ≠ 15 → c ≠ 16 → tm' c j = tm c j := by
  have G : ∀ S, vL (okE s a b) (zsL (q + 1)) S.testBit = sT (fun T => if dfN T S = 0 then (if okE s a b T.testBit = true then vL (okE s a b) (zsL q) (dfN S T).testBit else 0) else 0) 256 := by
    intro S
    show ssL 8 S.testBit (fun f => if okE s a b (unL noL f) = true then vL (okE s a b) (zsL q) (dfL S.testBit f) else 0) = _
    rw [← sum_ss S 8]
    refine sT_congr _ (fun T _ => ?_)
    rw [show unL noL T.testBit = T.testBit from funext fun j => Bool.false_or _, dfN_fun]
  have inner : ∀ (S : Nat) (self : Int32 → Tau → Option (Int32 × Tau)), S < 256 → ∀ (m T f : Nat) (τ : Tau), T + m = S + 1 → m < f → M15 (okE s a b) q τ → (∀ c j, c ≠ 15 → c ≠ 16 → τ c j = tm c j) → τ 16 S = nI (sT (fun T => if dfN T S = 0 then (if okE s a b T.testBit = true then vL (okE s a b) (zsL q) (dfN S T).testBit else 0) else 0) T) → ∃ τ', X11_oneColourMore_L18 F self f (nI S) (nI T) τ = self (nI (S + 1)) τ' ∧ τ' 16 S = nI (vL (okE s a b) (zsL (q + 1)) S.testBit) ∧ (∀ B, B ≠ S → τ' 16 B = τ 16 B) ∧ ∀ c j, c ≠ 16 → τ' c j = τ c j := by
    intro S self hS m
    induction m with
    | zero =>
      intro T f τ hT hf h15 hc h16
      obtain ⟨g, rfl, -⟩ := fuel hf
      have : T = S + 1 := by omega
      subst this
      refine ⟨τ, ?_, ?_, fun _ _ => rfl, fun _ _ _ => rfl⟩
      · unfold X11_oneColourMore_L18
        rw [if_pos (nI_lt (by omega) (by omega)), litA']
      · rw [h16, G S]
        congr 1
        have hz : ∀ f : Nat → Nat, (∀ k, S < k → f k = 0) → sT f (S + 1) = sT f 256 := by
          intro f hf0
          have e := sT_add f (S + 1) (255 - S)
          rw [sT_zero (255 - S) (fun k _ => hf0 (S + 1 + k) (by omega)), Nat.add_zero, show S + 1 + (255 - S) = 256 by omega] at e
          exact e.symm
        exact hz _ (fun k hk => if_neg (fun z => by have := sub_le z; omega))
    | succ m ih =>
      intro T f τ hT hf h15 hc h16
      obtain ⟨g, rfl, -⟩ := fuel hf
      have kT : nI T + 1 = nI (T + 1) := litA'
      have hdl := dfN_le T S
      have hdl2 := dfN_le S T
      have hcond : (nI (dfN T S) = 0) ↔ dfN T S = 0 := by rw [show (0 : Int32) = nI 0 from rfl, nI_eq (by omega) (by omega)]
      have hone := one_M (F := F) (s := s) (T := T) (a := a) (b := b) (τ := τ) hF hs (by omega) ((hc 1 674 (by decide) (by decide)).trans m0) (fun i hi => ⟨(hm i hi).1, (hm i hi).2.1, (hc 1 _ (by decide) (by decide)).trans (hm i hi).2.2.1, (hc 1 _ (by decide) (by decide)).trans (hm i hi).2.2.2⟩)
      have hst : sT (fun T => if dfN T S = 0 then (if okE s a b T.testBit = true then vL (okE s a b) (zsL q) (dfN S T).testBit else 0) else 0) (T + 1) = sT (fun T => if dfN T S = 0 then (if okE s a b T.testBit = true then vL (okE s a b) (zsL q) (dfN S T).testBit else 0) else 0) T + (if dfN T S = 0 then (if okE s a b T.testBit = true then vL (okE s a b) (zsL q) (dfN S T).testBit else 0) else 0) := rfl
      conv => enter [1, τ', 1, 1]; unfold X11_oneColourMore_L18
      unfold X11_oneColourMore_j58
      rw [if_neg (show ¬ nI S < nI T by rw [nI_ltI (by omega) (by omega)]; omega), nI_dfN, nI_dfN, hone, cal_some, ite_bI, kT]
      by_cases d : dfN T S = 0
      · rw [if_pos d] at hst
        rw [if_pos (hcond.mpr d)]
        by_cases e : okE s a b T.testBit = true
        · rw [if_pos e] at hst
          obtain ⟨τ', e1, e2, e3, e4⟩ := ih (T + 1) g (up τ 16 S (nI (sT (fun T => if dfN T S = 0 then (if okE s a b T.testBit = true then vL (okE s a b) (zsL q) (dfN S T).testBit else 0) else 0) (T + 1)))) (by omega) (by omega) (fun B hB => (up_nc (by decide)).trans (h15 B hB)) (fun c j h1 h2 => (up_nc h2).trans (hc c j h1 h2)) up_c
          refine ⟨τ', ?_, e2, fun B hB => (e3 B hB).trans (up_nj hB), fun c j hcj => (e4 c j hcj).trans (up_nc hcj)⟩
          rw [if_pos e, ald_nI (by omega) (by omega), ald_nI (by omega) (by omega), h16, h15 _ (by omega), nI_add, ← hst, ast_nI (by omega) (by omega), e1]
        · rw [if_neg e, Nat.add_zero] at hst
          obtain ⟨τ', e1, e2, e3, e4⟩ := ih (T + 1) g τ (by omega) (by omega) h15 hc (by rw [hst]; exact h16)
          refine ⟨τ', ?_, e2, e3, e4⟩
          rw [if_neg e, e1]
      · rw [if_neg d, Nat.add_zero] at hst
        obtain ⟨τ', e1, e2, e3, e4⟩ := ih (T + 1) g τ (by omega) (by omega) h15 hc (by rw [hst]; exact h16)
        refine ⟨τ', ?_, e2, e3, e4⟩
        rw [if_neg (fun z => d (hcond.mp z)), e1]
  have copy : ∀ (m S f : Nat) (τ : Tau), S + m = 256 → m < f → (∀ B, B < 256 → τ 16 B = nI (vL (okE s a b) (zsL (q + 1)) B.testBit)) → (∀ B, B < S → τ 15 B = nI (vL (okE s a b) (zsL (q + 1)) B.testBit)) → (∀ c j, c ≠ 15 → c ≠ 16 → τ c j = tm c j) → ∃ τ', X11_oneColourMore_L72 F f (nI S) τ = some (0, τ') ∧ M15 (okE s a b) (q + 1) τ' ∧ ∀ c j, c ≠ 15 → c ≠ 16 → τ' c j = tm c j := by
    intro m
    induction m with
    | zero =>
      intro S f τ hS hf h16 h15 hc
      obtain ⟨g, rfl, -⟩ := fuel hf
      have : S = 256 := by omega
      subst this
      refine ⟨τ, ?_, h15, hc⟩
      unfold X11_oneColourMore_L72
      rw [if_pos (by decide)]
    | succ m ih =>
      intro S f τ hS hf h16 h15 hc
      obtain ⟨g, rfl, -⟩ := fuel hf
      obtain ⟨τ', e1, e2, e3⟩ := ih (S + 1) g (up τ 15 S (τ 16 S)) (by omega) (by omega) (fun B hB => (up_nc (by decide)).trans (h16 B hB)) (fun B hB => by
        by_cases e : B = S
        · subst e; rw [up_c]; exact h16 _ (by omega)
        · rw [up_nj e]; exact h15 B (by omega)) (fun c j h1 h2 => (up_nc h1).trans (hc c j h1 h2))
      refine ⟨τ', ?_, e2, e3⟩
      conv => lhs; unfold X11_oneColourMore_L72
      rw [if_neg (by rw [lit_le' (by decide) (by omega)]; omega), ald_nI (by omega) (by omega), ast_nI (by omega) (by omega), litA', e1]
  have outer : ∀ (m S f : Nat) (τ : Tau), S + m = 256 → m < f → M15 (okE s a b) q τ → (∀ B, B < S → τ 16 B = nI (vL (okE s a b) (zsL (q + 1)) B.testBit)) → (∀ c j, c ≠ 15 → c ≠ 16 → τ c j = tm c j) → ∃ τ', X11_oneColourMore_L2 F f (nI S) τ = some (0, τ') ∧ M15 (okE s a b) (q + 1) τ' ∧ ∀ c j, c ≠ 15 → c ≠ 16 → τ' c j = tm c j := by
    intro m
    induction m with
    | zero =>
      intro S f τ hS hf h15 h16 hc
      obtain ⟨g, rfl, -⟩ := fuel hf
      have : S = 256 := by omega
      subst this
      unfold X11_oneColourMore_L2
      rw [if_pos (by decide)]
      exact copy 256 0 F τ (by omega) (by omega) h16 (fun B hB => absurd hB (Nat.not_lt_zero B)) hc
    | succ m ih =>
      intro S f τ hS hf h15 h16 hc
      obtain ⟨g, rfl, -⟩ := fuel hf
      obtain ⟨τ1, e1, e2, e3, e4⟩ := inner S (X11_oneColourMore_L2 F g) (by omega) (S + 1) 0 F (up τ 16 S 0) (by omega) (by omega) (fun B hB => (up_nc (by decide)).trans (h15 B hB)) (fun c j h1 h2 => (up_nc h2).trans (hc c j h1 h2)) up_c
      obtain ⟨τ2, f1, f2, f3⟩ := ih (S + 1) g τ1 (by omega) (by omega) (fun B hB => by rw [e4 _ _ (by decide), up_nc (by decide)]; exact h15 B hB) (fun B hB => by
        by_cases e : B = S
        · subst e; exact e2
        · rw [e3 B e, up_nj e]; exact h16 B (by omega)) (fun c j h1 h2 => by rw [e4 c j h2, up_nc h2]; exact hc c j h1 h2)
      refine ⟨τ2, ?_, f2, f3⟩
      conv => lhs; unfold X11_oneColourMore_L2
      rw [if_neg (by rw [lit_le' (by decide) (by omega)]; omega), ast_nI (by omega) (by omega)]
      exact e1.trans f1
  exact outer 256 0 F tm (by omega) (by omega) h (fun B hB => absurd hB (Nat.not_lt_zero B)) (fun _ _ _ _ => rfl)
