/-! PURE PART. Maps: the model's answer -/
def wq (s : Nat) (a b : Nat → Nat) (q : Nat) : Nat := vL (okE s a b) (zsL q) (restL 0)
theorem wq_le {s q : Nat} {a b : Nat → Nat} (hq : q ≤ 5) : wq s a b q < 2 ^ 31 := by
  have := v_le (okE s a b) q 8 (Nat.le_refl _) (zsL q) (List.length_replicate)
  have h5 : q ^ 8 ≤ 5 ^ 8 := Nat.pow_le_pow_left hq 8
  have h6 : (5 : Nat) ^ 8 < 2 ^ 31 := by decide
  rw [Nat.sub_self] at this
  unfold wq
  omega
theorem emp_fin : ∀ S, S < 256 → empL S.testBit = decide (S = 0) := by decide +kernel
theorem map_M {F s N : Nat} {a b : Nat → Nat} {tm : Tau} {a1 : Int32} (hF : 5000 ≤ F) (hs : s ≤ 14) (m0 : tm 1 674 = nI s) (hm : ∀ i, i < s → a i < 8 ∧ b i < 8 ∧ tm 1 (675 + 2 * i) = nI (a i) ∧ tm 1 (676 + 2 * i) = nI (b i)) (hN : N ≤ 5) (ha : a1 = nI N ∨ (a1 = -1 ∧ wq s a b N ≠ 0 ∧ ∀ k, k < N → wq s a b k = 0)) : ∃ tm', X11_map_L13 F F a1 0 tm = some (if a1 = -1 then nI N else nI (wq s a b N), tm') ∧ ∀ c j, c ≠ 15 → c ≠ 16 → tm' c j = tm c j := by
  have w255 : ∀ q τ, M15 (okE s a b) q τ → τ 15 255 = nI (wq s a b q) := fun q τ h => by
    have := h 255 (by decide)
    rw [full_fun] at this
    exact this
  have loop : ∀ (m q f : Nat) (τ : Tau), q + m = N → m < f → M15 (okE s a b) q τ → (∀ c j, c ≠ 15 → c ≠ 16 → τ c j = tm c j) → ∃ τ', X11_map_L43 F f a1 (nI q) τ = some (if a1 = -1 then nI N else nI (wq s a b N), τ') ∧ ∀ c j, c ≠ 15 → c ≠ 16 → τ' c j = tm c j := by
    intro m
    induction m with
    | zero =>
      intro q f τ hq hf h15 hc
      obtain ⟨g, rfl, -⟩ := fuel hf
      have : q = N := by omega
      subst this
      have hw := wq_le (s := s) (a := a) (b := b) hN
      refine ⟨τ, ?_, hc⟩
      unfold X11_map_L43 X11_map_j77
      rcases ha with rfl | ⟨rfl, h2, h3⟩
      · have hne : ¬ nI q = -1 := fun z => (nI_m1 (by omega)).mp z
        rw [if_neg hne, if_pos (nI_le (Nat.le_refl _) (by omega)), if_neg hne, ald_lit (by decide) (by decide), w255 q τ h15, if_neg hne]
      · rw [if_pos rfl, ald_lit (by decide) (by decide), w255 q τ h15, if_neg (show ¬ nI (wq s a b q) = 0 by rw [show (0 : Int32) = nI 0 from rfl, nI_eq hw (by omega)]; exact h2), if_pos rfl, if_pos rfl]
    | succ m ih =>
      intro q f τ hq hf h15 hc
      obtain ⟨g, rfl, -⟩ := fuel hf
      obtain ⟨τ1, e1, e2, e3⟩ := more15 (F := F) (s := s) (q := q) (a := a) (b := b) (tm := τ) hF hs ((hc 1 _ (by decide) (by decide)).trans m0) (fun i hi => ⟨(hm i hi).1, (hm i hi).2.1, (hc 1 _ (by decide) (by decide)).trans (hm i hi).2.2.1, (hc 1 _ (by decide) (by decide)).trans (hm i hi).2.2.2⟩) h15
      obtain ⟨τ2, f1, f2⟩ := ih (q + 1) g τ1 (by omega) (by omega) e2 (fun c j h1 h2 => (e3 c j h1 h2).trans (hc c j h1 h2))
      refine ⟨τ2, ?_, f2⟩
      conv => lhs; unfold X11_map_L43
      unfold X11_map_j67
      have kq : nI q + 1 = nI (q + 1) := litA'
      rw [e1, cal_some, kq, f1]
      rcases ha with h1 | ⟨h1, h2, h3⟩
      · have hne : ¬ a1 = -1 := fun z => (nI_m1 (a := N) (by omega)).mp (h1.symm.trans z)
        rw [if_neg hne, if_neg (show ¬ a1 ≤ nI q by rw [h1, nI_leI (by omega) (by omega)]; omega)]
      · rw [if_pos h1, ald_lit (by decide) (by decide), w255 q τ h15, h3 q (by omega), if_pos (show nI 0 = (0 : Int32) from rfl)]
  have init : ∀ (m S f : Nat) (τ : Tau), S + m = 256 → m < f → (∀ B, B < S → τ 15 B = nI (vL (okE s a b) (zsL 0) B.testBit)) → (∀ c j, c ≠ 15 → c ≠ 16 → τ c j = tm c j) → ∃ τ', X11_map_L13 F f a1 (nI S) τ = some (if a1 = -1 then nI N else nI (wq s a b N), τ') ∧ ∀ c j, c ≠ 15 → c ≠ 16 → τ' c j = tm c j := by
    intro m
    induction m with
    | zero =>
      intro S f τ hS hf h15 hc
      obtain ⟨g, rfl, -⟩ := fuel hf
      have : S = 256 := by omega
      subst this
      unfold X11_map_L13
      rw [if_pos (by decide)]
      exact loop N 0 F τ (by omega) (by omega) h15 hc
    | succ m ih =>
      intro S f τ hS hf h15 hc
      obtain ⟨g, rfl, -⟩ := fuel hf
      have hv : vL (okE s a b) (zsL 0) S.testBit = if S = 0 then 1 else 0 := by
        show (if empL S.testBit = true then 1 else 0) = _
        rw [emp_fin S (by omega)]
        by_cases e : S = 0
        · rw [if_pos e, if_pos (decide_eq_true e)]
        · rw [if_neg e, if_neg (fun z => e (of_decide_eq_true z))]
      obtain ⟨τ', e1, e2⟩ := ih (S + 1) g (up τ 15 S (nI (if S = 0 then 1 else 0))) (by omega) (by omega) (fun B hB => by
        by_cases e : B = S
        · subst e; rw [up_c, hv]
        · rw [up_nj e]; exact h15 B (by omega)) (fun c j h1 h2 => (up_nc h1).trans (hc c j h1 h2))
      refine ⟨τ', ?_, e2⟩
      conv => lhs; unfold X11_map_L13
      unfold X11_map_j34
      have kS : nI S + 1 = nI (S + 1) := litA'
      rw [if_neg (by rw [lit_le' (by decide) (by omega)]; omega), ast_nI (by omega) (by omega), ast_nI (by omega) (by omega), kS, ← e1]
      by_cases e : S = 0
      · rw [if_pos (by rw [e]; rfl), if_pos e]; rfl
      · rw [if_neg (show ¬ nI S = 0 by rw [lit_eq (by decide) (by omega)]; exact e), if_neg e]; rfl
  exact init 256 0 F tm (by omega) (by omega) (fun B hB => absurd hB (Nat.not_lt_zero B)) (fun _ _ _ _ => rfl)
