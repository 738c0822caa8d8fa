/-! PURE PART. Texts: words of the constants -/
theorem sL_fin : ∀ s, s < 30 → sL s < 100 := by decide +kernel
theorem sB_fin : ∀ s, s < 30 → ∀ k, k < 100 → (sB s).getD k 0 < 128 := by decide +kernel
theorem len_X {F s : Nat} {τ : Tau} (hs : s < 30) : X_String_length___I F s τ = some (nI (sL s), τ) := by
  have := sL_fin s hs
  unfold X_String_length___I X_String_coder___B
  rw [if_neg n10, cal_some, show shr (Int32.ofNat (sL s)) 0 = nI (sL s) from by
    have := nI_shr (a := sL s) (k := 0) (by omega) (by decide)
    rw [Nat.pow_zero, Nat.div_one] at this
    exact this]
theorem len_M {F s : Nat} {τ : Tau} (hs : s < 30) : M_String_length___I F s τ = some (nI (sL s), τ) := by
  have := sL_fin s hs
  unfold M_String_length___I M_String_coder___B
  rw [if_neg n10, cal_some, show shr (Int32.ofNat (sL s)) 0 = nI (sL s) from by
    have := nI_shr (a := sL s) (k := 0) (by omega) (by decide)
    rw [Nat.pow_zero, Nat.div_one] at this
    exact this]
theorem chk_in {j N : Nat} {τ : Tau} (h : j < N) (hN : N < 2 ^ 31) : sCheck (nI j) (nI N) τ = some (0, τ) := by
  unfold sCheck pCheck
  rw [if_neg (nI_pos (by omega)), if_pos (nI_lt h hN), cal_some]
theorem chr_b {b : Nat} (h : b < 256) : vp_nar .char (chr (nI b &&& 255)) = nI b := by
  rw [pk_andN (by omega) 8 (by decide), Nat.mod_eq_of_lt h]
  exact by_ch2 _ (by rw [pk_tn (by omega)]; omega) (by omega)
theorem chr_X {F s k : Nat} {τ : Tau} (hs : s < 30) (hk : k < sL s) : X_String_charAt__I_C F s (nI k) τ = some (sC s k, τ) := by
  have h1 := sL_fin s hs
  have h2 := sB_fin s hs k (by omega)
  unfold X_String_charAt__I_C X_String_isLatin1___Z X_StringLatin1_charAt___BI_C
  rw [if_neg n10, if_pos rfl, cal_some, if_neg n10, litN, chk_in hk (by omega), cal_some, gd_nI hk (by omega), cal_some, ix_nI (by omega)]
  unfold sC
  rw [chr_b (by omega), by_ch (by omega)]
theorem chr_M {F s k : Nat} {τ : Tau} (hs : s < 30) (hk : k < sL s) : M_String_charAt__I_C F s (nI k) τ = some (sC s k, τ) := by
  have h1 := sL_fin s hs
  have h2 := sB_fin s hs k (by omega)
  unfold M_String_charAt__I_C M_String_isLatin1___Z M_StringLatin1_charAt___BI_C
  rw [if_neg n10, if_pos rfl, cal_some, if_neg n10, litN, chk_in hk (by omega), cal_some, gd_nI hk (by omega), cal_some, ix_nI (by omega)]
  unfold sC
  rw [chr_b (by omega), by_ch (by omega)]
/-- the bytes between two places are the constant s -/
def isB (y : Nat → Nat) (p e s : Nat) : Prop := e - p = sL s ∧ ∀ k, k < sL s → y (p + k) = (sB s).getD k 0
theorem is_M {F s p e l : Nat} {y : Nat → Nat} {τ : Tau} (hF : 5000 ≤ F) (hs : s < 30) (hpe : p ≤ e) (he : e ≤ l) (hl : l ≤ 400) (h17 : τ 0 17 = nI e) (h19 : τ 0 19 = nI p) (hy : ∀ i, i < l → y i < 256 ∧ τ 8 i = nI (y i)) : ∃ b : Bool, X11_is F s τ = some (bI (b = true), τ) ∧ (b = true ↔ isB y p e s) := by
  have h1 := sL_fin s hs
  have key : ∀ (m i f : Nat), i + m = sL s → m < f → e - p = sL s → ∃ b : Bool, X11_is_L24 F s f 1 (nI i) τ = some (bI (b = true), τ) ∧ (b = true ↔ ∀ k, i ≤ k → k < sL s → y (p + k) = (sB s).getD k 0) := by
    intro m
    induction m with
    | zero =>
      intro i f hi hf _
      obtain ⟨g, rfl, -⟩ := fuel hf
      refine ⟨true, ?_, fun _ k h1 h2 => absurd h1 (by omega), fun _ => rfl⟩
      unfold X11_is_L24
      rw [len_M hs, cal_some, if_pos (nI_le (by omega) (by omega)), nar1, bI_t rfl]
    | succ m ih =>
      intro i f hi hf hep
      obtain ⟨g, rfl, -⟩ := fuel hf
      obtain ⟨y1, y2⟩ := hy (p + i) (by omega)
      have h2 := sB_fin s hs i (by omega)
      have kk : nI i + 1 = nI (i + 1) := litA'
      conv => enter [1, b, 1, 1]; unfold X11_is_L24
      unfold X11_is_j60
      rw [len_M hs, cal_some, if_neg (nI_ge (by omega) (by omega)), if_neg n10, h19, nI_add, ald_nI (by omega) (by omega), chr_M hs (by omega), cal_some, y2, kk]
      have hq : (nI (y (p + i)) = sC s i) ↔ y (p + i) = (sB s).getD i 0 := nI_eq (by omega) (by omega)
      by_cases q : y (p + i) = (sB s).getD i 0
      · rw [if_pos (hq.mpr q)]
        obtain ⟨b, b1, b2⟩ := ih (i + 1) g (by omega) (by omega) hep
        refine ⟨b, b1, b2.trans ⟨fun h k h1 h2 => ?_, fun h k h1 h2 => h k (by omega) h2⟩⟩
        by_cases e' : k = i
        · rw [e']; exact q
        · exact h k (by omega) h2
      · rw [if_neg (fun z => q (hq.mp z))]
        refine ⟨false, ?_, fun z => absurd z (by decide), fun z => absurd (z i (Nat.le_refl _) (by omega)) q⟩
        obtain ⟨g', rfl, -⟩ := fuel (show 0 < g by omega)
        unfold X11_is_L24
        rw [len_M hs, cal_some, nar0, bI_f (by decide), if_pos rfl]
        split <;> rfl
  unfold X11_is X11_is_j21
  rw [len_M hs, cal_some, h17, h19, nI_sub hpe]
  by_cases q : e - p = sL s
  · rw [if_pos (by rw [q])]
    obtain ⟨b, b1, b2⟩ := key (sL s) 0 F (by omega) (by omega) q
    exact ⟨b, b1, b2.trans ⟨fun h => ⟨q, fun k hk => h k (Nat.zero_le _) hk⟩, fun h k _ hk => h.2 k hk⟩⟩
  · rw [if_neg (show ¬ nI (e - p) = nI (sL s) by rw [nI_eq (by omega) (by omega)]; exact q)]
    refine ⟨false, ?_, fun z => absurd z (by decide), fun z => absurd z.1 q⟩
    obtain ⟨g, hg, -⟩ := fuel (show 0 < F by omega)
    conv => lhs; arg 3; rw [hg]
    unfold X11_is_L24
    rw [len_M hs, cal_some, nar0, bI_f (by decide), if_pos rfl]
    split <;> rfl
