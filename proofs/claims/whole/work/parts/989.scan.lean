/-! PURE PART. Texts: what the class makes of bytes and words -/
theorem i8_b : ∀ c, c < 256 → ((nI c).toInt8.toInt32 = nI c ∧ c < 128) ∨ (¬ c < 128 ∧ (nI c).toInt8.toInt32 < 0) := by decide +kernel
theorem idx_X {F s c : Nat} {τ : Tau} (hF : 5000 ≤ F) (hs : s < 30) (h0 : 0 < sL s) (hc : c < 256) : (∃ k, k < sL s ∧ (sB s).getD k 0 = c ∧ X_String_indexOf__I_I F s (nI c) τ = some (nI k, τ)) ∨ ((∀ k, k < sL s → (sB s).getD k 0 ≠ c) ∧ X_String_indexOf__I_I F s (nI c) τ = some (-1, τ)) := by
  have h1 := sL_fin s hs
  have hg : ∀ g, g < 128 → ((nI g = (nI c).toInt8.toInt32) ↔ g = c) := by
    intro g hg
    rcases i8_b c hc with ⟨a, b⟩ | ⟨a, b⟩
    · rw [a]; exact nI_eq (by omega) (by omega)
    · exact ⟨fun z => absurd (z ▸ b) (nI_pos (by omega)), fun z => absurd (z ▸ hg) a⟩
  have key : ∀ (m i f : Nat), i + m = sL s → m < f → (∃ k, i ≤ k ∧ k < sL s ∧ (sB s).getD k 0 = c ∧ X_StringLatin1_indexOfChar___BIII_I_L7 F s f (nI (sL s)) ((nI c).toInt8.toInt32) (nI i) τ = some (nI k, τ)) ∨ ((∀ k, i ≤ k → k < sL s → (sB s).getD k 0 ≠ c) ∧ X_StringLatin1_indexOfChar___BIII_I_L7 F s f (nI (sL s)) ((nI c).toInt8.toInt32) (nI i) τ = some (-1, τ)) := by
    intro m
    induction m with
    | zero =>
      intro i f hi hf
      obtain ⟨g, rfl, -⟩ := fuel hf
      refine .inr ⟨fun k a b => absurd a (by omega), ?_⟩
      unfold X_StringLatin1_indexOfChar___BIII_I_L7
      rw [if_pos (nI_le (by omega) (by omega))]
    | succ m ih =>
      intro i f hi hf
      obtain ⟨g, rfl, -⟩ := fuel hf
      have h2 := sB_fin s hs i (by omega)
      have kk : nI i + 1 = nI (i + 1) := litA'
      have st : X_StringLatin1_indexOfChar___BIII_I_L7 F s (g + 1) (nI (sL s)) ((nI c).toInt8.toInt32) (nI i) τ = if nI ((sB s).getD i 0) = (nI c).toInt8.toInt32 then some (nI i, τ) else X_StringLatin1_indexOfChar___BIII_I_L7 F s g (nI (sL s)) ((nI c).toInt8.toInt32) (nI (i + 1)) τ := by
        conv => lhs; unfold X_StringLatin1_indexOfChar___BIII_I_L7
        rw [if_neg (nI_ge (by omega) (by omega)), gd_nI (by omega) (by omega), ix_nI (by omega), kk]
        rfl
      rw [st]
      by_cases q : (sB s).getD i 0 = c
      · exact .inl ⟨i, Nat.le_refl _, by omega, q, by rw [if_pos ((hg _ h2).mpr q)]⟩
      · rw [if_neg (fun z => q ((hg _ h2).mp z))]
        rcases ih (i + 1) g (by omega) (by omega) with ⟨k, a, b, d⟩ | ⟨a, b⟩
        · exact .inl ⟨k, by omega, b, d⟩
        · refine .inr ⟨fun k h1 h2 => ?_, b⟩
          by_cases e : k = i
          · rw [e]; exact q
          · exact a k (by omega) h2
  have pre : ∀ r, X_StringLatin1_indexOfChar___BIII_I_L7 F s F (nI (sL s)) ((nI c).toInt8.toInt32) (nI 0) τ = some (r, τ) → X_String_indexOf__I_I F s (nI c) τ = some (r, τ) := by
    intro r hr
    unfold X_String_indexOf__I_I X_String_indexOf__II_I X_String_isLatin1___Z X_StringLatin1_indexOf___BIII_I X_StringLatin1_canEncode__I_Z X_StringLatin1_indexOfChar___BIII_I
    rw [if_neg n10, if_pos rfl, cal_some, if_neg n10, len_X hs, cal_some, if_neg (nI_pos (by omega)), if_neg (show ¬ (255 : Int32) < nI c from nI_nlt (a := 255) (by omega) (by decide)), cal_some, if_neg n10, litN, nI_imin (by omega) (by omega), Nat.min_self, show imax 0 0 = nI 0 from by decide, if_pos (nI_lt h0 (by omega)), hr, cal_some, cal_some, cal_some]
  rcases key (sL s) 0 F (by omega) (by omega) with ⟨k, a, b, d, e⟩ | ⟨a, b⟩
  · exact .inl ⟨k, b, d, pre _ e⟩
  · exact .inr ⟨fun k hk => a k (Nat.zero_le _) hk, pre _ b⟩
theorem sgn_tab : ∀ b, b < 256 → ((∃ k, k < sL 1 ∧ (sB 1).getD k 0 = b) ↔ tkd b = 3) := by decide +kernel
theorem kind_j54 {F b : Nat} {τ : Tau} (hF : 5000 ≤ F) (hb : b < 256) (h0 : tkd b ≠ 0) (h1 : tkd b ≠ 1) (h2 : tkd b ≠ 2) : X6_kindOf_j54 F (nI b) τ = some (nI (tkd b), τ) := by
  unfold X6_kindOf_j54
  rcases idx_X (τ := τ) hF (s := 1) (by decide) (by decide) hb with ⟨k, a, c, d⟩ | ⟨a, d⟩
  · rw [d, cal_some, if_neg (nI_pos (by have := sL_fin 1 (by decide); omega)), (sgn_tab b hb).mp ⟨k, a, c⟩]
    rfl
  · have : tkd b ≠ 3 := fun z => by
      obtain ⟨k, e1, e2⟩ := (sgn_tab b hb).mpr z
      exact a k e1 e2
    have h5 := tkd_lt (b := b)
    rw [d, cal_some, if_pos (by decide), show tkd b = 4 from by omega]
    rfl
theorem kind_X {F b : Nat} {τ : Tau} (hF : 5000 ≤ F) (hb : b < 256) : X6_kindOf F (nI b) τ = some (nI (tkd b), τ) := by
  have p1 : ¬ ((97 ≤ b ∧ b ≤ 122) ∨ (65 ≤ b ∧ b ≤ 90)) → tkd b ≠ 1 := fun h z => h (tkd1.mp z)
  have p2 : ¬ (48 ≤ b ∧ b ≤ 57) → tkd b ≠ 2 := fun h z => h (tkd2.mp z)
  unfold X6_kindOf
  by_cases c1 : b = 32
  · rw [if_pos (by rw [c1]; rfl), tkd0.mpr (.inl c1)]; rfl
  · rw [if_neg (fun z => c1 ((lit_eq (n := 32) (by decide) (by omega)).mp z))]
    by_cases c2 : b = 10
    · rw [if_pos (by rw [c2]; rfl), tkd0.mpr (.inr c2)]; rfl
    · rw [if_neg (fun z => c2 ((lit_eq (n := 10) (by decide) (by omega)).mp z))]
      have p0 : tkd b ≠ 0 := fun z => (tkd0.mp z).elim c1 c2
      have j40 : ¬ ((97 ≤ b ∧ b ≤ 122) ∨ (65 ≤ b ∧ b ≤ 90)) → X6_kindOf_j40 F (nI b) τ = some (nI (tkd b), τ) := by
        intro h
        unfold X6_kindOf_j40
        by_cases c3 : b < 48
        · rw [if_pos ((lit_lt (n := 48) (by decide) (by omega)).mpr c3)]
          exact kind_j54 hF hb p0 (p1 h) (p2 (by omega))
        · rw [if_neg (fun z => c3 ((lit_lt (n := 48) (by decide) (by omega)).mp z))]
          by_cases c4 : 57 < b
          · rw [if_pos ((lit_lt' (n := 57) (by decide) (by omega)).mpr c4)]
            exact kind_j54 hF hb p0 (p1 h) (p2 (by omega))
          · rw [if_neg (fun z => c4 ((lit_lt' (n := 57) (by decide) (by omega)).mp z)), tkd2.mpr (by omega)]; rfl
      have j26 : ¬ (97 ≤ b ∧ b ≤ 122) → X6_kindOf_j26 F (nI b) τ = some (nI (tkd b), τ) := by
        intro h
        unfold X6_kindOf_j26
        by_cases c3 : b < 65
        · rw [if_pos ((lit_lt (n := 65) (by decide) (by omega)).mpr c3)]
          exact j40 (by omega)
        · rw [if_neg (fun z => c3 ((lit_lt (n := 65) (by decide) (by omega)).mp z))]
          by_cases c4 : 90 < b
          · rw [if_pos ((lit_lt' (n := 90) (by decide) (by omega)).mpr c4)]
            exact j40 (by omega)
          · rw [if_neg (fun z => c4 ((lit_lt' (n := 90) (by decide) (by omega)).mp z)), tkd1.mpr (by omega)]; rfl
      by_cases c3 : b < 97
      · rw [if_pos ((lit_lt (n := 97) (by decide) (by omega)).mpr c3)]
        exact j26 (by omega)
      · rw [if_neg (fun z => c3 ((lit_lt (n := 97) (by decide) (by omega)).mp z))]
        by_cases c4 : b ≤ 122
        · rw [if_pos ((lit_le (n := 122) (by decide) (by omega)).mpr c4), tkd1.mpr (by omega)]; rfl
        · rw [if_neg (fun z => c4 ((lit_le (n := 122) (by decide) (by omega)).mp z))]
          exact j26 (by omega)
def XY (y : Nat → Nat) (l : Nat) (τ : Tau) : Prop := τ 197 0 = nI l ∧ ∀ i, i < l → y i < 256 ∧ τ 198 i = nI (y i)
theorem XY.congr {l : Nat} {y : Nat → Nat} {τ τ' : Tau} (h : XY y l τ) (h1 : τ' 197 0 = τ 197 0) (h3 : ∀ j, τ' 198 j = τ 198 j) : XY y l τ' :=
  ⟨h1.trans h.1, fun i hi => ⟨(h.2 i hi).1, (h3 i).trans (h.2 i hi).2⟩⟩
theorem sign_X {F l i : Nat} {y : Nat → Nat} {τ : Tau} (h : XY y l τ) (hl : l ≤ 400) (hi : i < l) : X6_signAt F (nI i) τ = some (nI (y i), τ) := by
  obtain ⟨a, b⟩ := h.2 i hi
  unfold X6_signAt
  rw [if_neg (nI_pos (by omega)), if_neg (show ¬ (400 : Int32) ≤ nI i from nI_ge (b := 400) (by omega) (by decide)), ald_nI (by omega) (by omega), b, by_ch (by omega)]
/-! the words of a list -/
def lsO (a : Nat) : Nat := if a = 0 then 0 else a + 2
def wst (a : Nat) : Nat → Nat
  | 0 => 0
  | u + 1 => wst a u + sL ((lwL a).getD u 0) + 1
theorem wst_tab : ∀ a, a < 4 → ∀ u, u < (lwL a).length → (6 ≤ (lwL a).getD u 0 ∧ (lwL a).getD u 0 < 30 ∧ (lwL a).idxOf ((lwL a).getD u 0) = u) ∧ (∀ k, k < sL ((lwL a).getD u 0) → (sB (lsO a)).getD (wst a u + k) 0 = (sB ((lwL a).getD u 0)).getD k 0 ∧ (sB ((lwL a).getD u 0)).getD k 0 ≠ 32) ∧ (if u + 1 < (lwL a).length then (sB (lsO a)).getD (wst a u + sL ((lwL a).getD u 0)) 0 = 32 ∧ wst a u + sL ((lwL a).getD u 0) < sL (lsO a) else wst a u + sL ((lwL a).getD u 0) = sL (lsO a)) := by decide +kernel
theorem at_X {F s p e l t : Nat} {y : Nat → Nat} {τ : Tau} (hF : 5000 ≤ F) (hs : s < 30) (hXY : XY y l τ) (hl : l ≤ 400) (hpe : p ≤ e) (he : e ≤ l) (ht : t + (e - p) ≤ sL s) : ∃ b : Bool, X6_isAt F s (nI t) (nI (t + (e - p))) (nI p) τ = some (bI (b = true), τ) ∧ (b = true ↔ ∀ k, k < e - p → y (p + k) = (sB s).getD (t + k) 0) := by
  have h1 := sL_fin s hs
  have key : ∀ (m i f : Nat), i + m = e - p → m < f → ∃ b : Bool, X6_isAt_L7 F s f (nI t) (nI (t + (e - p))) (nI p) (nI (t + i)) τ = some (bI (b = true), τ) ∧ (b = true ↔ ∀ k, i ≤ k → k < e - p → y (p + k) = (sB s).getD (t + k) 0) := by
    intro m
    induction m with
    | zero =>
      intro i f hi hf
      obtain ⟨g, rfl, -⟩ := fuel hf
      refine ⟨true, ?_, fun _ k h1 h2 => absurd h1 (by omega), fun _ => rfl⟩
      unfold X6_isAt_L7
      rw [if_pos (nI_le (by omega) (by omega)), bI_t rfl]
    | succ m ih =>
      intro i f hi hf
      obtain ⟨g, rfl, -⟩ := fuel hf
      obtain ⟨y1, y2⟩ := hXY.2 (p + i) (by omega)
      have h2 := sB_fin s hs (t + i) (by omega)
      have kk : nI (t + i) + 1 = nI (t + (i + 1)) := litA'
      have k2 : nI p + nI (t + i) - nI t = nI (p + i) := by rw [nI_add, nI_sub (by omega), show p + (t + i) - t = p + i from by omega]
      have st : X6_isAt_L7 F s (g + 1) (nI t) (nI (t + (e - p))) (nI p) (nI (t + i)) τ = if sC s (t + i) = nI (y (p + i)) then X6_isAt_L7 F s g (nI t) (nI (t + (e - p))) (nI p) (nI (t + (i + 1))) τ else some (0, τ) := by
        conv => lhs; unfold X6_isAt_L7
        rw [if_neg (nI_ge (by omega) (by omega)), len_X hs, cal_some, if_neg (nI_ge (by omega) (by omega)), chr_X hs (by omega), cal_some, k2, sign_X hXY hl (by omega), cal_some, kk]
      rw [st]
      have hq : (sC s (t + i) = nI (y (p + i))) ↔ (sB s).getD (t + i) 0 = y (p + i) := nI_eq (by omega) (by omega)
      by_cases q : y (p + i) = (sB s).getD (t + i) 0
      · rw [if_pos (hq.mpr q.symm)]
        obtain ⟨b, b1, b2⟩ := ih (i + 1) g (by omega) (by omega)
        refine ⟨b, b1, b2.trans ⟨fun h k h1 h2 => ?_, fun h k h1 h2 => h k (by omega) h2⟩⟩
        by_cases e' : k = i
        · rw [e']; exact q
        · exact h k (by omega) h2
      · rw [if_neg (fun z => q (hq.mp z).symm)]
        exact ⟨false, rfl, fun z => absurd z (by decide), fun z => absurd (z i (Nat.le_refl _) (by omega)) q⟩
  unfold X6_isAt
  rw [nI_imax0 (by omega)]
  obtain ⟨b, b1, b2⟩ := key (e - p) 0 F (by omega) (by omega)
  exact ⟨b, b1, b2.trans ⟨fun h k hk => h k (Nat.zero_le _) hk, fun h k _ hk => h k hk⟩⟩
theorem lwL_len : ∀ a, a < 4 → (lwL a).length ≤ 17 ∧ lsO a < 30 ∧ wst a (lwL a).length = sL (lsO a) + 1 := by decide +kernel
theorem word_X {F p e a l : Nat} {y : Nat → Nat} {τ : Tau} (hF : 5000 ≤ F) (hXY : XY y l τ) (hl : l ≤ 400) (hpe : p ≤ e) (he : e ≤ l) (ha : a < 4) : X6_numberOfWord F (lsO a) (nI p) (nI (e - p)) τ = some (if (lwL a).idxOf (wid y p e) < (lwL a).length then nI ((lwL a).idxOf (wid y p e)) else -1, τ) := by
  obtain ⟨ln1, hs, ln2⟩ := lwL_len a ha
  have h1 := sL_fin _ hs
  have mono : ∀ d u, u + d = (lwL a).length → wst a u ≤ sL (lsO a) + 1 := by
    intro d
    induction d with
    | zero => intro u hu; rw [show u = (lwL a).length from by omega, ln2]; exact Nat.le_refl _
    | succ d ih =>
      intro u hu
      have := ih (u + 1) (by omega)
      rw [show wst a (u + 1) = wst a u + sL ((lwL a).getD u 0) + 1 from rfl] at this
      omega
  have key : ∀ (d u f : Nat), u + d = (lwL a).length → (∀ v, v < u → ¬ isB y p e ((lwL a).getD v 0)) → 101 - wst a u + 1 < f → X6_numberOfWord_L9 F (lsO a) f (nI p) (nI (e - p)) (nI u) (nI (wst a u)) (nI (wst a u)) τ = some (if (lwL a).idxOf (wid y p e) < (lwL a).length then nI ((lwL a).idxOf (wid y p e)) else -1, τ) := by
    intro d
    induction d with
    | zero =>
      intro u f hu hv hf
      obtain ⟨g, rfl, -⟩ := fuel hf
      obtain rfl : u = (lwL a).length := by omega
      rw [if_neg]
      · unfold X6_numberOfWord_L9
        rw [len_X hs, cal_some, ln2, if_pos (nI_lt (by omega) (by omega))]
      · intro z
        have hm := List.idxOf_lt_length_iff.mp z
        obtain ⟨v, hv1, hv2⟩ := List.getElem_of_mem hm
        have hv3 : (lwL a).getD v 0 = wid y p e := by rw [List.getD_eq_getElem?_getD, List.getElem?_eq_getElem hv1, Option.getD_some]; exact hv2
        obtain ⟨⟨t1, t2, -⟩, -⟩ := wst_tab a ha v hv1
        exact hv v hv1 ((wid_is t1 t2).mpr hv3.symm)
    | succ d ih =>
      intro u f hu hv hf
      obtain ⟨⟨t1, t2, t3⟩, t4, t5⟩ := wst_tab a ha u (by omega)
      have hw : sL ((lwL a).getD u 0) < 100 := sL_fin _ t2
      have hm := mono d (u + 1) (by omega)
      rw [show wst a (u + 1) = wst a u + sL ((lwL a).getD u 0) + 1 from rfl] at hm
      have run : ∀ (m k f' : Nat), k + m = sL ((lwL a).getD u 0) → m < f' → X6_numberOfWord_L9 F (lsO a) f' (nI p) (nI (e - p)) (nI u) (nI (wst a u)) (nI (wst a u + k)) τ = X6_numberOfWord_L9 F (lsO a) (f' - m) (nI p) (nI (e - p)) (nI u) (nI (wst a u)) (nI (wst a u + sL ((lwL a).getD u 0))) τ := by
        intro m
        induction m with
        | zero => intro k f' hk hf'; rw [show k = sL ((lwL a).getD u 0) from by omega, Nat.sub_zero]
        | succ m ih2 =>
          intro k f' hk hf'
          obtain ⟨g, rfl, -⟩ := fuel hf'
          obtain ⟨q1, q2⟩ := t4 k (by omega)
          have hlt : wst a u + k < sL (lsO a) := by omega
          have hb := sB_fin _ hs (wst a u + k) (by omega)
          have kk : nI (wst a u + k) + 1 = nI (wst a u + (k + 1)) := litA'
          conv => lhs; unfold X6_numberOfWord_L9
          unfold X6_numberOfWord_j72
          rw [len_X hs, cal_some, if_neg (nI_nlt (by omega) (by omega)), len_X hs, cal_some, if_neg (show ¬ nI (wst a u + k) = nI (sL (lsO a)) by rw [nI_eq (by omega) (by omega)]; omega), chr_X hs hlt, cal_some, if_neg (show ¬ sC (lsO a) (wst a u + k) = 32 by
            intro z
            exact q2 (q1.symm.trans ((lit_eq (n := 32) (by decide) (by omega)).mp z))), kk, ih2 (k + 1) g (by omega) (by omega), show g + 1 - (m + 1) = g - m from by omega]
      have e0 := run (sL ((lwL a).getD u 0)) 0 f (by omega) (by omega)
      rw [Nat.add_zero] at e0
      rw [e0]
      obtain ⟨g, hg, -⟩ := fuel (show 101 - wst a u - sL ((lwL a).getD u 0) < f - sL ((lwL a).getD u 0) by omega)
      rw [hg]
      generalize hE : (if (lwL a).idxOf (wid y p e) < (lwL a).length then nI ((lwL a).idxOf (wid y p e)) else (-1 : Int32)) = E
      have hgo : ¬ isB y p e ((lwL a).getD u 0) → X6_numberOfWord_j63 F (X6_numberOfWord_L9 F (lsO a) g) (lsO a) (nI p) (nI (e - p)) (nI u) (nI (wst a u + sL ((lwL a).getD u 0))) τ = some (E, τ) := by
        intro hn
        have k1 : nI u + 1 = nI (u + 1) := litA'
        have k2 : nI (wst a u + sL ((lwL a).getD u 0)) + 1 = nI (wst a (u + 1)) := litA'
        unfold X6_numberOfWord_j63 X6_numberOfWord_j72
        rw [k1, k2, ← hE]
        refine ih (u + 1) g (by omega) (fun v hv' => ?_) ?_
        · by_cases e' : v = u
          · rw [e']; exact hn
          · exact hv v (by omega)
        · rw [show wst a (u + 1) = wst a u + sL ((lwL a).getD u 0) + 1 from rfl]
          omega
      have j38 : X6_numberOfWord_j38 F (X6_numberOfWord_L9 F (lsO a) g) (lsO a) (nI p) (nI (e - p)) (nI u) (nI (wst a u)) (nI (wst a u + sL ((lwL a).getD u 0))) τ = some (E, τ) := by
        unfold X6_numberOfWord_j38
        rw [nI_sub (by omega), show wst a u + sL ((lwL a).getD u 0) - wst a u = sL ((lwL a).getD u 0) from by omega]
        by_cases c : sL ((lwL a).getD u 0) = e - p
        · obtain ⟨b, b1, b2⟩ := at_X (F := F) (t := wst a u) hF hs hXY hl hpe he (by rw [← c]; omega)
          rw [if_pos (by rw [c]), c, b1, cal_some]
          have hb : b = true ↔ isB y p e ((lwL a).getD u 0) := by
            rw [b2]
            unfold isB
            constructor
            · intro h
              exact ⟨c.symm, fun k hk => (h k (by omega)).trans (t4 k hk).1⟩
            · intro h k hk
              exact (h.2 k (by omega)).trans (t4 k (by omega)).1.symm
          by_cases c2 : b = true
          · have hw2 := (wid_is t1 t2).mp (hb.mp c2)
            rw [bI_t c2, if_neg n10, ← hE, hw2, t3, if_pos (by omega)]
          · have hgo2 := hgo (fun z => c2 (hb.mpr z))
            rw [c] at hgo2
            rw [bI_f c2, if_pos rfl]
            exact hgo2
        · rw [if_neg (show ¬ nI _ = nI _ by rw [nI_eq (by omega) (by omega)]; exact c)]
          exact hgo (fun z => c z.1.symm)
      unfold X6_numberOfWord_L9
      rw [len_X hs, cal_some, if_neg (nI_nlt (by omega) (by omega)), len_X hs, cal_some]
      by_cases c : u + 1 < (lwL a).length
      · rw [if_pos c] at t5
        have hb := sB_fin _ hs (wst a u + sL ((lwL a).getD u 0)) (by omega)
        rw [if_neg (show ¬ nI _ = nI _ by rw [nI_eq (by omega) (by omega)]; omega), chr_X hs t5.2, cal_some, if_pos (show sC _ _ = 32 by unfold sC; rw [t5.1]; rfl), j38]
      · rw [if_neg c] at t5
        rw [if_pos (by rw [t5]), j38]
  exact key (lwL a).length 0 F (by omega) (fun v hv => absurd hv (by omega)) (by rw [show wst a 0 = 0 from rfl]; omega)
theorem num_X {F s l e : Nat} {y : Nat → Nat} {τ : Tau} (hF : 5000 ≤ F) (hXY : XY y l τ) (hl : l ≤ 400) (hse : s ≤ e) (he : e ≤ l) (hd : ∀ j, s ≤ j → j < e → tkd (y j) = 2) : X6_readNumber F (nI s) (nI (e - s)) τ = some (if e - s ≤ 4 then nI (nmV y s (e - s)) else -1, τ) := by
  have key : ∀ (m i f : Nat), i + m = e - s → m < f → X6_readNumber_L12 F f (nI s) (nI (e - s)) (nI (nmV y s i)) (nI i) τ = some (nI (nmV y s (e - s)), τ) := by
    intro m
    induction m with
    | zero =>
      intro i f hi hf
      obtain ⟨g, rfl, -⟩ := fuel hf
      unfold X6_readNumber_L12
      rw [if_pos (nI_le (by omega) (by omega)), show i = e - s from by omega]
    | succ m ih =>
      intro i f hi hf
      obtain ⟨g, rfl, -⟩ := fuel hf
      have hy := tkd2.mp (hd (s + i) (by omega) (by omega))
      have kk : nI i + 1 = nI (i + 1) := litA'
      have k10 : (10 : Int32) * nI (nmV y s i) + nI (y (s + i)) - 48 = nI (nmV y s (i + 1)) := by
        rw [litM, nI_add, litS (show 48 ≤ _ by omega)]
        rfl
      unfold X6_readNumber_L12
      rw [if_neg (nI_ge (by omega) (by omega)), nI_add, sign_X hXY hl (by omega), cal_some, k10, kk, ih (i + 1) g (by omega) (by omega)]
  unfold X6_readNumber
  by_cases c : e - s ≤ 4
  · rw [if_pos ((lit_le (n := 4) (by decide) (by omega)).mpr c), if_pos c]
    exact key (e - s) 0 F (by omega) (by omega)
  · rw [if_neg (fun z => c ((lit_le (n := 4) (by decide) (by omega)).mp z)), if_neg c]
