/-! PURE PART. Steps: feed -/
/-- the byte of a word, high first -/
def byN (a : Int32) (j : Nat) : Nat := a.toBitVec.toNat / 2 ^ (24 - 8 * j) % 256
theorem byN_lt (a : Int32) (j : Nat) : byN a j < 256 := Nat.mod_lt _ (by decide)
theorem by_sar (x : BitVec 32) (k : Nat) (hk : k ≤ 24) : (x.sshiftRight k).toNat % 256 = x.toNat / 2 ^ k % 256 := by
  have : (x.sshiftRight k).setWidth 8 = (x >>> k).setWidth 8 := by
    apply BitVec.eq_of_getLsbD_eq
    intro i hi
    rw [BitVec.getLsbD_setWidth, BitVec.getLsbD_setWidth, BitVec.getLsbD_sshiftRight, BitVec.getLsbD_ushiftRight]
    have : ¬ 32 ≤ i := by omega
    have h2 : k + i < 32 := by omega
    simp [this, h2]
  have := congrArg BitVec.toNat this
  rw [BitVec.toNat_setWidth, BitVec.toNat_setWidth, BitVec.toNat_ushiftRight, Nat.shiftRight_eq_div_pow] at this
  exact this
theorem by_M (a : Int32) (k : Nat) (hk : k ≤ 24) : shr a (nI k) &&& 255 = nI (a.toBitVec.toNat / 2 ^ k % 256) := by
  rw [pk_and _ 8 (by decide)]
  congr 1
  have := by_sar a.toBitVec k hk
  have e : (shr a (nI k)).toBitVec = a.toBitVec.sshiftRight k := by
    unfold shr
    rw [Int32.toBitVec_shiftRight]
    show a.toBitVec.sshiftRight ((nI k &&& 31).toBitVec.smod 32).toNat = _
    rw [s_lk k (by omega)]
  rw [e]
  exact this
theorem by_u (a : Int32) (k : Nat) (hk : k < 32) : (ushr a (nI k)).toBitVec.toNat = a.toBitVec.toNat / 2 ^ k := by
  unfold ushr
  show (a.toUInt32 >>> ((nI k).toUInt32 &&& Int32.toUInt32 31)).toNat = _
  have e : (((nI k).toUInt32 &&& Int32.toUInt32 31).toNat % 32) = k := by
    have : ∀ k, k < 32 → (((nI k).toUInt32 &&& Int32.toUInt32 31).toNat % 32) = k := by decide +kernel
    exact this k hk
  rw [UInt32.toNat_shiftRight, e, Nat.shiftRight_eq_div_pow]
  rfl
theorem by_ch {q : Nat} (hq : q < 65536) : vp_nar .char (nI q) = nI q := by
  unfold vp_nar
  rw [(pk_charN hq).1]
theorem by_ch2 (x : Int32) {q : Nat} (h : x.toBitVec.toNat % 65536 = q) (hq : q < 65536) : vp_nar .char (chr x) = nI q := by
  unfold chr
  rw [pk_char, h, by_ch hq]
theorem by_X0 (a : Int32) : vp_nar .char (chr (ushr a 24)) = nI (byN a 0) := by
  have h := by_u a 24 (by decide)
  have hlt : a.toBitVec.toNat < 2 ^ 32 := a.toBitVec.isLt
  refine by_ch2 _ ?_ (Nat.lt_trans (byN_lt a 0) (by decide))
  rw [show ushr a 24 = ushr a (nI 24) from rfl, h]
  unfold byN
  omega
theorem by_Xk (a : Int32) (k : Nat) (hk : k < 32) : vp_nar .char (chr ((ushr a (nI k)) &&& 255)) = nI (a.toBitVec.toNat / 2 ^ k % 256) := by
  rw [pk_and _ 8 (by decide), by_u a k hk]
  have hm := Nat.mod_lt (a.toBitVec.toNat / 2 ^ k) (show 256 > 0 by decide)
  refine by_ch2 _ ?_ (Nat.lt_trans hm (by decide))
  show (nI (a.toBitVec.toNat / 2 ^ k % 256)).toBitVec.toNat % 65536 = _
  rw [pk_tn (by omega)]
  omega
theorem by_X3 (a : Int32) : vp_nar .char (chr (a &&& 255)) = nI (byN a 3) := by
  rw [pk_and _ 8 (by decide)]
  have hm := Nat.mod_lt a.toBitVec.toNat (show 256 > 0 by decide)
  refine by_ch2 _ ?_ (Nat.lt_trans (byN_lt a 3) (by decide))
  show (nI (a.toBitVec.toNat % 256)).toBitVec.toNat % 65536 = _
  rw [pk_tn (by omega)]
  unfold byN
  omega
theorem add_X {F b : Nat} {a : Int32} {τ : Tau} (h0 : τ 197 0 = nI b) (hb : b + 4 ≤ 400) : X6_addBytes F a τ = some (0, up (up (up (up (up τ 198 b (nI (byN a 0))) 198 (b + 1) (nI (byN a 1))) 198 (b + 2) (nI (byN a 2))) 198 (b + 3) (nI (byN a 3))) 197 0 (nI (b + 4))) := by
  have e : ∀ (j : Nat) (v : Int32) (t : Tau), t 197 0 = nI b → up t 198 j v 197 0 = nI b := fun j v t ht => (up_nc (by decide)).trans ht
  unfold X6_addBytes
  rw [h0, if_neg (nI_pos (by omega)), litA', if_neg (show ¬ (400 : Int32) < nI (b + 4) by rw [lit_lt' (by decide) (by omega)]; omega), ast_nI (by omega) (by omega), e _ _ _ h0, litA', ast_nI (by omega) (by omega), e _ _ _ (e _ _ _ h0), litA', ast_nI (by omega) (by omega), e _ _ _ (e _ _ _ (e _ _ _ h0)), litA', ast_nI (by omega) (by omega), pst_eq, e _ _ _ (e _ _ _ (e _ _ _ (e _ _ _ h0))), litA', by_X0]
  rw [show vp_nar .char (chr ((ushr a 16) &&& 255)) = nI (byN a 1) from by_Xk a 16 (by decide), show vp_nar .char (chr ((ushr a 8) &&& 255)) = nI (byN a 2) from by_Xk a 8 (by decide), by_X3]
/-- what four more bytes are -/
theorem add_Xe {F b : Nat} {a : Int32} {τ : Tau} (h0 : τ 197 0 = nI b) (hb : b + 4 ≤ 400) : ∃ τ', X6_addBytes F a τ = some (0, τ') ∧ τ' 197 0 = nI (b + 4) ∧ (∀ j, j < 4 → τ' 198 (b + j) = nI (byN a j)) ∧ (∀ j, j < b → τ' 198 j = τ 198 j) ∧ ∀ c j, c ≠ 198 → (c ≠ 197 ∨ j ≠ 0) → τ' c j = τ c j := by
  refine ⟨_, add_X h0 hb, up_c, fun j hj => ?_, fun j hj => ?_, fun c j hc hd => ?_⟩
  · rw [up_nc (by decide)]
    have : j = 0 ∨ j = 1 ∨ j = 2 ∨ j = 3 := by omega
    rcases this with rfl | rfl | rfl | rfl
    · rw [up_nj (by omega), up_nj (by omega), up_nj (by omega), Nat.add_zero, up_c]
    · rw [up_nj (by omega), up_nj (by omega), up_c]
    · rw [up_nj (by omega), up_c]
    · rw [up_c]
  · rw [up_nc (by decide), up_nj (by omega), up_nj (by omega), up_nj (by omega), up_nj (by omega)]
  · have : up (up (up (up (up τ 198 b (nI (byN a 0))) 198 (b + 1) (nI (byN a 1))) 198 (b + 2) (nI (byN a 2))) 198 (b + 3) (nI (byN a 3))) 197 0 (nI (b + 4)) c j = up (up (up (up τ 198 b (nI (byN a 0))) 198 (b + 1) (nI (byN a 1))) 198 (b + 2) (nI (byN a 2))) 198 (b + 3) (nI (byN a 3)) c j := by
      rw [up_if, if_neg (fun z => hd.elim (fun y => y z.1) (fun y => y z.2))]
    rw [this, up_nc hc, up_nc hc, up_nc hc, up_nc hc]
def five (a1 a2 a3 a4 a5 : Int32) (w : Nat) : Int32 := if w = 0 then a1 else if w = 1 then a2 else if w = 2 then a3 else if w = 3 then a4 else a5
theorem feed_M {F l : Nat} {a1 a2 a3 a4 a5 : Int32} (hl : l + 20 ≤ 400) : ∀ (m i f : Nat) (tm : Tau), i + m = 20 → m < f → tm 0 16 = nI (l + i) → ∃ tm', X11_feed_L18 F f a1 a2 a3 a4 a5 (nI i) tm = some (nI (l + 20), tm') ∧ tm' 0 16 = nI (l + 20) ∧ (∀ j, i ≤ j → j < 20 → tm' 8 (l + j) = nI (byN (five a1 a2 a3 a4 a5 (j / 4)) (j % 4))) ∧ (∀ j, j < l + i → tm' 8 j = tm 8 j) ∧ ∀ c j, c ≠ 8 → (c ≠ 0 ∨ j ≠ 16) → tm' c j = tm c j := by
  intro m
  induction m with
  | zero =>
    intro i f tm him hf h0
    obtain ⟨g, rfl, -⟩ := fuel hf
    have : i = 20 := by omega
    subst this
    refine ⟨tm, ?_, h0, fun j h1 h2 => absurd h1 (by omega), fun _ _ => rfl, fun _ _ _ _ => rfl⟩
    unfold X11_feed_L18
    rw [if_pos (by decide), h0]
  | succ m ih =>
    intro i f tm him hf h0
    obtain ⟨g, rfl, -⟩ := fuel hf
    have hM : X11_feed_L18 F (g + 1) a1 a2 a3 a4 a5 (nI i) tm = X11_feed_L18 F g a1 a2 a3 a4 a5 (nI (i + 1)) (up (up tm 8 (l + i) (nI (byN (five a1 a2 a3 a4 a5 (i / 4)) (i % 4)))) 0 16 (nI (l + (i + 1)))) := by
      have hb : ∀ z : Int32, (shr z (24 - 8 * (rmd (nI i) 4))) &&& 255 = nI (byN z (i % 4)) := by
        intro z
        rw [show (4 : Int32) = nI 4 from rfl, nI_rmd (by omega) (by decide) (by decide), litM, litS' (show 8 * (i % 4) ≤ 24 by omega)]
        exact by_M z (24 - 8 * (i % 4)) (by omega)
      have hj : ∀ z : Int32, X11_feed_j71 F (X11_feed_L18 F g) a1 a2 a3 a4 a5 (nI i) z tm = X11_feed_L18 F g a1 a2 a3 a4 a5 (nI (i + 1)) (up (up tm 8 (l + i) (nI (byN z (i % 4)))) 0 16 (nI (l + (i + 1)))) := by
        intro z
        unfold X11_feed_j71
        rw [h0, ast_nI (by omega) (by omega), pst_eq, hb, show up tm 8 (l + i) (nI (byN z (i % 4))) 0 16 = nI (l + i) from (up_nc (by decide)).trans h0, litA', litA']
        rfl
      conv => lhs; unfold X11_feed_L18
      rw [hj, hj, hj, hj, hj, if_neg (show ¬ (20 : Int32) ≤ nI i by rw [lit_le' (by decide) (by omega)]; omega)]
      unfold five
      by_cases c4 : 4 ≤ i
      · rw [if_pos (show (4 : Int32) ≤ nI i from (lit_le' (by decide) (by omega)).mpr c4), if_neg (show ¬ i / 4 = 0 by omega)]
        by_cases c8 : 8 ≤ i
        · rw [if_pos (show (8 : Int32) ≤ nI i from (lit_le' (by decide) (by omega)).mpr c8), if_neg (show ¬ i / 4 = 1 by omega)]
          by_cases c12 : 12 ≤ i
          · rw [if_pos (show (12 : Int32) ≤ nI i from (lit_le' (by decide) (by omega)).mpr c12), if_neg (show ¬ i / 4 = 2 by omega)]
            by_cases c16 : 16 ≤ i
            · rw [if_pos (show (16 : Int32) ≤ nI i from (lit_le' (by decide) (by omega)).mpr c16), if_neg (show ¬ i / 4 = 3 by omega)]
            · rw [if_neg (show ¬ (16 : Int32) ≤ nI i from fun z => c16 ((lit_le' (by decide) (by omega)).mp z)), if_pos (show i / 4 = 3 by omega)]
          · rw [if_neg (show ¬ (12 : Int32) ≤ nI i from fun z => c12 ((lit_le' (by decide) (by omega)).mp z)), if_pos (show i / 4 = 2 by omega)]
        · rw [if_neg (show ¬ (8 : Int32) ≤ nI i from fun z => c8 ((lit_le' (by decide) (by omega)).mp z)), if_pos (show i / 4 = 1 by omega)]
      · rw [if_neg (show ¬ (4 : Int32) ≤ nI i from fun z => c4 ((lit_le' (by decide) (by omega)).mp z)), if_pos (show i / 4 = 0 by omega)]
    obtain ⟨tm', e1, e2, e3, e4, e5⟩ := ih (i + 1) g (up (up tm 8 (l + i) (nI (byN (five a1 a2 a3 a4 a5 (i / 4)) (i % 4)))) 0 16 (nI (l + (i + 1)))) (by omega) (by omega) up_c
    refine ⟨tm', hM.trans e1, e2, fun j h1 h2 => ?_, fun j hj => ?_, fun c j hc hd => ?_⟩
    · by_cases e : j = i
      · subst e
        rw [e4 _ (by omega), up_nc (by decide), up_c]
      · exact e3 j (by omega) h2
    · rw [e4 j (by omega), up_nc (by decide), up_nj (by omega)]
    · rw [e5 c j hc hd, up_if, if_neg (fun z => hd.elim (fun y => y z.1) (fun y => y z.2)), up_nc hc]
theorem step6 (F : Nat) (hF : 5000 ≤ F) : Step6 F Rl := by
  intro n tx tm a1 a2 a3 a4 a5 _ h
  obtain ⟨nP, nM, q, hW, hH, hI, ⟨l, l1, l2, l3, l4⟩, hfa, hsi⟩ := id h
  unfold X10_feed X6_hasRoom X11_feed
  rw [l2, l3, litA']
  by_cases c : l + 20 ≤ 400
  · obtain ⟨x1, e1, f1, g1, k1, m1⟩ := add_Xe (F := F) (a := a1) l2 (by omega)
    obtain ⟨x2, e2, f2, g2, k2, m2⟩ := add_Xe (F := F) (a := a2) f1 (by omega)
    obtain ⟨x3, e3, f3, g3, k3, m3⟩ := add_Xe (F := F) (a := a3) f2 (by omega)
    obtain ⟨x4, e4, f4, g4, k4, m4⟩ := add_Xe (F := F) (a := a4) f3 (by omega)
    obtain ⟨x5, e5, f5, g5, k5, m5⟩ := add_Xe (F := F) (a := a5) f4 (by omega)
    obtain ⟨tm', u1, u2, u3, u4, u5⟩ := feed_M (F := F) (a1 := a1) (a2 := a2) (a3 := a3) (a4 := a4) (a5 := a5) c 20 0 F tm (by decide) (by omega) l3
    have fr : ∀ c j, c ≠ 198 → (c ≠ 197 ∨ j ≠ 0) → x5 c j = tx c j := fun c j hc hd => by rw [m5 c j hc hd, m4 c j hc hd, m3 c j hc hd, m2 c j hc hd, m1 c j hc hd]
    rw [if_neg (show ¬ (400 : Int32) < nI (l + 20) by rw [lit_lt' (by decide) (by omega)]; omega), cal_some, if_neg n10, e1, cal_some, e2, cal_some, e3, cal_some, e4, cal_some, e5, cal_some, f5, if_pos (show nI (l + 20) ≤ (400 : Int32) from (lit_le (by decide) (by omega)).mpr c), show X11_feed_L18 F F a1 a2 a3 a4 a5 0 tm = some (nI (l + 20), tm') from u1]
    refine ⟨_, x5, tm', rfl, rfl, Rl_mono n _ _ ⟨nP, nM, q, hW.congr (fun c j hc => fr c j (by omega) (by omega)) (fun k _ => u5 _ _ (by decide) (by omega)), hH.congr (fun c j hc => fr c j (by omega) (by omega)) (u5 _ _ (by decide) (by omega)) (fun k => u5 _ _ (by decide) (by omega)), hI.congr (fun c j hc => fr c j (by omega) (by omega)) (u5 _ _ (by decide) (by omega)) (fun k _ => u5 _ _ (by decide) (by omega)), ⟨l + 20, c, f5, u2, fun i hi => ?_⟩, ?_, hsi.congr (fr _ _ (by decide) (by omega)) (fun j => fr _ _ (by decide) (by omega))⟩⟩
    · by_cases hil : i < l
      · obtain ⟨b, b1, b2, b3⟩ := l4 i hil
        refine ⟨b, b1, ?_, (u4 i hil).trans b3⟩
        rw [k5 i (by omega), k4 i (by omega), k3 i (by omega), k2 i (by omega), k1 i (by omega)]
        exact b2
      · obtain ⟨d, rfl⟩ : ∃ d, i = l + d := ⟨i - l, by omega⟩
        refine ⟨_, byN_lt _ _, ?_, u3 d (by omega) (by omega)⟩
        unfold five
        by_cases d4 : d < 4
        · rw [k5 _ (by omega), k4 _ (by omega), k3 _ (by omega), k2 _ (by omega), g1 d d4, if_pos (by omega), Nat.mod_eq_of_lt d4]
        by_cases d8 : d < 8
        · rw [k5 _ (by omega), k4 _ (by omega), k3 _ (by omega), show l + d = l + 4 + (d % 4) by omega, g2 _ (by omega), if_neg (show ¬ d / 4 = 0 by omega), if_pos (show d / 4 = 1 by omega)]
        by_cases d12 : d < 12
        · rw [k5 _ (by omega), k4 _ (by omega), show l + d = l + 4 + 4 + (d % 4) by omega, g3 _ (by omega), if_neg (show ¬ d / 4 = 0 by omega), if_neg (show ¬ d / 4 = 1 by omega), if_pos (show d / 4 = 2 by omega)]
        by_cases d16 : d < 16
        · rw [k5 _ (by omega), show l + d = l + 4 + 4 + 4 + (d % 4) by omega, g4 _ (by omega), if_neg (show ¬ d / 4 = 0 by omega), if_neg (show ¬ d / 4 = 1 by omega), if_neg (show ¬ d / 4 = 2 by omega), if_pos (show d / 4 = 3 by omega)]
        · rw [show l + d = l + 4 + 4 + 4 + 4 + (d % 4) by omega, g5 _ (by omega), if_neg (show ¬ d / 4 = 0 by omega), if_neg (show ¬ d / 4 = 1 by omega), if_neg (show ¬ d / 4 = 2 by omega), if_neg (show ¬ d / 4 = 3 by omega)]
    · unfold Rfa at hfa ⊢
      rw [fr _ _ (by decide) (by omega), fr _ _ (by decide) (by omega), u5 _ _ (by decide) (by omega), u5 _ _ (by decide) (by omega), u5 _ _ (by decide) (by omega)]
      exact hfa
  · rw [if_pos (show (400 : Int32) < nI (l + 20) from (lit_lt' (by decide) (by omega)).mpr (by omega)), cal_some, if_pos rfl, if_neg (show ¬ nI (l + 20) ≤ (400 : Int32) by rw [lit_le (by decide) (by omega)]; exact c)]
    exact ⟨-1, tx, tm, rfl, rfl, Rl_mono n tx tm h⟩
