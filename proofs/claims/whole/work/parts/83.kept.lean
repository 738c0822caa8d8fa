/-! PURE PART. Steps: kept -/
theorem an1 {x : Nat} (h : x < 2 ^ 31) : nI x &&& 1 = nI (x % 2) := pk_andN (by omega) 1 (by decide)
theorem an7 {x : Nat} (h : x < 2 ^ 31) : nI x &&& 7 = nI (x % 8) := pk_andN (by omega) 3 (by decide)
theorem pro_out {tx : Tau} {w : Nat → Int32} (h : Rpro (rsX 23 24 (vX 1 tx)) (rsM 629 666 (vM w))) : ∃ s, s ≤ 12 ∧ tx 24 0 = nI s ∧ w 629 = nI s ∧ ∀ i, i < s → ∃ a b h, a < 8 ∧ b < 8 ∧ h < 4 ∧ tx 25 i = nI (64 * h + 8 * b + a) ∧ w (630 + 3 * i) = nI a ∧ w (631 + 3 * i) = nI b ∧ w (632 + 3 * i) = nI h := by
  obtain ⟨s, s1, s2, s3, s4⟩ := h
  rw [rsX_at (by omega), vX_at (by omega) (by decide)] at s2
  rw [rsM_at (by omega), vM_at (by omega)] at s3
  refine ⟨s, s1, s2, s3, fun i hi => ?_⟩
  obtain ⟨a, b, h, h1, h2, h3, h4, h5, h6, h7⟩ := s4 i hi
  rw [rsX_at (by omega), vX_at (by omega) (by show i < 12; omega)] at h4
  rw [rsM_at (by omega), vM_at (by omega)] at h5 h6 h7
  exact ⟨a, b, h, h1, h2, h3, h4, h5, h6, h7⟩
theorem Pc.pros {T nP nM : Nat} {q : Nat → Nat} {tx tm : Tau} (h : Pc T nP nM q tx tm) : ∃ s, s ≤ 12 ∧ tx 24 0 = nI s ∧ tm 1 629 = nI s ∧ ∀ i, i < s → ∃ a b h, a < 8 ∧ b < 8 ∧ h < 4 ∧ tx 25 i = nI (64 * h + 8 * b + a) ∧ tm 1 (630 + 3 * i) = nI a ∧ tm 1 (631 + 3 * i) = nI b ∧ tm 1 (632 + 3 * i) = nI h := pro_out h.1.2.2.2.2.2.2.2.2.1.2.2.2.2.2.2.2.2.2.1
theorem holds_ex {F T nP nM : Nat} {q : Nat → Nat} {tx tm : Tau} (hF : 5000 ≤ F) (h : Pc T nP nM q tx tm) : ∃ P : Nat → Bool, ∀ A, A < 256 → X4_holds F (nI A) tx = some (bI (P A = true), tx) ∧ X11_allHold F (nI A) tm = some (bI (P A = true), tm) := by
  obtain ⟨s, s1, s2, s3, s4⟩ := h.pros
  have key : ∀ A, A < 256 → ∀ m i, i + m = s → ∃ P : Bool, ∀ fx fm, m < fx → m < fm → X4_holds_L2 F fx (nI A) (nI i) tx = some (bI (P = true), tx) ∧ X11_allHold_L2 F fm (nI A) (nI i) tm = some (bI (P = true), tm) := by
    intro A hA m
    induction m with
    | zero =>
      intro i him
      refine ⟨true, fun fx fm hfx hfm => ?_⟩
      obtain ⟨gx, rfl, -⟩ := fuel hfx
      obtain ⟨gm, rfl, -⟩ := fuel hfm
      have : i = s := by omega
      subst this
      unfold X4_holds_L2 X11_allHold_L2
      rw [s2, if_pos (nI_le (Nat.le_refl _) (by omega)), ald_lit (by decide) (by decide), s3, if_pos (nI_le (Nat.le_refl _) (by omega)), bI_t rfl]
      exact ⟨rfl, rfl⟩
    | succ m ih =>
      intro i him
      obtain ⟨P, hP⟩ := ih (i + 1) (by omega)
      obtain ⟨a, b, c, a8, b8, c4, h4, h5, h6, h7⟩ := s4 i (by omega)
      have sh : ∀ k, k < 8 → (shr (nI A) (nI k)) &&& 1 = nI (A / 2 ^ k % 2) := fun k hk => by
        rw [nI_shr (by omega) (by omega), an1 (by have := Nat.div_le_self A (2 ^ k); omega)]
      have r7 : nI (64 * c + 8 * b + a) &&& 7 = nI a := by rw [an7 (by omega), show (64 * c + 8 * b + a) % 8 = a by omega]
      have r3 : (shr (nI (64 * c + 8 * b + a)) 3) &&& 7 = nI b := by
        rw [show (3 : Int32) = nI 3 from rfl, nI_shr (by omega) (by decide), an7 (by omega), show (64 * c + 8 * b + a) / 2 ^ 3 % 8 = b by omega]
      have r6 : (shr (nI (64 * c + 8 * b + a)) 6) &&& 1 = nI (c % 2) := by
        rw [show (6 : Int32) = nI 6 from rfl, nI_shr (by omega) (by decide), an1 (by omega), show (64 * c + 8 * b + a) / 2 ^ 6 % 2 = c % 2 by omega]
      have r8 : (shr (nI (64 * c + 8 * b + a)) 7) &&& 1 = nI (c / 2) := by
        rw [show (7 : Int32) = nI 7 from rfl, nI_shr (by omega) (by decide), an1 (by omega), show (64 * c + 8 * b + a) / 2 ^ 7 % 2 = c / 2 by omega]
      have m1 : nI c &&& 1 = nI (c % 2) := an1 (by omega)
      have m2 : shr (nI c) 1 = nI (c / 2) := nI_shr (k := 1) (by omega) (by decide)
      refine ⟨if A / 2 ^ a % 2 = c % 2 ∨ A / 2 ^ b % 2 = c / 2 then P else false, fun fx fm hfx hfm => ?_⟩
      obtain ⟨gx, rfl, -⟩ := fuel hfx
      obtain ⟨gm, rfl, -⟩ := fuel hfm
      obtain ⟨e1, e2⟩ := hP gx gm (by omega) (by omega)
      unfold X4_holds_L2 X11_allHold_L2 X4_holds_j74 X11_allHold_j72
      rw [s2, if_neg (nI_ge (by omega) (by omega)), X5_get_in (cap := 12) rfl (by decide) s2 (by omega) s1, cal_some, show tx (24 + 1) i = nI (64 * c + 8 * b + a) from h4, r7, r3, r6, r8, sh a a8, sh b b8]
      have k1 : nI (630 + 3 * i) + 1 = nI (631 + 3 * i) := by rw [litA', show 630 + 3 * i + 1 = 631 + 3 * i by omega]
      have k2 : nI (630 + 3 * i) + 2 = nI (632 + 3 * i) := by rw [litA', show 630 + 3 * i + 2 = 632 + 3 * i by omega]
      have ki : nI i + 1 = nI (i + 1) := litA'
      have hz : (630 : Int32) + 3 * nI i = nI (630 + 3 * i) := by rw [litM, litA]
      have l1 : ∀ k, ald tm 1 2244 (nI (630 + 3 * i)) k = k (nI a) := fun k => by rw [ald_nI (by omega) (by omega), h5]
      have l2 : ∀ k, ald tm 1 2244 (nI (631 + 3 * i)) k = k (nI b) := fun k => by rw [ald_nI (by omega) (by omega), h6]
      have l3 : ∀ k, ald tm 1 2244 (nI (632 + 3 * i)) k = k (nI c) := fun k => by rw [ald_nI (by omega) (by omega), h7]
      rw [ald_lit (by decide) (by decide), s3, if_neg (nI_ge (by omega) (by omega)), hz, k1, k2, l1, l3, l2, l3, m1, m2, sh a a8, sh b b8, ki]
      have q1 : (nI (A / 2 ^ a % 2) = nI (c % 2)) ↔ A / 2 ^ a % 2 = c % 2 := nI_eq (by omega) (by omega)
      have q2 : (nI (A / 2 ^ b % 2) = nI (c / 2)) ↔ A / 2 ^ b % 2 = c / 2 := nI_eq (by omega) (by omega)
      by_cases d1 : A / 2 ^ a % 2 = c % 2
      · rw [if_pos (q1.mpr d1), if_pos (q1.mpr d1), if_pos (.inl d1)]
        exact ⟨e1, e2⟩
      · rw [if_neg (fun z => d1 (q1.mp z)), if_neg (fun z => d1 (q1.mp z))]
        by_cases d2 : A / 2 ^ b % 2 = c / 2
        · rw [if_pos (q2.mpr d2), if_pos (q2.mpr d2), if_pos (.inr d2)]
          exact ⟨e1, e2⟩
        · rw [if_neg (fun z => d2 (q2.mp z)), if_neg (fun z => d2 (q2.mp z)), if_neg (fun z => z.elim d1 d2), bI_f (by decide)]
          exact ⟨rfl, rfl⟩
  have key2 : ∀ A, ∃ P : Bool, A < 256 → X4_holds F (nI A) tx = some (bI (P = true), tx) ∧ X11_allHold F (nI A) tm = some (bI (P = true), tm) := by
    intro A
    by_cases hA : A < 256
    · obtain ⟨P, hP⟩ := key A hA s 0 (by omega)
      exact ⟨P, fun _ => hP F F (by omega) (by omega)⟩
    · exact ⟨true, fun z => absurd z hA⟩
  exact ⟨fun A => (key2 A).choose, fun A => (key2 A).choose_spec⟩
def cntQ (P : Nat → Bool) : Nat → Nat
  | 0 => 0
  | n + 1 => cntQ P n + (if P (255 - n) = true then 1 else 0)
def fstQ (P : Nat → Bool) : Nat → Int32
  | 0 => -1
  | n + 1 => if P (255 - n) = true then nI (255 - n) else fstQ P n
def andQ (P : Nat → Bool) : Nat → Int32
  | 0 => -1
  | n + 1 => if P (255 - n) = true then andQ P n &&& nI (255 - n) else andQ P n
theorem cntQ_le (P : Nat → Bool) : ∀ n, cntQ P n ≤ n := by
  intro n
  induction n with
  | zero => exact Nat.le_refl _
  | succ n ih =>
    unfold cntQ
    split <;> omega
theorem and_m1 (x : Int32) : x &&& -1 = x := by
  apply Int32.toBitVec_inj.mp
  rw [Int32.toBitVec_and]
  exact BitVec.and_allOnes
theorem step32 (F : Nat) (hF : 5000 ≤ F) : Step32 F Rl := by
  intro n tx tm a1 _ h
  have ok : ∀ (v : Int32) (x m : Option (Int32 × Tau)), x = some (v, tx) → m = some (v, tm) → ∃ r tx' tm', x = some (r, tx') ∧ m = some (r, tm') ∧ Rl (n + 1) tx' tm' := fun v x m e1 e2 => ⟨v, tx, tm, e1, e2, Rl_mono n tx tm h⟩
  obtain ⟨nP, nM, q, hP⟩ := h.pc
  obtain ⟨P, hp⟩ := holds_ex (F := F) hF hP
  have hM : ∀ (k f : Nat), k ≤ 256 → k < f → X11_kept_L25 F f a1 (nI (cntQ P (256 - k))) (fstQ P (256 - k)) (255 &&& andQ P (256 - k)) (nI k - 1) tm = (if a1 = 0 then some (nI (cntQ P 256), tm) else if a1 = 1 then some (fstQ P 256, tm) else if nI (cntQ P 256) = 0 then some (0, tm) else some (255 &&& andQ P 256, tm)) := by
    intro k
    induction k with
    | zero =>
      intro f _ hf
      obtain ⟨g, rfl, -⟩ := fuel hf
      unfold X11_kept_L25
      rw [if_pos (by decide)]
    | succ k ih =>
      intro f hk hf
      obtain ⟨g, rfl, -⟩ := fuel hf
      conv => lhs; unfold X11_kept_L25
      unfold X11_kept_j55
      have e1 : nI (k + 1) - 1 = nI k := by rw [litS (by omega), Nat.add_sub_cancel]
      have e2 : nI k + (-1) = nI k - 1 := by rw [Int32.sub_eq_add_neg]
      have e9 : 256 - k = (256 - (k + 1)) + 1 := by omega
      have e8 : 255 - (256 - (k + 1)) = k := by omega
      have := ih g (by omega) (by omega)
      rw [e9] at this
      unfold cntQ fstQ andQ at this
      rw [e8] at this
      rw [e1, if_neg (nI_pos (by omega)), (hp k (by omega)).2, cal_some, ite_bI, e2, litA', Int32.and_assoc]
      by_cases c : P k = true
      · rw [if_pos c]
        rw [if_pos c, if_pos c, if_pos c] at this
        exact this
      · rw [if_neg c]
        rw [if_neg c, if_neg c, if_neg c] at this
        exact this
  have e0 : (255 : Int32) &&& andQ P (256 - 256) = 255 := by
    show (255 : Int32) &&& -1 = 255
    decide
  have hM9 := hM 256 F (by decide) (by omega)
  rw [e0] at hM9
  replace hM9 : X11_kept_L25 F F a1 0 (-1) 255 255 tm = (if a1 = 0 then some (nI (cntQ P 256), tm) else if a1 = 1 then some (fstQ P 256, tm) else if nI (cntQ P 256) = 0 then some (0, tm) else some (255 &&& andQ P 256, tm)) := hM9
  have hXc : ∀ (m i f acc : Nat), i + m = 256 → m < f → X4_waysKept_L4 F f (nI acc) (nI i) tx = some (nI (acc + cntQ P m), tx) := by
    intro m
    induction m with
    | zero =>
      intro i f acc hi hf
      obtain ⟨g, rfl, -⟩ := fuel hf
      have : i = 256 := by omega
      subst this
      unfold X4_waysKept_L4
      rw [if_pos (by decide)]
      rfl
    | succ m ih =>
      intro i f acc hi hf
      obtain ⟨g, rfl, -⟩ := fuel hf
      unfold X4_waysKept_L4 X4_waysKept_j25
      have e8 : 255 - m = i := by omega
      unfold cntQ
      rw [if_neg (by rw [lit_le' (by decide) (by omega)]; omega), (hp i (by omega)).1, cal_some, ite_bI, litA', litA', litA', e8]
      by_cases c : P i = true
      · rw [if_pos c, if_pos c, ih (i + 1) g _ (by omega) (by omega)]
        congr 3
        omega
      · rw [if_neg c, if_neg c, ih (i + 1) g _ (by omega) (by omega)]
        congr 3
  have hXf : ∀ (m i f : Nat), i + m = 256 → m < f → X4_leastKept_L2 F f (nI i) tx = some (fstQ P m, tx) := by
    intro m
    induction m with
    | zero =>
      intro i f hi hf
      obtain ⟨g, rfl, -⟩ := fuel hf
      have : i = 256 := by omega
      subst this
      unfold X4_leastKept_L2
      rw [if_pos (by decide)]
      rfl
    | succ m ih =>
      intro i f hi hf
      obtain ⟨g, rfl, -⟩ := fuel hf
      unfold X4_leastKept_L2
      have e8 : 255 - m = i := by omega
      unfold fstQ
      rw [if_neg (by rw [lit_le' (by decide) (by omega)]; omega), (hp i (by omega)).1, cal_some, ite_bI, litA', e8]
      by_cases c : P i = true
      · rw [if_pos c, if_pos c]
      · rw [if_neg c, if_neg c, ih (i + 1) g (by omega) (by omega)]
  have hXs : ∀ (m i f acc : Nat) (x : Int32), i + m = 256 → m < f → X4_surelyKept_L8 F f (nI acc) x (nI i) tx = (if nI (acc + cntQ P m) = 0 then some (0, tx) else some (x &&& andQ P m, tx)) := by
    intro m
    induction m with
    | zero =>
      intro i f acc x hi hf
      obtain ⟨g, rfl, -⟩ := fuel hf
      have : i = 256 := by omega
      subst this
      unfold X4_surelyKept_L8
      rw [if_pos (by decide), show andQ P 0 = -1 from rfl, and_m1]
      rfl
    | succ m ih =>
      intro i f acc x hi hf
      obtain ⟨g, rfl, -⟩ := fuel hf
      unfold X4_surelyKept_L8 X4_surelyKept_j30
      have e8 : 255 - m = i := by omega
      unfold cntQ andQ
      rw [if_neg (by rw [lit_le' (by decide) (by omega)]; omega), (hp i (by omega)).1, cal_some, ite_bI, litA', litA', e8]
      by_cases c : P i = true
      · rw [if_pos c, if_pos c, if_pos c, ih (i + 1) g _ _ (by omega) (by omega), Int32.and_comm (andQ P m) (nI i), Int32.and_assoc, show acc + 1 + cntQ P m = acc + (cntQ P m + 1) by omega]
      · rw [if_neg c, if_neg c, if_neg c, ih (i + 1) g _ _ (by omega) (by omega)]
        rfl
  unfold X10_kept X11_kept
  rw [X11_isIn_eq, cal_some]
  by_cases c0 : a1 = 0
  · unfold X4_waysKept
    rw [if_pos c0, bI_t (show (0 : Int32) ≤ a1 ∧ a1 ≤ 2 by rw [c0]; decide), if_neg n10, hM9, if_pos c0, show X4_waysKept_L4 F F 0 0 tx = _ from hXc 256 0 F 0 (by decide) (by omega), cal_some, Nat.zero_add]
    exact ok _ _ _ rfl rfl
  rw [if_neg c0]
  by_cases c1 : a1 = 1
  · unfold X4_leastKept
    rw [if_pos c1, bI_t (show (0 : Int32) ≤ a1 ∧ a1 ≤ 2 by rw [c1]; decide), if_neg n10, hM9, if_neg c0, if_pos c1, show X4_leastKept_L2 F F 0 tx = _ from hXf 256 0 F (by decide) (by omega), cal_some]
    exact ok _ _ _ rfl rfl
  rw [if_neg c1]
  by_cases c2 : a1 = 2
  · unfold X4_surelyKept
    rw [if_pos c2, bI_t (show (0 : Int32) ≤ a1 ∧ a1 ≤ 2 by rw [c2]; decide), if_neg n10, hM9, if_neg c0, if_neg c1, show X4_surelyKept_L8 F F 0 255 0 tx = _ from hXs 256 0 F 0 255 (by decide) (by omega), Nat.zero_add]
    by_cases z : nI (cntQ P 256) = 0
    · rw [if_pos z, if_pos z, cal_some]
      exact ok _ _ _ rfl rfl
    · rw [if_neg z, if_neg z, cal_some]
      exact ok _ _ _ rfl rfl
  rw [if_neg c2, bI_f, if_pos rfl]
  · exact ok _ _ _ rfl rfl
  · intro z
    obtain ⟨j, j1, j2, rfl⟩ := in_ex (lo := 0) (hi := 2) z (by decide) (by decide)
    have : j = 0 ∨ j = 1 ∨ j = 2 := by omega
    rcases this with rfl | rfl | rfl
    · exact c0 rfl
    · exact c1 rfl
    · exact c2 rfl
