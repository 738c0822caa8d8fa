/-! PURE PART. Steps: of, powerOf -/
theorem whoAt_eq {F nM : Nat} {tx tm : Tau} {a : Int32} (hT : Tw 2 tx tm) (hx : tx 2 1 = nI nM) (hm : tm 1 256 = nI nM) (h14 : nM ≤ 14) : ∀ (m i fx fm : Nat) (acc : Int32), i + m = nM → m < fx → m < fm → ∃ v, X8_whoIsAt_L4 F 2 fx a acc (nI i) tx = some (v, tx) ∧ X11_atOf_L4 F fm a acc (nI i) tm = some (v, tm) := by
  intro m
  induction m with
  | zero =>
    intro i fx fm acc hi hfx hfm
    obtain ⟨gx, rfl, -⟩ := fuel hfx
    obtain ⟨gm, rfl, -⟩ := fuel hfm
    have : i = nM := by omega
    subst this
    unfold X8_whoIsAt_L4 X11_atOf_L4
    rw [hx, if_pos (nI_le (Nat.le_refl _) (by omega)), ald_lit (by decide) (by decide), hm, if_pos (nI_le (Nat.le_refl _) (by omega))]
    exact ⟨acc, rfl, rfl⟩
  | succ m ih =>
    intro i fx fm acc hi hfx hfm
    obtain ⟨gx, rfl, -⟩ := fuel hfx
    obtain ⟨gm, rfl, -⟩ := fuel hfm
    unfold X8_whoIsAt_L4 X11_atOf_L4 X8_whoIsAt_j32 X11_atOf_j37
    rw [hx, if_neg (nI_ge (by omega) (by omega)), ald_lit (by decide) (by decide), hm, if_neg (nI_ge (by omega) (by omega)), X10_entry_in (N := 14) rfl (by omega) (by decide), cal_some, litA, ald_nI (by omega) (by omega), hT.at_ (by omega)]
    by_cases e : tx (2 + 8) i = a
    · rw [if_pos e, if_pos e, litA']
      exact ih (i + 1) gx gm _ (by omega) (by omega) (by omega)
    · rw [if_neg e, if_neg e, litA']
      exact ih (i + 1) gx gm _ (by omega) (by omega) (by omega)
theorem Rl.st {n : Nat} {tx tm : Tau} (h : Rl n tx tm) : ∃ nP nM q rl, St 2 rl true (840 * n) nP nM q tx tm tx tm ∧ RW (840 * n) nP nM q 1 tx (tm 1) := by
  obtain ⟨nP, nM, q, hW, hH, hI, hT, ⟨f1, f2, f3⟩, hS⟩ := h
  obtain ⟨a1, a2, a3, a4, a5, a6, a7, a8, a9, ⟨k, k1, k2⟩, a11⟩ := id hW
  rcases f3 with e | e
  · exact ⟨nP, nM, q, false, ⟨⟨fun k hk _ => a1 k hk, a2, a3, a4, a5, a6, a7⟩, a8, a9, e, ⟨.inl rfl, fun _ => rfl, fun _ => ⟨k, k1, (a1 4 (by decide)).symm.trans k2, k2, a11⟩⟩, fun _ _ _ _ _ _ => rfl, ⟨fun _ _ _ _ _ => rfl, fun _ _ => rfl⟩⟩, hW⟩
  · exact ⟨nP, nM, q, true, hW.toSt e, hW⟩
theorem Rl.scr {n : Nat} {tx tm tx' tm' : Tau} (h : Rl n tx tm) (hx : ScX tx tx') (hm : ScM tm tm') : Rl (n + 1) tx' tm' := by
  refine h.same (fun c j hc => hx c j ?_ ?_) (fun c j hc => hm c j ?_ ?_)
  · rintro rfl; rcases hc with hc | hc <;> simp [wnX, coX] at hc
  · rintro rfl; rcases hc with hc | hc <;> simp [wnX, coX] at hc
  · rintro rfl; rcases hc with hc | hc <;> simp [coM] at hc
  · rintro rfl; rcases hc with hc | hc <;> simp [coM] at hc
theorem step11 (F : Nat) (hF : 5000 ≤ F) : Step11 F Rl := by
  intro n tx tm a1 a2 _ h
  obtain ⟨nP, nM, q, rl, hSt, hW⟩ := h.st
  obtain ⟨w1, w2, w3, w4, w5, w6, w7, w8, w9, ⟨k, k1, k2⟩, w11⟩ := id hW
  have ok : ∀ (v : Int32) (x m : Option (Int32 × Tau)), x = some (v, tx) → m = some (v, tm) → ∃ r tx' tm', x = some (r, tx') ∧ m = some (r, tm') ∧ Rl (n + 1) tx' tm' := fun v x m e1 e2 => ⟨v, tx, tm, e1, e2, Rl_mono n tx tm h⟩
  unfold X10_powerOf X11_powerOf
  rw [X8_hasPower_eq (show tx 2 0 = nI nP from w2) w6, X11_isPower_eq w4 w6, cal_some, cal_some]
  by_cases p : (0 : Int32) ≤ a1 ∧ a1 < nI nP
  · obtain ⟨j, hj, rfl⟩ := has_ex p (by omega)
    rw [bI_t p, if_neg n10, if_neg n10, X11_isIn_eq, cal_some, X11_isIn_eq, cal_some]
    have hj10 : j < 10 := by omega
    obtain ⟨q1, q2, q3, q4⟩ := hSt.want hj10
    have ex : ∀ (c : Nat) (k : Int32 → Option (Int32 × Tau)), ald tx c 10 (nI j) k = k (tx c j) := fun c k => ald_nI hj10 (by omega)
    have em : ∀ (b : Nat) (k : Int32 → Option (Int32 × Tau)), b + j < 2244 → ald tm 1 2244 (nI (b + j)) k = k (tm 1 (b + j)) := fun b k hb => ald_nI hb (by omega)
    by_cases c0 : a2 = 0
    · subst c0
      rw [if_pos rfl, ex, bI_f (show ¬ ((10 : Int32) ≤ 0 ∧ (0 : Int32) ≤ 15) by decide), bI_f (show ¬ ((100 : Int32) ≤ 0 ∧ (0 : Int32) ≤ 111) by decide), if_pos rfl, if_pos rfl, if_pos rfl, litA, em 5 _ (by omega), hW.tw.trust hj10]
      exact ok _ _ _ rfl rfl
    by_cases c1 : a2 = 1
    · subst c1
      rw [if_neg c0, if_pos rfl, ex, bI_f (show ¬ ((10 : Int32) ≤ 1 ∧ (1 : Int32) ≤ 15) by decide), bI_f (show ¬ ((100 : Int32) ≤ 1 ∧ (1 : Int32) ≤ 111) by decide), if_pos rfl, if_pos rfl, if_neg c0, if_pos rfl, litA, em 15 _ (by omega), hW.tw.step hj10]
      exact ok _ _ _ rfl rfl
    by_cases c2 : a2 = 2
    · subst c2
      rw [if_neg c0, if_neg c1, if_pos rfl, ex, bI_f (show ¬ ((10 : Int32) ≤ 2 ∧ (2 : Int32) ≤ 15) by decide), bI_f (show ¬ ((100 : Int32) ≤ 2 ∧ (2 : Int32) ≤ 111) by decide), if_pos rfl, if_pos rfl, if_neg c0, if_neg c1, if_pos rfl, litA, em 25 _ (by omega), hW.tw.nods hj10]
      exact ok _ _ _ rfl rfl
    by_cases c3 : a2 = 3
    · subst c3
      rw [if_neg c0, if_neg c1, if_neg c2, if_pos rfl, ex, bI_f (show ¬ ((10 : Int32) ≤ 3 ∧ (3 : Int32) ≤ 15) by decide), bI_f (show ¬ ((100 : Int32) ≤ 3 ∧ (3 : Int32) ≤ 111) by decide), if_pos rfl, if_pos rfl, if_neg c0, if_neg c1, if_neg c2, if_pos rfl, litA, em 35 _ (by omega), hW.tw.treaty hj10]
      exact ok _ _ _ rfl rfl
    by_cases c4 : a2 = 4
    · subst c4
      rw [if_neg c0, if_neg c1, if_neg c2, if_neg c3, if_pos rfl, X9_wantedBy_in hj10, cal_some, bI_f (show ¬ ((10 : Int32) ≤ 4 ∧ (4 : Int32) ≤ 15) by decide), bI_f (show ¬ ((100 : Int32) ≤ 4 ∧ (4 : Int32) ≤ 111) by decide), if_pos rfl, if_pos rfl, if_neg c0, if_neg c1, if_neg c2, if_neg c3, if_pos rfl, litM, litA, ald_nI (by omega) (by omega), q2, q3]
      exact ok _ _ _ rfl rfl
    by_cases c5 : a2 = 5
    · subst c5
      obtain ⟨v, e1, e2⟩ := whoAt_eq (F := F) (a := nI j) hW.tw w3 w5 w7 nM 0 F F 0 (by omega) (by omega) (by omega)
      rw [if_neg c0, if_neg c1, if_neg c2, if_neg c3, if_neg c4, if_pos rfl, bI_f (show ¬ ((10 : Int32) ≤ 5 ∧ (5 : Int32) ≤ 15) by decide), bI_f (show ¬ ((100 : Int32) ≤ 5 ∧ (5 : Int32) ≤ 111) by decide), if_pos rfl, if_pos rfl, if_neg c0, if_neg c1, if_neg c2, if_neg c3, if_neg c4, if_pos rfl]
      unfold X8_whoIsAt X11_atOf
      rw [show X8_whoIsAt_L4 F 2 F (nI j) 0 0 tx = some (v, tx) from e1, show X11_atOf_L4 F F (nI j) 0 0 tm = some (v, tm) from e2, cal_some, cal_some]
      exact ok _ _ _ rfl rfl
    rw [if_neg c0, if_neg c1, if_neg c2, if_neg c3, if_neg c4, if_neg c5, X10_within_eq, cal_some, X10_within_eq, cal_some]
    by_cases d : (10 : Int32) ≤ a2 ∧ a2 ≤ 15
    · obtain ⟨i, i1, i2, rfl⟩ := in_ex (lo := 10) (hi := 15) d (by decide) (by decide)
      rw [bI_t d, if_neg n10, if_neg n10, litS i1, litM, litA, ald_nI (by omega) (by omega), q3, nI_add]
      unfold X9_wantAt
      rw [if_neg (nI_pos (by omega)), X10_entry_in (N := 10) rfl hj10 (by decide), cal_some, show tx (1 + 50) j = nI (q j) from q2]
      by_cases g : q j ≤ i - 10
      · rw [if_pos (nI_le g (by omega)), cal_some, if_pos (nI_le g (by omega))]
        exact ok _ _ _ rfl rfl
      · rw [if_neg (nI_ge (by omega) (by omega)), litM, nI_add, X10_entry_in (N := 60) rfl (by omega) (by decide), cal_some, cal_some, if_neg (nI_ge (by omega) (by omega)), litS (by omega), ald_nI (by omega) (by omega), show 445 + 7 * j + i - 9 = 446 + 7 * j + (i - 10) by omega, q4 _ (by omega)]
        exact ok _ _ _ rfl rfl
    · rw [bI_f d, if_pos rfl, if_pos rfl]
      by_cases g : (100 : Int32) ≤ a2 ∧ a2 ≤ 111
      · obtain ⟨i, i1, i2, rfl⟩ := in_ex (lo := 100) (hi := 111) g (by decide) (by decide)
        unfold X11_meaning
        rw [bI_t g, if_neg n10, if_neg n10, litS i1, X9_saysTo_in hj10 (by omega), cal_some, litM, litA, nI_add, ald_nI (by omega) (by omega), cal_some, Nat.add_assoc, hSt.says (by omega)]
        exact ok _ _ _ rfl rfl
      · rw [bI_f g, if_pos rfl, if_pos rfl, if_neg c0, if_neg c1, if_neg c2, if_neg c3, if_neg c4, if_neg c5]
        exact ok _ _ _ rfl rfl
  · rw [bI_f p, if_pos rfl, if_pos rfl]
    exact ok _ _ _ rfl rfl
theorem step10 (F : Nat) (hF : 5000 ≤ F) : Step10 F Rl := by
  intro n tx tm a1 a2 _ h
  obtain ⟨nP, nM, q, rl, hSt, hW⟩ := h.st
  obtain ⟨w1, w2, w3, w4, w5, w6, w7, w8, w9, ⟨k, k1, k2⟩, w11⟩ := id hW
  have ok : ∀ (v : Int32) (x m : Option (Int32 × Tau)), x = some (v, tx) → m = some (v, tm) → ∃ r tx' tm', x = some (r, tx') ∧ m = some (r, tm') ∧ Rl (n + 1) tx' tm' := fun v x m e1 e2 => ⟨v, tx, tm, e1, e2, Rl_mono n tx tm h⟩
  unfold X10_of X11_of
  rw [X8_hasMute_eq (show tx 2 1 = nI nM from w3) w7, X11_isMute_eq w5 w7, cal_some, cal_some]
  by_cases p : (0 : Int32) ≤ a1 ∧ a1 < nI nM
  · obtain ⟨m, hm, rfl⟩ := has_ex p (by omega)
    have hm14 : m < 14 := by omega
    rw [bI_t p, if_neg n10, if_neg n10, X11_isIn_eq, cal_some]
    obtain ⟨c, c8, hc⟩ := hSt.carv hm
    obtain ⟨s, s8, hs⟩ := hSt.shov hm
    have hcm := hSt.R.many hm14
    have hsm := hSt.R.shown hm14
    rw [hc] at hcm
    rw [hs] at hsm
    have hatm := hSt.R.at_ hm14
    have ex : ∀ (c : Nat) (k : Int32 → Option (Int32 × Tau)), ald tx c 14 (nI m) k = k (tx c m) := fun c k => ald_nI hm14 (by omega)
    have em : ∀ (b : Nat) (k : Int32 → Option (Int32 × Tau)), b + m < 2244 → ald tm 1 2244 (nI (b + m)) k = k (tm 1 (b + m)) := fun b k hb => ald_nI hb (by omega)
    have b45 : (45 : Int32) + nI m = nI (45 + m) := litA
    have b59 : (59 : Int32) + nI m = nI (59 + m) := litA
    have b73 : (73 : Int32) + nI m = nI (73 + m) := litA
    have b87 : (87 : Int32) + nI m = nI (87 + m) := litA
    have b101 : (101 : Int32) + nI m = nI (101 + m) := litA
    have b115 : (115 : Int32) + nI m = nI (115 + m) := litA
    have b129 : (129 : Int32) + nI m = nI (129 + m) := litA
    have hnx : X8_nextThing F 2 (nI m) tx = some (if s < c then tx (2 + 12) (8 * m + s) else -1, tx) := X8_nextThing_in hSt.xM hm w7 hc c8 hs s8
    have hnm : X11_nextThing F (nI m) tm = some (if s < c then tm 1 (143 + (8 * m + s)) else -1, tm) := X11_nextThing_in hm14 hcm c8 hsm s8
    by_cases d : (0 : Int32) ≤ a2 ∧ a2 ≤ 17
    · obtain ⟨i, i1, i2, rfl⟩ := in_ex (lo := 0) (hi := 17) d (by decide) (by decide)
      rw [bI_t d, if_neg n10]
      by_cases hi : i < 10
      · rw [if_pos (show nI i < 10 by rw [lit_lt (by decide) (by omega)]; exact hi), b87, em 87 _ (by omega)]
        -- the reference: j88 with some z
        by_cases hlow : i < 7
        · have hj : ∀ z, X11_of_j88 F (nI m) (nI i) z tm = some (tm 1 ((if i = 0 then 45 else if i = 1 then 59 else if i = 2 then 73 else if i = 3 then 87 else if i = 4 then 101 else if i = 5 then 115 else 129) + m), tm) := by
            intro z
            have h7 : i = 0 ∨ i = 1 ∨ i = 2 ∨ i = 3 ∨ i = 4 ∨ i = 5 ∨ i = 6 := by omega
            unfold X11_of_j88
            rcases h7 with rfl | rfl | rfl | rfl | rfl | rfl | rfl
            · rw [if_pos (show nI 0 = 0 from rfl), b45, em 45 _ (by omega)]; rfl
            · rw [if_neg (by decide), if_pos (show nI 1 = 1 from rfl), b59, em 59 _ (by omega)]; rfl
            · rw [if_neg (by decide), if_neg (by decide), if_pos (show nI 2 = 2 from rfl), b73, em 73 _ (by omega)]; rfl
            · rw [if_neg (by decide), if_neg (by decide), if_neg (by decide), if_pos (show nI 3 = 3 from rfl), b87, em 87 _ (by omega)]; rfl
            · rw [if_neg (by decide), if_neg (by decide), if_neg (by decide), if_neg (by decide), if_pos (show nI 4 = 4 from rfl), b101, em 101 _ (by omega)]; rfl
            · rw [if_neg (by decide), if_neg (by decide), if_neg (by decide), if_neg (by decide), if_neg (by decide), if_pos (show nI 5 = 5 from rfl), b115, em 115 _ (by omega)]; rfl
            · rw [if_neg (by decide), if_neg (by decide), if_neg (by decide), if_neg (by decide), if_neg (by decide), if_neg (by decide), if_pos (show nI 6 = 6 from rfl), b129, em 129 _ (by omega)]; rfl
          have hjm : (if tm 1 (87 + m) = -1 then X11_of_j88 F (nI m) (nI i) (-1) tm else cal (X11_nextThing F (nI m) tm) fun r19 τ20 => X11_of_j88 F (nI m) (nI i) r19 τ20) = some (tm 1 ((if i = 0 then 45 else if i = 1 then 59 else if i = 2 then 73 else if i = 3 then 87 else if i = 4 then 101 else if i = 5 then 115 else 129) + m), tm) := by
            split
            · exact hj _
            · rw [hnm, cal_some]; exact hj _
          rw [hjm]
          have h7 : i = 0 ∨ i = 1 ∨ i = 2 ∨ i = 3 ∨ i = 4 ∨ i = 5 ∨ i = 6 := by omega
          rcases h7 with rfl | rfl | rfl | rfl | rfl | rfl | rfl
          · rw [if_pos (show nI 0 = 0 from rfl), ex]
            exact ok _ _ _ rfl (congrArg (fun v => some (v, tm)) (hSt.R.skill hm14))
          · rw [if_neg (show ¬ nI 1 = 0 by decide), if_pos (show nI 1 = 1 from rfl), ex]
            exact ok _ _ _ rfl (congrArg (fun v => some (v, tm)) (hSt.R.grief hm14))
          · rw [if_neg (show ¬ nI 2 = 0 by decide), if_neg (show ¬ nI 2 = 1 by decide), if_pos (show nI 2 = 2 from rfl), ex]
            exact ok _ _ _ rfl (congrArg (fun v => some (v, tm)) (hSt.R.fals hm14))
          · rw [if_neg (show ¬ nI 3 = 0 by decide), if_neg (show ¬ nI 3 = 1 by decide), if_neg (show ¬ nI 3 = 2 by decide), if_pos (show nI 3 = 3 from rfl), ex]
            exact ok _ _ _ rfl (congrArg (fun v => some (v, tm)) (hSt.R.at_ hm14))
          · rw [if_neg (show ¬ nI 4 = 0 by decide), if_neg (show ¬ nI 4 = 1 by decide), if_neg (show ¬ nI 4 = 2 by decide), if_neg (show ¬ nI 4 = 3 by decide), if_pos (show nI 4 = 4 from rfl), ex]
            exact ok _ _ _ rfl (congrArg (fun v => some (v, tm)) (hSt.R.known hm14))
          · rw [if_neg (show ¬ nI 5 = 0 by decide), if_neg (show ¬ nI 5 = 1 by decide), if_neg (show ¬ nI 5 = 2 by decide), if_neg (show ¬ nI 5 = 3 by decide), if_neg (show ¬ nI 5 = 4 by decide), if_pos (show nI 5 = 5 from rfl), ex]
            exact ok _ _ _ rfl (congrArg (fun v => some (v, tm)) (hSt.R.many hm14))
          · rw [if_neg (show ¬ nI 6 = 0 by decide), if_neg (show ¬ nI 6 = 1 by decide), if_neg (show ¬ nI 6 = 2 by decide), if_neg (show ¬ nI 6 = 3 by decide), if_neg (show ¬ nI 6 = 4 by decide), if_neg (show ¬ nI 6 = 5 by decide), if_pos (show nI 6 = 6 from rfl), ex]
            exact ok _ _ _ rfl (congrArg (fun v => some (v, tm)) (hSt.R.shown hm14))
        · have n0 : ¬ nI i = 0 := by rw [lit_eq (by decide) (by omega)]; omega
          have n1 : ¬ nI i = 1 := by rw [lit_eq (by decide) (by omega)]; omega
          have n2 : ¬ nI i = 2 := by rw [lit_eq (by decide) (by omega)]; omega
          have n3 : ¬ nI i = 3 := by rw [lit_eq (by decide) (by omega)]; omega
          have n4 : ¬ nI i = 4 := by rw [lit_eq (by decide) (by omega)]; omega
          have n5 : ¬ nI i = 5 := by rw [lit_eq (by decide) (by omega)]; omega
          have n6 : ¬ nI i = 6 := by rw [lit_eq (by decide) (by omega)]; omega
          rw [if_neg n0, if_neg n1, if_neg n2, if_neg n3, if_neg n4, if_neg n5, if_neg n6]
          have hj88 : ∀ z σ, X11_of_j88 F (nI m) (nI i) z σ = (if nI i = 7 then (cal (X11_criesOf F (nI m) σ) fun r13 τ14 => some (r13, τ14)) else if nI i = 8 then (if z = (-1) then (some ((-1), σ)) else (cal (X11_nodsOf F (nI m) z σ) fun r15 τ16 => some (r15, τ16))) else (if z = (-1) then (some ((-1), σ)) else (cal (X11_winsOf F (nI m) z σ) fun r17 τ18 => some (r17, τ18)))) := by
            intro z σ
            unfold X11_of_j88
            rw [if_neg n0, if_neg n1, if_neg n2, if_neg n3, if_neg n4, if_neg n5, if_neg n6]
          have hcs : X10_couldShow F (nI m) tx = some (bI (tx (2 + 8) m ≠ -1 ∧ s < c), tx) := by
            unfold X10_couldShow
            rw [X8_isAway_in hSt.xM hm w7, cal_some]
            by_cases e : tx (2 + 8) m = -1
            · rw [bI_f (fun z => z e), if_pos rfl, bI_f (fun z => z.1 e)]
            · rw [bI_t e, if_neg n10, hnx, cal_some]
              by_cases g : s < c
              · obtain ⟨b, b12, hb⟩ := hSt.thiv (show 8 * m + s < 112 by omega)
                rw [if_pos g, hb, if_neg (fun z => (nI_m1 (by omega)).mp z), bI_t ⟨e, g⟩]
              · rw [if_neg g, if_pos rfl, bI_f (fun z => g z.2)]
          rw [hnm]
          by_cases i7 : i = 7
          · subst i7
            rw [if_pos (show nI 7 = 7 from rfl)]
            obtain ⟨r, tx', tm', e1, e2, e3, e4⟩ := ask_cries (F := F) (by omega) hSt hm
            refine ⟨r, tx', tm', by rw [e1, cal_some], ?_, h.scr e3 e4⟩
            split
            · rw [hj88, if_pos (show nI 7 = 7 from rfl), e2, cal_some]
            · rw [cal_some, hj88, if_pos (show nI 7 = 7 from rfl), e2, cal_some]
          · have n7 : ¬ nI i = 7 := by rw [lit_eq (by decide) (by omega)]; exact i7
            rw [if_neg n7, hatm]
            by_cases e : tx (2 + 8) m = -1
            · rw [if_pos e, hj88, if_neg n7, hcs, bI_f (fun z => z.1 e), cal_some, cal_some]
              by_cases i8 : nI i = 8
              · rw [if_pos i8, if_pos rfl, if_pos i8, if_pos rfl]
                exact ok _ _ _ rfl rfl
              · have i9 : i = 9 := by rw [lit_eq (by decide) (by omega)] at i8; omega
                subst i9
                rw [if_neg i8, if_pos (show nI 9 = 9 from rfl), if_pos rfl, if_neg i8, if_pos rfl]
                exact ok _ _ _ rfl rfl
            · rw [if_neg e, cal_some, hj88, if_neg n7, hcs, cal_some, cal_some]
              by_cases g : s < c
              · obtain ⟨b, b12, hb⟩ := hSt.thiv (show 8 * m + s < 112 by omega)
                have hbm := hSt.R.thing (show 8 * m + s < 112 by omega)
                rw [hb] at hbm
                obtain ⟨pp, hpp, hpe⟩ := (hSt.atv hm).resolve_left e
                have hnb : X8_nextThing F 2 (nI m) tx = some (nI b, tx) := by rw [hnx, if_pos g, hb]
                have nb : ¬ nI b = -1 := fun z => (nI_m1 (by omega)).mp z
                rw [if_pos g, hbm, bI_t ⟨e, g⟩]
                by_cases i8 : nI i = 8
                · rw [if_pos i8, if_neg n10, if_pos i8, if_neg nb]
                  obtain ⟨r, tx', tm', e1, e2, e3, e4⟩ := ask_nods (F := F) (by omega) hSt hm hpe hpp b12 hnb
                  exact ⟨r, tx', tm', by rw [e1, cal_some], by rw [e2, cal_some], h.scr e3 e4⟩
                · have i9 : i = 9 := by rw [lit_eq (by decide) (by omega)] at i8; omega
                  subst i9
                  rw [if_neg i8, if_pos (show nI 9 = 9 from rfl), if_neg n10, if_neg i8, if_neg nb]
                  obtain ⟨r, tx', tm', e1, e2, e3, e4⟩ := ask_wins (F := F) (by omega) hSt hm hpe hpp b12 hnb
                  exact ⟨r, tx', tm', by rw [e1, cal_some], by rw [e2, cal_some], h.scr e3 e4⟩
              · rw [if_neg g, bI_f (fun z => g z.2)]
                by_cases i8 : nI i = 8
                · rw [if_pos i8, if_pos rfl, if_pos i8, if_pos rfl]
                  exact ok _ _ _ rfl rfl
                · have i9 : i = 9 := by rw [lit_eq (by decide) (by omega)] at i8; omega
                  subst i9
                  rw [if_neg i8, if_pos (show nI 9 = 9 from rfl), if_pos rfl, if_neg i8, if_pos rfl]
                  exact ok _ _ _ rfl rfl
      · have nk : ∀ k : Nat, k < 10 → ¬ nI i = nI k := fun k hk e => by have := nI_inj (by omega) (by omega) e; omega
        rw [if_neg (show ¬ nI i = 0 from nk 0 (by decide)), if_neg (show ¬ nI i = 1 from nk 1 (by decide)), if_neg (show ¬ nI i = 2 from nk 2 (by decide)), if_neg (show ¬ nI i = 3 from nk 3 (by decide)), if_neg (show ¬ nI i = 4 from nk 4 (by decide)), if_neg (show ¬ nI i = 5 from nk 5 (by decide)), if_neg (show ¬ nI i = 6 from nk 6 (by decide)), if_neg (show ¬ nI i = 7 from nk 7 (by decide)), if_neg (show ¬ nI i = 8 from nk 8 (by decide)), if_neg (show ¬ nI i = 9 from nk 9 (by decide)), within_in ⟨by omega, by omega⟩ (by decide), cal_some, if_neg n10, litS (by omega), X8_thingOf_in hSt.xM hm w7 hc c8 (by omega), cal_some, if_neg (show ¬ nI i < 10 by rw [lit_lt (by decide) (by omega)]; omega), b115, em 115 _ (by omega), hcm]
        by_cases g : i - 10 < c
        · rw [if_pos g, if_neg (nI_ge g (by omega)), litM, litA, nI_add, litS (by omega), ald_nI (by omega) (by omega), show 143 + 8 * m + i - 10 = 143 + (8 * m + (i - 10)) by omega, hSt.R.thing (by omega)]
          exact ok _ _ _ rfl rfl
        · rw [if_neg g, if_pos (nI_le (by omega) (by omega))]
          exact ok _ _ _ rfl rfl
    · rw [bI_f d, if_pos rfl]
      have nk : ∀ k : Nat, k ≤ 17 → ¬ a2 = nI k := fun k hk e => d (by rw [e]; exact (in_iff (lo := 0) (hi := 17) (by decide) (by omega) (by decide)).mpr ⟨by omega, hk⟩)
      have d2 : ¬ ((10 : Int32) ≤ a2 ∧ a2 ≤ 17) := fun z => d ⟨Int32.le_trans (by decide) z.1, z.2⟩
      rw [if_neg (show ¬ a2 = 0 from nk 0 (by decide)), if_neg (show ¬ a2 = 1 from nk 1 (by decide)), if_neg (show ¬ a2 = 2 from nk 2 (by decide)), if_neg (show ¬ a2 = 3 from nk 3 (by decide)), if_neg (show ¬ a2 = 4 from nk 4 (by decide)), if_neg (show ¬ a2 = 5 from nk 5 (by decide)), if_neg (show ¬ a2 = 6 from nk 6 (by decide)), if_neg (show ¬ a2 = 7 from nk 7 (by decide)), if_neg (show ¬ a2 = 8 from nk 8 (by decide)), if_neg (show ¬ a2 = 9 from nk 9 (by decide)), X10_within_eq, cal_some, bI_f d2, if_pos rfl]
      exact ok _ _ _ rfl rfl
  · rw [bI_f p, if_pos rfl, if_pos rfl]
    exact ok _ _ _ rfl rfl
