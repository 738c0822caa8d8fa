/-! PURE PART. Steps: act, days -/
def Pc (T nP nM : Nat) (q : Nat → Nat) (tx tm : Tau) : Prop := RW T nP nM q 1 tx (tm 1) ∧ RH T nP nM q tx tm ∧ Rim T tx tm ∧ Rtp tx tm ∧ Rfa tx tm ∧ Rsi tx
theorem Pc.rl {T n nP nM : Nat} {q : Nat → Nat} {tx tm : Tau} (h : Pc T nP nM q tx tm) (hT : T ≤ 840 * n) : Rl n tx tm := by
  obtain ⟨a, b, c, d⟩ := h
  exact ⟨nP, nM, q, a.mono hT, b.mono hT, c.mono hT, d⟩
theorem Pc.kept {F T nP nM : Nat} {q : Nat → Nat} {tx tm : Tau} (hF : 1275 < F) (h : Pc T nP nM q tx tm) : ∃ tx1 tm1, X1_keep F 2 tx = some (0, tx1) ∧ X11_keeps F tm = some (0, tm1) ∧ Pc T nP nM q tx1 tm1 ∧ tm1 0 26 = 1 ∧ (∀ c j, ¬ (c = 116 ∧ j < 2) → ¬ (118 ≤ c ∧ c ≤ 195) → tx1 c j = tx c j) := by
  obtain ⟨hW, hH, hI, hT, ⟨f1, f2, f3⟩, hS⟩ := h
  obtain ⟨tx1, tm1, e1, e2, e3, e4, e5, e6⟩ := o_keep (F := F) hF hW hH
  refine ⟨tx1, tm1, e1, e2, ⟨hW.congr (fun c j hc => e5 _ _ (by omega) (by omega)) (fun k _ => e6 _ _ (by omega) (by omega)), e3, hI.congr (fun c j hc => e5 _ _ (by omega) (by omega)) (e6 _ _ (by omega) (by omega)) (fun k _ => e6 _ _ (by omega) (by omega)), hT.congr (fun c j hc => e5 _ _ (by omega) (by omega)) (e6 _ _ (by omega) (by omega)) (fun k => e6 _ _ (by omega) (by omega)), ⟨?_, ?_, .inr e4⟩, hS.congr (e5 _ _ (by omega) (by omega)) (fun j => e5 _ _ (by omega) (by omega))⟩, e4, e5⟩
  · rw [e5 _ _ (by omega) (by omega), e6 _ _ (by omega) (by omega)]; exact f1
  · rw [e5 _ _ (by omega) (by omega), e6 _ _ (by omega) (by omega)]; exact f2
/-- behind what was done to the town of now -/
theorem Pc.done {T T' nP nM : Nat} {q : Nat → Nat} {tx1 tm1 tx tm : Tau} (h : Pc T nP nM q tx1 tm1) (hT : T ≤ T') (hs : St 2 true true T' nP nM q tx1 tm1 tx tm) : Pc T' nP nM q tx tm := by
  obtain ⟨hW, hH, hI, hTp, ⟨f1, f2, f3⟩, hS⟩ := h
  obtain ⟨-, -, -, hi, -, gX, gM⟩ := id hs
  have ex : ∀ c j, (c < 2 ∨ 14 < c) → c ≠ 45 → c ≠ 212 → c ≠ 46 → tx c j = tx1 c j := fun c j h1 h2 h3 h4 => gX c j (by omega) h2 h3 (.inl h4)
  have em : ∀ c j, c ≠ 1 → c ≠ 9 → c ≠ 10 → tm c j = tm1 c j := gM.1
  refine ⟨hs.toRW, (hH.mono hT).congr (fun c j hc => ex _ _ (by omega) (by omega) (by omega) (by omega)) (em _ _ (by omega) (by omega) (by omega)) (fun k => em _ _ (by omega) (by omega) (by omega)), (hI.mono hT).congr (fun c j hc => ex _ _ (by omega) (by omega) (by omega) (by omega)) (em _ _ (by omega) (by omega) (by omega)) (fun k _ => em _ _ (by omega) (by omega) (by omega)), hTp.congr (fun c j hc => ex _ _ (by omega) (by omega) (by omega) (by omega)) (em _ _ (by omega) (by omega) (by omega)) (fun k => em _ _ (by omega) (by omega) (by omega)), ⟨?_, ?_, .inr hi⟩, hS.congr (ex _ _ (by omega) (by omega) (by omega) (by omega)) (fun j => ex _ _ (by omega) (by omega) (by omega) (by omega))⟩
  · rw [ex _ _ (by omega) (by omega) (by omega) (by omega), em _ _ (by omega) (by omega) (by omega)]; exact f1
  · rw [ex _ _ (by omega) (by omega) (by omega) (by omega), em _ _ (by omega) (by omega) (by omega)]; exact f2
theorem Rl.pc {n : Nat} {tx tm : Tau} (h : Rl n tx tm) : ∃ nP nM q, Pc (840 * n) nP nM q tx tm := h
theorem X8_isHome_out {F t n : Nat} {a : Int32} {τ : Tau} (hn : τ t 1 = nI n) (h : ¬ (0 ≤ a ∧ a < nI n)) : X8_isHome F t a τ = some (0, τ) := by
  unfold X8_isHome
  rw [X8_hasMute_out hn h, cal_some, if_pos rfl]
theorem X8_isAway_out {F t n : Nat} {a : Int32} {τ : Tau} (hn : τ t 1 = nI n) (h : ¬ (0 ≤ a ∧ a < nI n)) : X8_isAway F t a τ = some (0, τ) := by
  unfold X8_isAway
  rw [X8_hasMute_out hn h, cal_some, if_pos rfl]
theorem ite_bI {p : Prop} [Decidable p] {α : Type} {a b : α} : (if bI p = 0 then a else b) = if p then b else a := by
  by_cases h : p
  · rw [bI_t h, if_neg n10, if_pos h]
  · rw [bI_f h, if_pos rfl, if_neg h]
theorem some_bI {p : Prop} [Decidable p] {τ : Tau} : (if p then some ((1 : Int32), τ) else some (0, τ)) = some (bI p, τ) := by
  by_cases h : p
  · rw [bI_t h, if_pos h]
  · rw [bI_f h, if_neg h]
theorem some_bI' {p : Prop} [Decidable p] {τ : Tau} : (if p then some ((0 : Int32), τ) else some (1, τ)) = some (bI (¬ p), τ) := by
  by_cases h : p
  · rw [bI_f (fun z => z h), if_pos h]
  · rw [bI_t h, if_neg h]
/-- what is allowed, in both -/
theorem can_eq {F T nP nM : Nat} {q : Nat → Nat} {tx tm : Tau} (hW : RW T nP nM q 1 tx (tm 1)) (a1 a2 a3 : Int32) : ∃ v, X8_allows F 2 a1 a2 a3 tx = some (v, tx) ∧ X11_canAct F a1 a2 a3 tm = some (v, tm) ∧ (v ≠ 0 → ∃ m, m < nM ∧ a2 = nI m ∧
    ((a1 = 0 ∧ tx 10 m = -1 ∧ ∃ p, p < nP ∧ a3 = nI p) ∨ (a1 = 1) ∨ (a1 = 2 ∧ (∃ c h, c < 8 ∧ h < 12 ∧ tx 12 m = nI c ∧ a3 = nI h)) ∨ a1 = 3 ∨ a1 = 4)) := by
  obtain ⟨w1, w2, w3, w4, w5, w6, w7, w8, w9, w10, w11⟩ := id hW
  replace w2 : tx 2 0 = nI nP := w2
  replace w3 : tx 2 1 = nI nM := w3
  unfold X8_allows X11_canAct X11_canAct_j28
  rw [X11_isMute_eq w5 w7, cal_some]
  by_cases p : (0 : Int32) ≤ a2 ∧ a2 < nI nM
  · obtain ⟨m, hm, rfl⟩ := has_ex p (by omega)
    have hm14 : m < 14 := by omega
    have hatm : tm 1 (87 + m) = tx 10 m := hW.tw.at_ hm14
    have hmany : tm 1 (115 + m) = tx 12 m := hW.tw.many hm14
    have l1 : (87 : Int32) + nI m = nI (87 + m) := litA
    have l2 : (115 : Int32) + nI m = nI (115 + m) := litA
    have a87 : ∀ k : Int32 → Option (Int32 × Tau), ald tm 1 2244 (nI (87 + m)) k = k (tm 1 (87 + m)) := fun k => ald_nI (by omega) (by omega)
    have a115 : ∀ k : Int32 → Option (Int32 × Tau), ald tm 1 2244 (nI (115 + m)) k = k (tm 1 (115 + m)) := fun k => ald_nI (by omega) (by omega)
    have x12 : ∀ k : Int32 → Option (Int32 × Tau), ald tx 12 14 (nI m) k = k (tx 12 m) := fun k => ald_nI hm14 (by omega)
    rw [bI_t p, if_neg n10]
    simp only [X8_isHome_in w3 hm w7, X8_isAway_in w3 hm w7, X8_hasPower_eq w2 w6, cal_some, X10_within_eq, X11_isPower_eq w4 w6, X11_isIn_eq, l1, l2, a87, a115, hatm, hmany, narB, Nat.reduceAdd, x12]
    obtain ⟨c, c8, hc⟩ := w8.2.1 m hm
    rw [hmany] at hc
    by_cases e : tx 10 m = -1
    · simp only [if_pos e, bI_t e, if_neg n10]
      by_cases c0 : a1 = 0
      · simp only [if_pos c0, ite_bI, some_bI]
        refine ⟨_, rfl, rfl, fun hv => ⟨m, hm, rfl, .inl ⟨c0, e, ?_⟩⟩⟩
        by_cases pp : (0 : Int32) ≤ a3 ∧ a3 < nI nP
        · obtain ⟨j, hj, rfl⟩ := has_ex pp (by omega)
          exact ⟨j, hj, rfl⟩
        · exact absurd (bI_f pp) hv
      · simp only [if_neg c0]
        by_cases c1 : a1 = 1
        · simp only [if_pos c1]
          rw [bI_f (fun z => z e)]
          exact ⟨0, rfl, rfl, fun hv => absurd rfl hv⟩
        · simp only [if_neg c1]
          by_cases c2 : a1 = 2
          · simp only [if_pos c2, ite_bI]
            rw [hc]
            by_cases g : (8 : Int32) ≤ nI c
            · rw [if_pos g]
              refine ⟨0, rfl, ?_, fun hv => absurd rfl hv⟩
              split <;> rfl
            · rw [if_neg g, if_neg g]
              have g2 : c < 8 := by rw [lit_le' (by decide) (by omega)] at g; omega
              by_cases pp : (0 : Int32) ≤ a3 ∧ a3 ≤ 11
              · rw [if_pos pp]
                obtain ⟨j, j1, j2, rfl⟩ := in_ex (lo := 0) (hi := 11) pp (by decide) (by decide)
                exact ⟨1, rfl, if_pos pp, fun _ => ⟨m, hm, rfl, .inr (.inr (.inl ⟨c2, c, j, g2, by omega, hc, rfl⟩))⟩⟩
              · rw [if_neg pp]
                exact ⟨0, rfl, if_neg pp, fun hv => absurd rfl hv⟩
          · simp only [if_neg c2]
            by_cases c3 : a1 = 3
            · simp only [if_pos c3]
              rw [some_bI']
              exact ⟨_, rfl, some_bI', fun _ => ⟨m, hm, rfl, .inr (.inr (.inr (.inl c3)))⟩⟩
            · simp only [if_neg c3]
              by_cases c4 : a1 = 4
              · simp only [if_pos c4]
                exact ⟨1, rfl, rfl, fun _ => ⟨m, hm, rfl, .inr (.inr (.inr (.inr c4)))⟩⟩
              · simp only [if_neg c4]
                exact ⟨0, rfl, rfl, fun hv => absurd rfl hv⟩
    · simp only [if_neg e, bI_f e, if_true]
      by_cases c0 : a1 = 0
      · simp only [if_pos c0]
        exact ⟨0, rfl, rfl, fun hv => absurd rfl hv⟩
      · simp only [if_neg c0]
        by_cases c1 : a1 = 1
        · simp only [if_pos c1]
          rw [bI_t e]
          exact ⟨1, rfl, rfl, fun _ => ⟨m, hm, rfl, .inr (.inl c1)⟩⟩
        · simp only [if_neg c1]
          refine ⟨0, ?_, ?_, fun hv => absurd rfl hv⟩
          · repeat' split
            all_goals rfl
          · repeat' split
            all_goals rfl
  · rw [bI_f p, if_pos rfl]
    simp only [X8_isHome_out w3 p, X8_isAway_out w3 p, cal_some, if_true, nar0]
    refine ⟨0, ?_, rfl, fun hv => absurd rfl hv⟩
    repeat' split
    all_goals rfl
theorem step4 (F : Nat) (hF : 5000 ≤ F) : Step4 F Rl := by
  intro n tx tm a1 a2 a3 _ h
  obtain ⟨nP, nM, q, hP⟩ := h.pc
  obtain ⟨v, e1, e2, e3⟩ := can_eq (F := F) hP.1 a1 a2 a3
  unfold X10_act X11_act
  rw [e1, e2, cal_some, cal_some]
  by_cases hv : v = 0
  · rw [if_pos hv, if_pos hv]
    exact ⟨0, tx, tm, rfl, rfl, Rl_mono n tx tm h⟩
  rw [if_neg hv, if_neg hv]
  obtain ⟨tx1, tm1, k1, k2, k3, k4, k5⟩ := hP.kept (F := F) (by omega)
  have hs := k3.1.toSt k4
  obtain ⟨hP10, hM14⟩ := hs.lt
  have fin : ∀ tx' tm' (x m : Option (Int32 × Tau)), St 2 true true (840 * n) nP nM q tx1 tm1 tx' tm' → x = some (1, tx') → m = some (1, tm') → ∃ r tx' tm', x = some (r, tx') ∧ m = some (r, tm') ∧ Rl (n + 1) tx' tm' := fun tx' tm' x m g x1 x2 => ⟨1, tx', tm', x1, x2, (k3.done (Nat.le_refl _) g).rl (by omega)⟩
  rw [k1, k2, cal_some, cal_some]
  obtain ⟨m, hm, rfl, hc⟩ := e3 hv
  have hm14 : m < 14 := by omega
  have h01 : ¬ (0 : Int32) = 1 := by decide
  have h02 : ¬ (0 : Int32) = 2 := by decide
  have h03 : ¬ (0 : Int32) = 3 := by decide
  have h04 : ¬ (0 : Int32) = 4 := by decide
  have h12 : ¬ (1 : Int32) = 2 := by decide
  have h13 : ¬ (1 : Int32) = 3 := by decide
  have h14 : ¬ (1 : Int32) = 4 := by decide
  have h20 : ¬ (2 : Int32) = 0 := by decide
  have h21 : ¬ (2 : Int32) = 1 := by decide
  have h23 : ¬ (2 : Int32) = 3 := by decide
  have h24 : ¬ (2 : Int32) = 4 := by decide
  have h30 : ¬ (3 : Int32) = 0 := by decide
  have h31 : ¬ (3 : Int32) = 1 := by decide
  have h32 : ¬ (3 : Int32) = 2 := by decide
  have h34 : ¬ (3 : Int32) = 4 := by decide
  have h40 : ¬ (4 : Int32) = 0 := by decide
  have h41 : ¬ (4 : Int32) = 1 := by decide
  have h42 : ¬ (4 : Int32) = 2 := by decide
  have h43 : ¬ (4 : Int32) = 3 := by decide
  unfold X0_doByHand X11_act_j26 X11_act_j36 X11_act_j78 X11_act_j93
  rcases hc with ⟨rfl, -, p, hp, rfl⟩ | rfl | ⟨rfl, c, b, hc8, hb, hcx, rfl⟩ | rfl | rfl
  · obtain ⟨tx2, tm2, g1, g2, g3, g4⟩ := o_send (F := F) hs hm hp
    have g1' : X0_sendTo F 2 (nI m) (nI p) 1 tx1 = some (0, tx2) := g1
    simp only [if_true, if_neg h01, if_neg h02, if_neg h03, if_neg h04, g1', g2, cal_some]
    exact fin tx2 tm2 _ _ g3 rfl rfl
  · obtain ⟨tx2, tm2, g1, g2, g3, g4⟩ := o_home (F := F) hs hm
    have g1' : X0_goHome F 2 (nI m) 1 tx1 = some (0, tx2) := g1
    simp only [if_true, if_neg n10, if_neg h12, if_neg h13, if_neg h14, g1', g2, cal_some]
    exact fin tx2 tm2 _ _ g3 rfl rfl
  · have hcx1 : tx1 12 m = nI c := by rw [k5 _ _ (by omega) (by omega)]; exact hcx
    have hcm1 : tm1 1 (115 + m) = nI c := (hs.R.many hm14).trans hcx1
    have s1 := hs.chg (v := nI b) (show 143 + (8 * m + c) < 255 ∧ 143 + (8 * m + c) ≠ 4 by omega) (sl_143 (8 * m + c) (by omega)) (Val_upd hs.V hP10 hM14 _ _ (h4 := fun _ _ _ => ⟨b, hb, rfl⟩))
    have s2 := s1.chg (v := nI (c + 1)) (show 115 + m < 255 ∧ 115 + m ≠ 4 by omega) (sl_115 m hm14) (Val_upd s1.V hP10 hM14 _ _ (h2 := fun _ _ _ => ⟨c + 1, by omega, rfl⟩) (h8 := fun _ _ _ _ => by omega))
    have g1 : X8_putThing F 2 (nI m) (nI b) tx1 = some (0, up (up tx1 (2 + 12) (8 * m + c) (nI b)) (2 + 10) m (nI (c + 1))) := by
      unfold X8_putThing
      rw [X8_hasMute_in hs.xM hm hM14, cal_some, if_neg n10, ald_nI (by omega) (by omega), show tx1 (2 + 10) m = nI c from hcx1, within_in ⟨by omega, by omega⟩ (by decide), cal_some, if_neg n10, ald_nI (by omega) (by omega), show tx1 (2 + 10) m = nI c from hcx1, litM, nI_add, ast_nI (by omega) (by omega), ald_nI (by omega) (by omega), up_nc (by decide), show tx1 (2 + 10) m = nI c from hcx1, litA', ast_nI (by omega) (by omega)]
    have g2 : ∀ A : Tau → Option (Int32 × Tau), (ald tm1 1 2244 (115 + nI m) fun v9 => ast tm1 1 2244 (143 + 8 * nI m + v9) (nI b) fun τ10 => ald τ10 1 2244 (115 + nI m) fun v11 => ast τ10 1 2244 (115 + nI m) (v11 + 1) fun τ12 => A τ12) = A (up (up tm1 1 (143 + (8 * m + c)) (nI b)) 1 (115 + m) (nI (c + 1))) := by
      intro A
      rw [litA, ald_nI (by omega) (by omega), hcm1, litM, litA, nI_add, ast_nI (by omega) (by omega), ald_nI (by omega) (by omega), up_nj (by omega), hcm1, litA', ast_nI (by omega) (by omega), Nat.add_assoc]
    simp only [if_true, if_neg h20, if_neg h21, if_neg h23, if_neg h24, g1, cal_some]
    rw [g2 (fun τ => some (1, τ))]
    exact fin _ _ _ _ s2 rfl rfl
  · have s1 := hs.chg (v := 0) (show 115 + m < 255 ∧ 115 + m ≠ 4 by omega) (sl_115 m hm14) (Val_upd hs.V hP10 hM14 _ _ (h2 := fun _ _ _ => ⟨0, by omega, rfl⟩) (h8 := fun _ _ _ _ => rfl))
    have l2 : (115 : Int32) + nI m = nI (115 + m) := litA
    have g2 : ∀ A : Tau → Option (Int32 × Tau), (ast tm1 1 2244 (nI (115 + m)) 0 fun τ13 => A τ13) = A (up tm1 1 (115 + m) 0) := fun A => ast_nI (by omega) (by omega)
    have g1 : X10_put F 12 (nI m) 0 1 tx1 = some (1, up tx1 12 m 0) := X10_put_in (N := 14) rfl hm14 (by decide)
    simp only [if_true, if_neg h30, if_neg h31, if_neg h32, if_neg h34, l2, g1, cal_some]
    rw [g2 (fun τ => some (1, τ))]
    exact fin _ _ _ _ s1 rfl rfl
  · obtain ⟨r, tx2, tm2, d1, d2, d3, d4⟩ := ask_cries (F := F) (by omega) hs hm
    obtain ⟨v, tx3, tm3, v01, f1, f2, f3, f4⟩ := o_falls (F := F) (hs.scr d3 d4) r
    have f1' : X0_falls F 2 r 1 tx2 = some (v, tx3) := f1
    simp only [if_true, if_neg h40, if_neg h41, if_neg h42, if_neg h43, d2, f2, cal_some]
    unfold X0_prick X0_prick_j37 X0_prick_j53 X11_act_j124 X11_act_j138
    rw [d1, cal_some, f1', cal_some]
    rcases v01 with rfl | rfl
    · obtain ⟨k, b1, b2, b3, b4⟩ := f3.rb
      rw [if_pos rfl, if_pos rfl, if_pos rfl, if_pos rfl, X9_write_eq b2 b1, M_nt b3 b1 f3.is]
      exact fin _ _ _ _ (f3.book 6 (nI m) 0) rfl rfl
    · have s1 := f3.chg (v := 1) (show 101 + m < 255 ∧ 101 + m ≠ 4 by omega) (sl_101 m hm14) (Val_upd f3.V hP10 hM14 _ _ (h5 := fun _ _ _ => .inr rfl))
      obtain ⟨k, b1, b2, b3, b4⟩ := s1.rb
      rw [if_neg n10, if_neg n10, X10_put_in (N := 14) rfl hm14 (by decide), cal_some, if_neg n10, litA, ast_nI (by omega) (by omega), if_neg n10, X9_write_eq (by exact b2) b1, M_nt b3 b1 s1.is]
      exact fin _ _ _ _ (s1.book 6 (nI m) 1) rfl rfl
