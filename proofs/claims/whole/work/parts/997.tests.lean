/-! PURE PART. Texts: one test -/
def TestG (F : Nat) (y : Nat → Nat) (l N : Nat) (Bx Bm : Tau) (d : Nat) : Prop := ∀ (n m g d0 a2 i : Nat) (ops : List (Nat × Nat)) (τx τm : Tau), d0 + a2 = d → 9 - d ≤ n → 9 - d ≤ m → 9 - d < g → XL y l N Bx i (encs ops) τx → ML y l Bm i d ops τm → (encs ops).length + a2 ≤ i →
  (∃ τx' τm' i' new, X3_readCondition_L4 F (X3_readAny F n) g (nI d0) (nI a2) (nI d) τx = some (0, τx') ∧ X11_oneTest F m τm = some (1, τm') ∧ XL y l N Bx i' (encs (ops ++ new ++ List.replicate a2 (30, 0))) τx' ∧ ML y l Bm i' d (ops ++ new) τm' ∧ i + (encs new).length ≤ i' ∧ (∀ o ∈ new, okOp o) ∧ tyB (2 * d + 2) true new) ∨ Fl Bx Bm (X3_readCondition_L4 F (X3_readAny F n) g (nI d0) (nI a2) (nI d) τx) (X11_oneTest F m τm)
theorem TestG.toH {F l N d n m : Nat} {y : Nat → Nat} {Bx Bm : Tau} (hF : 5000 ≤ F) (h : TestG F y l N Bx Bm d) (hn : 9 - d ≤ n) (hm : 9 - d ≤ m) : TestH F y l N Bx Bm d (X3_readAny F n) (X11_oneTest F m) := by
  intro i ops τx τm h1 h2 h3
  unfold X3_readCondition
  rcases h n m F d 0 i ops τx τm (by omega) hn hm (by omega) h1 h2 (by omega) with ⟨τx', τm', i', new, a1, a2, a3, a4⟩ | a
  · rw [List.replicate_zero, List.append_nil] at a3
    exact .inl ⟨τx', τm', i', new, a1, a2, a3, a4⟩
  · exact .inr a
theorem ml_depth {l i d : Nat} {y : Nat → Nat} {Bm τ : Tau} {ops : List (Nat × Nat)} (d' : Nat) (h : ML y l Bm i d ops τ) : ML y l Bm i d' ops (up τ 0 24 (nI d')) := by
  obtain ⟨⟨g1, ⟨m1, m2, m3, m4⟩, g5⟩, hd, h2, h3⟩ := h
  refine ⟨⟨?_, ⟨?_, ?_, ?_, fun n hn => ?_⟩, fun c j hc' => ?_⟩, up_c, ?_, fun j q hj => ?_⟩
  · rw [up_nj (by decide)]; exact g1
  · rw [up_nj (by decide)]; exact m1
  · rw [up_nj (by decide)]; exact m2
  · rw [up_nj (by decide)]; exact m3
  · rw [up_nj (by decide)]; exact m4 n hn
  · have hc2 := hc'
    unfold frM at hc2
    rw [up_if, if_neg (by omega)]
    exact g5 c j hc'
  · rw [up_nj (by decide)]; exact h2
  · rw [up_nc (by decide), up_nc (by decide)]; exact h3 j q hj
theorem cmp_sim {F l N d i a2 : Nat} {y : Nat → Nat} {Bx Bm τx τm : Tau} {ops : List (Nat × Nat)} {rc : Int32 → Tau → Option (Int32 × Tau)} {orc : Tau → Option (Int32 × Tau)} (hF : 5000 ≤ F) (E : EnvT 0 y l N Bx Bm) (hd : d ≤ 8) (ha2 : a2 ≤ 8) (h : XL y l N Bx i (encs ops) τx) (h' : ML y l Bm i d ops τm) (hc : (encs ops).length + a2 ≤ i) :
    (∃ τx' τm' i' new, (cal (X3_readSum F τx) fun r5 τ6 => cal (X3_comparisonHere F τ6) fun r7 τ8 => cal (X6_skip F τ8) fun r9 τ10 => cal (X3_readSum F τ10) fun r11 τ12 => cal (X2_emit F 203 r7 τ12) fun r13 τ14 => X3_readCondition_j153 F rc (nI a2) τ14) = some (0, τx') ∧ (cal (X11_sumUp F τm) fun r15 τ16 => if r15 = 0 then (some (0, τ16)) else (if (τ16 0 18) = 160 then (X11_oneTest_j147 F orc 27 τ16) else (if (τ16 0 18) = 161 then (X11_oneTest_j147 F orc 28 τ16) else (if (τ16 0 18) = 162 then (X11_oneTest_j147 F orc 29 τ16) else (X11_oneTest_j147 F orc (-1) τ16))))) = some (1, τm') ∧ XL y l N Bx i' (encs (ops ++ new ++ List.replicate a2 (30, 0))) τx' ∧ ML y l Bm i' d (ops ++ new) τm' ∧ i + (encs new).length ≤ i' ∧ (∀ o ∈ new, okOp o) ∧ tyB (2 * d + 2) true new) ∨ Fl Bx Bm (cal (X3_readSum F τx) fun r5 τ6 => cal (X3_comparisonHere F τ6) fun r7 τ8 => cal (X6_skip F τ8) fun r9 τ10 => cal (X3_readSum F τ10) fun r11 τ12 => cal (X2_emit F 203 r7 τ12) fun r13 τ14 => X3_readCondition_j153 F rc (nI a2) τ14) (cal (X11_sumUp F τm) fun r15 τ16 => if r15 = 0 then (some (0, τ16)) else (if (τ16 0 18) = 160 then (X11_oneTest_j147 F orc 27 τ16) else (if (τ16 0 18) = 161 then (X11_oneTest_j147 F orc 28 τ16) else (if (τ16 0 18) = 162 then (X11_oneTest_j147 F orc 29 τ16) else (X11_oneTest_j147 F orc (-1) τ16))))) := by
  have e5 := E.2.2.2.2.1
  have hN := E.2.2.1.2.1
  rcases sum_sim hF E h h' (by omega) with ⟨τ1, τ2, i1, n1, u1, u2, u3, u4, u5, u6, u7⟩ | ⟨r, τ1, τ2, k, p, u1, u2, u3, u4⟩
  · have hi1 := u3.1.2.2.2.1
    have en1 : (encs (ops ++ n1)).length = (encs ops).length + (encs n1).length := by rw [encs_app, List.length_append]
    have tko := tk_ok (a := 0) (y := y) (l := l) (i := i1)
    have hcM := ms_code u4.1
    rw [u1, cal_some, u2, cal_some, if_neg n10]
    by_cases cb : ∃ b z, (b = 60 ∧ z = 27 ∨ b = 61 ∧ z = 28 ∨ b = 62 ∧ z = 29) ∧ tk 0 y l i1 = .sgn b
    · obtain ⟨b, z, hbz, hb⟩ := cb
      have hlt := tk_N e5 hi1 (by rw [hb]; exact (nofun))
      have hcd : τ2 0 18 = nI (100 + b) := by rw [hcM, hb]; rfl
      have eC : X3_comparisonHere F τ1 = some (nI (z - 13), τ1) := by
        unfold X3_comparisonHere
        rw [xs_sign u3.1, hb, cal_some]
        rcases hbz with ⟨rfl, rfl⟩ | ⟨rfl, rfl⟩ | ⟨rfl, rfl⟩ <;> rfl
      obtain ⟨τ3, s1, s2⟩ := xl_skip (F := F) E u3 hlt
      obtain ⟨τ4, p1, p2⟩ := ml_next hF E u4
      have eM : (if (τ2 0 18) = 160 then (X11_oneTest_j147 F orc 27 τ2) else (if (τ2 0 18) = 161 then (X11_oneTest_j147 F orc 28 τ2) else (if (τ2 0 18) = 162 then (X11_oneTest_j147 F orc 29 τ2) else (X11_oneTest_j147 F orc (-1) τ2)))) = cal (X11_sumUp F τ4) fun r21 τ22 => if r21 = 0 then (some (0, τ22)) else (cal (X11_lay F (nI z) 0 τ22) fun r23 τ24 => some (1, τ24)) := by
        have ej : ∀ z : Nat, z < 100 → X11_oneTest_j147 F orc (nI z) τ2 = cal (X11_sumUp F τ4) fun r21 τ22 => if r21 = 0 then (some (0, τ22)) else (cal (X11_lay F (nI z) 0 τ22) fun r23 τ24 => some (1, τ24)) := by
          intro z hz
          unfold X11_oneTest_j147
          rw [if_neg (fun q => (nI_m1 (by omega)).mp q), p1, cal_some]
        rw [hcd]
        rcases hbz with ⟨rfl, rfl⟩ | ⟨rfl, rfl⟩ | ⟨rfl, rfl⟩
        · rw [if_pos (show nI (100 + 60) = 160 from rfl)]; exact ej 27 (by decide)
        · rw [if_neg (by decide), if_pos (show nI (100 + 61) = 161 from rfl)]; exact ej 28 (by decide)
        · rw [if_neg (by decide), if_neg (by decide), if_pos (show nI (100 + 62) = 162 from rfl)]; exact ej 29 (by decide)
      rw [eC, cal_some, s1, cal_some, eM]
      rcases sum_sim hF E s2 p2 (by omega) with ⟨τ5, τ6, i2, n2, v1, v2, v3, v4, v5, v6, v7⟩ | ⟨r, τ5, τ6, k, p, v1, v2, v3, v4⟩
      · have hi2 := v3.1.2.2.2.1
        have en2 : (encs (ops ++ n1 ++ n2)).length = (encs ops).length + (encs n1).length + (encs n2).length := by rw [encs_app, List.length_append, en1]
        have lo2 := encs_ge (ops ++ n1 ++ n2)
        obtain ⟨τ7, w1, w2⟩ := xl_emit (F := F) (v := z - 13) v3 (by omega)
        obtain ⟨τ8, q1, q2⟩ := ml_lay (F := F) (z, 0) 0 v4 (by omega) (fun e => by
          have : z = 0 ∨ z = 26 := e
          omega)
        have ez : encs (ops ++ n1 ++ n2) ++ [z - 13] = encs (ops ++ n1 ++ n2 ++ [(z, 0)]) := by
          rw [encs_app (ops ++ n1 ++ n2), encs_one]
          rcases hbz with ⟨-, rfl⟩ | ⟨-, rfl⟩ | ⟨-, rfl⟩ <;> rfl
        rw [ez] at w2
        have en3 : (encs (ops ++ n1 ++ n2 ++ [(z, 0)])).length = (encs ops).length + (encs n1).length + (encs n2).length + 1 := by rw [← ez, List.length_append, en2]; rfl
        obtain ⟨τ9, x1, x2⟩ := xl_nots (F := F) (rc := rc) (m := a2) (by omega) a2 0 F _ _ (by omega) (by omega) (by omega) w2
        have as : ops ++ (n1 ++ n2 ++ [(z, 0)]) = ops ++ n1 ++ n2 ++ [(z, 0)] := by simp only [List.append_assoc]
        left
        refine ⟨τ9, τ8, i2, n1 ++ n2 ++ [(z, 0)], ?_, ?_, by rw [as]; exact x2, by rw [as]; exact q2, ?_, ?_, fun s hs => ?_⟩
        · rw [v1, cal_some, w1, cal_some]
          exact x1
        · rw [v2, cal_some, if_neg n10, q1, cal_some]
        · have ez1 : (enc (z, 0)).length = 1 := by rcases hbz with ⟨-, rfl⟩ | ⟨-, rfl⟩ | ⟨-, rfl⟩ <;> rfl
          rw [encs_app, encs_app, List.length_append, List.length_append, encs_one, ez1]
          omega
        · intro o ho
          rcases List.mem_append.mp ho with ho | ho
          · rcases List.mem_append.mp ho with ho | ho
            · exact u6 o ho
            · exact v6 o ho
          · rw [List.mem_singleton.mp ho]
            exact ⟨.inr (by show 23 ≤ z ∧ z ≤ 32; omega), fun e => by
              have : z = 0 := e
              omega, fun e => by
              have : z = 26 := e
              omega⟩
        · rw [tyc_append, tyc_append, u7 s (by omega), Option.bind_some, v7 (false :: s) (by rw [List.length_cons]; omega), Option.bind_some]
          rcases hbz with ⟨-, rfl⟩ | ⟨-, rfl⟩ | ⟨-, rfl⟩ <;> rfl
      · right
        obtain ⟨τ7, w1, w2⟩ := dl_r3 (r := nI (z - 13)) (rc := rc) (m := a2) hF (by omega) v3
        exact ⟨0, τ7, τ6, k, p, by rw [v1, cal_some, w1], by rw [v2, cal_some, if_pos rfl], w2, v4⟩
    · right
      have nb : ∀ b, b = 60 ∨ b = 61 ∨ b = 62 → tk 0 y l i1 ≠ .sgn b := by
        intro b hb z
        rcases hb with rfl | rfl | rfl
        · exact cb ⟨60, 27, .inl ⟨rfl, rfl⟩, z⟩
        · exact cb ⟨61, 28, .inr (.inl ⟨rfl, rfl⟩), z⟩
        · exact cb ⟨62, 29, .inr (.inr ⟨rfl, rfl⟩), z⟩
      obtain ⟨τ3, t1, t2⟩ := xl_ref (F := F) (k := 1) u3 (by omega) (by decide)
      obtain ⟨τ4, b1, b2⟩ := ms_bad (F := F) (k := 1) u4.1
      obtain ⟨τ5, w1, w2⟩ := dl_r2 (r := 15) (rc := rc) (m := a2) hF (by omega) t2
      refine ⟨0, τ5, τ4, 1, _, ?_, ?_, w2, b2⟩
      · unfold X3_comparisonHere
        rw [xs_sign u3.1, cal_some, if_neg (show ¬ sgv (tk 0 y l i1) = 60 from fun z => nb 60 (by decide) ((sgv_eq (c := 60) tko (by decide) (by decide)).mp z)), if_neg (show ¬ sgv (tk 0 y l i1) = 62 from fun z => nb 62 (by decide) ((sgv_eq (c := 62) tko (by decide) (by decide)).mp z)), if_neg (show ¬ sgv (tk 0 y l i1) = 61 from fun z => nb 61 (by decide) ((sgv_eq (c := 61) tko (by decide) (by decide)).mp z)), show X6_refuse F 1 τ1 = _ from t1, cal_some, cal_some]
        exact w1
      · unfold X11_oneTest_j147
        rw [hcM, if_neg (show ¬ cM 0 (tk 0 y l i1) = 160 from fun z => nb 60 (by decide) ((cM_sg (c := 60) (by decide) tko (by decide) (by decide)).mp z)), if_neg (show ¬ cM 0 (tk 0 y l i1) = 161 from fun z => nb 61 (by decide) ((cM_sg (c := 61) (by decide) tko (by decide) (by decide)).mp z)), if_neg (show ¬ cM 0 (tk 0 y l i1) = 162 from fun z => nb 62 (by decide) ((cM_sg (c := 62) (by decide) tko (by decide) (by decide)).mp z)), if_pos rfl, show X11_bad F 1 τ2 = _ from b1, cal_some, nar0]
  · right
    obtain ⟨τ5, w1, w2⟩ := dl_r1 (rc := rc) (m := a2) hF (by omega) u3
    exact ⟨0, τ5, τ2, k, p, by rw [u1, cal_some, w1], by rw [u2, cal_some, if_pos rfl], w2, u4⟩
theorem opens_M {F l N i d : Nat} {y : Nat → Nat} {Bx Bm τ : Tau} {ops : List (Nat × Nat)} (hF : 5000 ≤ F) (E : EnvT 0 y l N Bx Bm) (hd : d ≤ 8) (h : ML y l Bm i d ops τ) : (d < 8 → ∃ τ', X11_opens F τ = some (1, τ') ∧ ML y l Bm (i + 1) (d + 1) ops τ') ∧ (d = 8 → ∃ τ', X11_opens F τ = some (0, τ') ∧ MD Bm 3 (stt y l i) τ') := by
  unfold X11_opens
  rw [h.2.1]
  refine ⟨fun h8 => ?_, fun h8 => ?_⟩
  · obtain ⟨τ', n1, n2⟩ := ml_next hF E (ml_depth (d + 1) h)
    have kk : nI d + 1 = nI (d + 1) := litA'
    exact ⟨τ', by rw [if_neg (show ¬ nI d = 8 by rw [lit_eq (by decide) (by omega)]; omega), pst_eq, kk, n1, cal_some], n2⟩
  · obtain ⟨τ', b1, b2⟩ := ms_bad (F := F) (k := 3) h.1
    exact ⟨τ', by rw [if_pos (by rw [h8]; rfl), show X11_bad F 3 τ = _ from b1, cal_some, nar0], b2⟩
theorem test_step {F l N d : Nat} {y : Nat → Nat} {Bx Bm : Tau} (hF : 5000 ≤ F) (E : EnvT 0 y l N Bx Bm) (hd : d ≤ 8) (ih : d < 8 → TestG F y l N Bx Bm (d + 1)) : TestG F y l N Bx Bm d := by
  have e5 := E.2.2.2.2.1
  have hN := E.2.2.1.2.1
  intro n m g d0 a2 i ops τx τm hda hn hm hg h h' hc
  obtain ⟨g, rfl, -⟩ := fuel (show 0 < g by omega)
  obtain ⟨m, rfl, -⟩ := fuel (show 0 < m by omega)
  have hiN := h.1.2.2.2.1
  have tko := tk_ok (a := 0) (y := y) (l := l) (i := i)
  have hcM := ms_code h'.1
  have kd1 : nI d + 1 = nI (d + 1) := litA'
  have ka1 : nI a2 + 1 = nI (a2 + 1) := litA'
  have km1 : nI (d + 1) - 1 = nI d := nI_pred d
  have kda : nI d0 + nI a2 = nI d := by rw [nI_add, hda]
  have hge := encs_ge ops
  have eM0 : X11_oneTest F (m + 1) τm = X11_oneTest_B F (X11_oneTest F m) τm := rfl
  rw [eM0]
  unfold X11_oneTest_B
  by_cases c6 : tk 0 y l i = .wrd 6
  · have w6 : X6_isWord F 6 τx = some (1, τx) := (xs_isW (F := F) (u := 6) h.1 (by decide) (by decide)).1 c6
    rw [if_pos (show τm 0 18 = 6 by rw [hcM, c6]; rfl)]
    by_cases d8 : d = 8
    · right
      obtain ⟨τ2, b1, b2⟩ := (opens_M hF E hd h').2 d8
      obtain ⟨τ3, t1, t2⟩ := xl_ref (F := F) (k := 3) h (by omega) (by decide)
      obtain ⟨τ4, w1, w2⟩ := dl_j153 (rc := X3_readAny F n) (m := a2) hF (by omega) t2
      refine ⟨0, τ4, τ2, 3, _, ?_, by rw [b1, cal_some, if_pos rfl], w2, b2⟩
      unfold X3_readCondition_L4 X3_readCondition_j38 X3_readCondition_j55 X3_readCondition_j80
      rw [if_pos (by rw [d8]; decide), xs_sign h.1, c6, cal_some, if_neg (show ¬ sgv (Tok.wrd 6) = 40 by decide), w6, cal_some, if_neg n10, show X6_refuse F 3 τx = _ from t1, cal_some]
      exact w1
    · have hlt := tk_N e5 hiN (by rw [c6]; exact (nofun))
      obtain ⟨τ2, b1, b2⟩ := (opens_M hF E hd h').1 (by omega)
      obtain ⟨τ1, s1, s2⟩ := xl_skip (F := F) E h hlt
      have eX : X3_readCondition_L4 F (X3_readAny F n) (g + 1) (nI d0) (nI a2) (nI d) τx = X3_readCondition_L4 F (X3_readAny F n) g (nI d0) (nI (a2 + 1)) (nI (d + 1)) τ1 := by
        conv => lhs; unfold X3_readCondition_L4
        rw [if_neg (show ¬ (8 : Int32) ≤ nI d from nI_ge (b := 8) (by omega) (by decide)), w6, cal_some, if_neg n10, s1, cal_some, ka1, kd1]
      rw [eX, b1, cal_some, if_neg n10]
      rcases ih (by omega) n m g d0 (a2 + 1) (i + 1) ops τ1 τ2 (by omega) (by omega) (by omega) (by omega) s2 b2 (by omega) with ⟨τ3, τ4, i', new, u1, u2, u3, u4, u5, u6, u7⟩ | ⟨r, τ3, τ4, k, p, u1, u2, u3, u4⟩
      · left
        have hi' := u3.1.2.2.2.1
        have en1 : (encs (ops ++ new)).length = (encs ops).length + (encs new).length := by rw [encs_app, List.length_append]
        have lo1 := encs_ge (ops ++ new)
        have u4' := ml_depth d u4
        obtain ⟨τ5, v1, v2⟩ := ml_lay (F := F) (30, 0) 0 u4' (by omega) (fun z => absurd z (by decide))
        have as : ops ++ (new ++ [(30, 0)]) = ops ++ new ++ [(30, 0)] := by simp only [List.append_assoc]
        refine ⟨τ3, τ5, i', new ++ [(30, 0)], u1, ?_, ?_, by rw [as]; exact v2, ?_, ?_, fun s hs => ?_⟩
        · rw [u2, cal_some, if_neg n10, u4.2.1, km1, pst_eq, show X11_lay F 30 0 (up τ4 0 24 (nI d)) = _ from v1, cal_some]
        · rw [List.replicate_succ, List.append_cons] at u3
          rw [as]
          exact u3
        · rw [encs_app, List.length_append, encs_one]
          show i + ((encs new).length + 1) ≤ i'
          omega
        · intro o ho
          rcases List.mem_append.mp ho with ho | ho
          · exact u6 o ho
          · rw [List.mem_singleton.mp ho]
            exact ⟨.inr (by decide), fun z => absurd z (by decide), fun z => absurd z (by decide)⟩
        · rw [tyc_append, u7 s (by omega), Option.bind_some]
          rfl
      · right
        exact ⟨r, τ3, τ4, k, p, u1, by rw [u2, cal_some, if_pos rfl], u3, u4⟩
  · have w6 : X6_isWord F 6 τx = some (0, τx) := (xs_isW (F := F) (u := 6) h.1 (by decide) (by decide)).2 c6
    have eX : X3_readCondition_L4 F (X3_readAny F n) (g + 1) (nI d0) (nI a2) (nI d) τx = X3_readCondition_j38 F (X3_readAny F n) (nI d0) (nI a2) τx := by
      unfold X3_readCondition_L4
      by_cases c8 : (8 : Int32) ≤ nI d
      · rw [if_pos c8]
      · rw [if_neg c8, w6, cal_some, if_pos rfl]
    rw [eX, if_neg (show ¬ τm 0 18 = 6 by rw [hcM]; exact fun z => c6 ((cM_wd (v := 6) (by decide) tko (by decide)).mp z))]
    unfold X3_readCondition_j38 X3_readCondition_j55
    rw [xs_sign h.1, cal_some]
    by_cases c40 : tk 0 y l i = .sgn 40
    · rw [if_pos (show sgv (tk 0 y l i) = 40 by rw [c40]; rfl), w6, cal_some, if_pos rfl, if_neg n10, if_pos (show τm 0 18 = 140 by rw [hcM, c40]; rfl), kda]
      by_cases d8 : d = 8
      · right
        obtain ⟨τ2, b1, b2⟩ := (opens_M hF E hd h').2 d8
        obtain ⟨τ3, t1, t2⟩ := xl_ref (F := F) (k := 3) h (by omega) (by decide)
        obtain ⟨τ4, w1, w2⟩ := dl_j153 (rc := X3_readAny F n) (m := a2) hF (by omega) t2
        refine ⟨0, τ4, τ2, 3, _, ?_, by rw [b1, cal_some, if_pos rfl], w2, b2⟩
        unfold X3_readCondition_j80
        rw [if_neg (by rw [d8]; decide), show X6_refuse F 3 τx = _ from t1, cal_some]
        exact w1
      · have hlt := tk_N e5 hiN (by rw [c40]; exact (nofun))
        obtain ⟨τ2, b1, b2⟩ := (opens_M hF E hd h').1 (by omega)
        obtain ⟨τ1, s1, s2⟩ := xl_skip (F := F) E h hlt
        obtain ⟨n, rfl, -⟩ := fuel (show 0 < n by omega)
        have eR : X3_readAny F (n + 1) (nI (d + 1)) τ1 = X3_readAny_B F (X3_readAny F n) (nI (d + 1)) τ1 := rfl
        unfold X3_readCondition_j91
        rw [if_pos (show nI d < 8 from nI_lt (b := 8) (by omega) (by decide)), if_neg n10, s1, cal_some, kda, kd1, eR, b1, cal_some, if_neg n10]
        rcases any_sim hF E ((ih (by omega)).toH (n := n) (m := m) hF (by omega) (by omega)) s2 b2 (by omega) with ⟨τ3, τ4, i', new, u1, u2, u3, u4, u5, u6, u7⟩ | ⟨r, τ3, τ4, k, p, u1, u2, u3, u4⟩
        · have hi' := u3.1.2.2.2.1
          have en1 : (encs (ops ++ new)).length = (encs ops).length + (encs new).length := by rw [encs_app, List.length_append]
          have tko' := tk_ok (a := 0) (y := y) (l := l) (i := i')
          rw [u1, cal_some, u2, cal_some, if_neg n10]
          unfold X6_takeSign X11_need
          rw [xs_sign u3.1, cal_some]
          by_cases c41 : tk 0 y l i' = .sgn 41
          · left
            have hlt' := tk_N e5 hi' (by rw [c41]; exact (nofun))
            obtain ⟨τ5, p1, p2⟩ := xl_skip (F := F) E u3 hlt'
            obtain ⟨τ6, q1, q2⟩ := ml_next hF E u4
            obtain ⟨τ7, x1, x2⟩ := xl_nots (F := F) (rc := X3_readAny F (n + 1)) (m := a2) (by omega) a2 0 F _ _ (by omega) (by omega) (by omega) p2
            refine ⟨τ7, up τ6 0 24 (nI d), i' + 1, new, ?_, ?_, x2, ml_depth d q2, by omega, u6, fun s hs => u7 s (by omega)⟩
            · rw [if_pos (show sgv (tk 0 y l i') = 41 by rw [c41]; rfl), p1, cal_some, cal_some]
              exact x1
            · rw [if_pos (show τ4 0 18 = 141 by rw [ms_code u4.1, c41]; rfl), q1, cal_some, cal_some, if_neg n10, q2.2.1, km1, pst_eq]
          · right
            obtain ⟨τ5, t1, t2⟩ := xl_ref (F := F) (k := 1) u3 (by omega) (by decide)
            obtain ⟨τ6, q1, q2⟩ := ms_bad (F := F) (k := 1) u4.1
            obtain ⟨τ7, w1, w2⟩ := dl_j153 (rc := X3_readAny F (n + 1)) (m := a2) hF (by omega) t2
            refine ⟨0, τ7, τ6, 1, _, ?_, ?_, w2, q2⟩
            · rw [if_neg (show ¬ sgv (tk 0 y l i') = 41 from fun z => c41 ((sgv_eq (c := 41) tko' (by decide) (by decide)).mp z)), show X6_refuse F 1 τ3 = _ from t1, cal_some, cal_some]
              exact w1
            · rw [if_neg (show ¬ τ4 0 18 = 141 by rw [ms_code u4.1]; exact fun z => c41 ((cM_sg (c := 41) (by decide) tko' (by decide) (by decide)).mp z)), show X11_bad F 1 τ4 = _ from q1, cal_some, nar0, cal_some, if_pos rfl]
        · right
          obtain ⟨τ7, w1, w2⟩ := dl_j153 (rc := X3_readAny F (n + 1)) (m := a2) hF (by omega) u3
          exact ⟨0, τ7, τ4, k, p, by rw [u1, cal_some, xd_takeS u3.1 (by decide), cal_some]; exact w1, by rw [u2, cal_some, if_pos rfl], w2, u4⟩
    · rw [if_neg (show ¬ sgv (tk 0 y l i) = 40 from fun z => c40 ((sgv_eq (c := 40) tko (by decide) (by decide)).mp z)), w6, cal_some, if_pos rfl, if_pos rfl, if_neg (show ¬ τm 0 18 = 140 by rw [hcM]; exact fun z => c40 ((cM_sg (c := 40) (by decide) tko (by decide) (by decide)).mp z))]
      unfold X3_readCondition_j91
      rw [if_pos rfl]
      exact cmp_sim hF E hd (by omega) h h' hc
theorem test_all {F l N : Nat} {y : Nat → Nat} {Bx Bm : Tau} (hF : 5000 ≤ F) (E : EnvT 0 y l N Bx Bm) : ∀ k d, d + k = 8 → TestG F y l N Bx Bm d := by
  intro k
  induction k with
  | zero => exact fun d h => test_step hF E (by omega) (fun z => absurd z (by omega))
  | succ k ih => exact fun d h => test_step hF E (by omega) (fun _ => ih (d + 1) (by omega))
