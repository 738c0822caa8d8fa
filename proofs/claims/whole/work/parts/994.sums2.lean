/-! PURE PART. Texts: products and sums -/
theorem ops_tab : ∀ b, b < 256 → ((∃ k, k < sL 2 ∧ (sB 2).getD k 0 = b) ↔ b = 42 ∨ b = 43 ∨ b = 45 ∨ b = 47) := by decide +kernel
theorem ops_b {F b : Nat} {τ : Tau} (hF : 5000 ≤ F) (hb : b < 256) : (b = 42 ∨ b = 43 ∨ b = 45 ∨ b = 47 → ∃ k, k < 100 ∧ X_String_indexOf__I_I F 2 (nI b) τ = some (nI k, τ)) ∧ (¬ (b = 42 ∨ b = 43 ∨ b = 45 ∨ b = 47) → X_String_indexOf__I_I F 2 (nI b) τ = some (-1, τ)) := by
  have h2 := sL_fin 2 (by decide)
  rcases idx_X (τ := τ) hF (s := 2) (by decide) (by decide) hb with ⟨k, a, c, d⟩ | ⟨a, d⟩
  · exact ⟨fun _ => ⟨k, by omega, d⟩, fun z => absurd ((ops_tab b hb).mp ⟨k, a, c⟩) z⟩
  · exact ⟨fun z => by
      obtain ⟨k, e1, e2⟩ := (ops_tab b hb).mpr z
      exact absurd e2 (a k e1), fun _ => d⟩
theorem ops_t {F : Nat} {t : Tok} {τ : Tau} (hF : 5000 ≤ F) (ht : tokOK 0 t) (h : ¬ (t = .sgn 42 ∨ t = .sgn 43 ∨ t = .sgn 45 ∨ t = .sgn 47)) : X_String_indexOf__I_I F 2 (sgv t) τ = some (-1, τ) := by
  have h32 : X_String_indexOf__I_I F 2 (nI 32) τ = some (-1, τ) := (ops_b hF (by decide)).2 (by decide)
  cases t using Tok.cs with
  | fin => exact h32
  | unk => exact h32
  | num n => exact h32
  | sgn b =>
    have hb := sgn_rng ht
    refine (ops_b hF (by omega)).2 fun z => h ?_
    rcases z with rfl | rfl | rfl | rfl
    · exact .inl rfl
    · exact .inr (.inl rfl)
    · exact .inr (.inr (.inl rfl))
    · exact .inr (.inr (.inr rfl))
  | wrd n => exact h32
/-! a dead reader's sums -/
theorem dl_unit {F k p : Nat} {B τ : Tau} (h : DL B k p τ) : X3_readUnit F τ = some (0, τ) := by
  unfold X3_readUnit
  rw [xd_word h.1, cal_some, xd_num h.1, cal_some, if_pos rfl, X10_within_eq, bI_f (by decide), cal_some, if_pos rfl, xd_ref h.1, cal_some]
theorem dl_L8 {F k p g : Nat} {B τ : Tau} {a1 a2 : Int32} (hF : 5000 ≤ F) (h : DL B k p τ) (hg : 0 < g) : ∃ τ', X3_readSum_L8 F g a1 a2 τ = some (0, τ') ∧ DL B k p τ' := by
  obtain ⟨g, rfl, -⟩ := fuel hg
  have j143 : ∃ τ', X3_readSum_j143 F a1 τ = some (0, τ') ∧ DL B k p τ' := by
    unfold X3_readSum_j143
    by_cases c : a1 = -1
    · exact ⟨τ, if_pos c, h⟩
    · obtain ⟨τ', t1, t2⟩ := dl_emit (F := F) a1 h
      exact ⟨τ', by rw [if_neg c, t1, cal_some], t2⟩
  unfold X3_readSum_L8
  by_cases c : (400 : Int32) ≤ a2
  · rw [if_pos c]; exact j143
  · rw [if_neg c, xd_sign h.1, cal_some, show X_String_indexOf__I_I F 2 32 τ = some (-1, τ) from (ops_b (b := 32) hF (by decide)).2 (by decide), cal_some, if_pos (by decide)]
    exact j143
theorem dl_sum {F k p : Nat} {B τ : Tau} (hF : 5000 ≤ F) (h : DL B k p τ) : ∃ τ', X3_readSum F τ = some (0, τ') ∧ DL B k p τ' := by
  unfold X3_readSum
  rw [dl_unit h, cal_some]
  exact dl_L8 hF h (by omega)
theorem L8_out {F g l N i a2 : Nat} {y : Nat → Nat} {Bx τ : Tau} {a1 : Int32} {cs : List Nat} (hF : 5000 ≤ F) (h : XL y l N Bx i cs τ) (ht : ¬ (tk 0 y l i = .sgn 42 ∨ tk 0 y l i = .sgn 43 ∨ tk 0 y l i = .sgn 45 ∨ tk 0 y l i = .sgn 47)) : X3_readSum_L8 F (g + 1) a1 (nI a2) τ = X3_readSum_j143 F a1 τ := by
  unfold X3_readSum_L8
  by_cases c : (400 : Int32) ≤ nI a2
  · rw [if_pos c]
  · rw [if_neg c, xs_sign h.1, cal_some, ops_t hF tk_ok ht, cal_some, if_pos (by decide)]
theorem L8_in {F g l N i a2 b : Nat} {y : Nat → Nat} {Bx τ : Tau} {a1 : Int32} {cs : List Nat} (hF : 5000 ≤ F) (h : XL y l N Bx i cs τ) (ha2 : a2 < 400) (hb : b = 42 ∨ b = 43 ∨ b = 45 ∨ b = 47) (ht : tk 0 y l i = .sgn b) : X3_readSum_L8 F (g + 1) a1 (nI a2) τ = cal (X6_skip F τ) fun r11 τ12 => if nI b = 42 then (cal (X3_readUnit F τ12) fun r13 τ14 => cal (X2_emit F 203 12 τ14) fun r15 τ16 => X3_readSum_j137 F (X3_readSum_L8 F g) a1 (nI a2) τ16) else (if nI b = 47 then (cal (X6_takeNumber F 1 9999 τ12) fun r17 τ18 => cal (X2_emit F 203 (32 + r17) τ18) fun r19 τ20 => cal (X2_emit F 203 13 τ20) fun r21 τ22 => X3_readSum_j137 F (X3_readSum_L8 F g) a1 (nI a2) τ22) else (if a1 = (-1) then (X3_readSum_j119 F (X3_readSum_L8 F g) (nI a2) (nI b) τ12) else (cal (X2_emit F 203 a1 τ12) fun r25 τ26 => X3_readSum_j119 F (X3_readSum_L8 F g) (nI a2) (nI b) τ26))) := by
  obtain ⟨k, k1, k2⟩ := (ops_b (F := F) (b := b) (τ := τ) hF (by omega)).1 hb
  conv => lhs; unfold X3_readSum_L8
  rw [if_neg (show ¬ (400 : Int32) ≤ nI a2 from nI_ge (b := 400) (by omega) (by decide)), xs_sign h.1, cal_some, ht, show sgv (Tok.sgn b) = nI b from rfl, k2, cal_some, if_neg (nI_pos (by omega)), xs_sign h.1, cal_some, ht, show sgv (Tok.sgn b) = nI b from rfl]
theorem takeN_ok {F a l N i n lo hi : Nat} {y : Nat → Nat} {Bx Bm τ : Tau} (E : EnvT a y l N Bx Bm) (h : XS a y l N Bx i τ) (ht : tk a y l i = .num n) (h1 : lo ≤ n ∧ n ≤ hi) (h2 : hi < 2 ^ 31) : ∃ τ', X6_takeNumber F (nI lo) (nI hi) τ = some (nI n, τ') ∧ XS a y l N Bx (i + 1) τ' ∧ i < N ∧ ∀ c j, ¬ (c = 197 ∧ 4 ≤ j ∧ j ≤ 7) → τ' c j = τ c j := by
  have hlt := tk_N E.2.2.2.2.1 h.2.2.2.1 (by rw [ht]; exact (nofun))
  obtain ⟨τ', t1, t2, t3⟩ := xs_skip (F := F) E h hlt
  rcases xs_num (F := F) h with ⟨m, hm, q1, q2⟩ | ⟨hm, -⟩
  · have hmn := Tok.num_inj (ht.symm.trans hm)
    rw [← hmn] at q2
    refine ⟨τ', ?_, t2, hlt, t3⟩
    unfold X6_takeNumber
    rw [q1, cal_some, if_neg n10, q2, cal_some, X10_within_eq, bI_t ((in_iff (by omega) (by omega) h2).mpr h1), cal_some, if_neg n10, t1, cal_some]
  · exact absurd ht (hm n)
theorem takeN_no {F a l N i : Nat} {y : Nat → Nat} {Bx τ : Tau} {lo hi : Int32} (h : XS a y l N Bx i τ) : ((∀ n, tk a y l i ≠ .num n) → ∃ τ', X6_takeNumber F lo hi τ = some (0, τ') ∧ XD Bx 1 (stt y l i) τ' ∧ ∀ c j, c ≠ 197 → τ' c j = τ c j) ∧ (∀ n, tk a y l i = .num n → ¬ (lo ≤ nI n ∧ nI n ≤ hi) → ∃ τ', X6_takeNumber F lo hi τ = some (nI n, τ') ∧ XD Bx 2 (stt y l i) τ' ∧ ∀ c j, c ≠ 197 → τ' c j = τ c j) := by
  unfold X6_takeNumber
  rcases xs_num (F := F) h with ⟨m, hm, q1, q2⟩ | ⟨hm, q1⟩
  · refine ⟨fun z => absurd hm (z m), fun n hn hr => ?_⟩
    have hmn := Tok.num_inj (hn.symm.trans hm)
    obtain ⟨τ', t1, t2⟩ := xs_ref (F := F) (k := 2) h (by decide)
    refine ⟨τ', ?_, t2⟩
    rw [q1, cal_some, if_neg n10, q2, cal_some, X10_within_eq, ← hmn, bI_f hr, cal_some, if_pos rfl, show X6_refuse F 2 τ = _ from t1, cal_some]
  · refine ⟨fun _ => ?_, fun n hn => absurd hn (hm n)⟩
    obtain ⟨τ', t1, t2⟩ := xs_ref (F := F) (k := 1) h (by decide)
    refine ⟨τ', ?_, t2⟩
    rw [q1, cal_some, if_pos rfl, show X6_refuse F 1 τ = _ from t1, cal_some]
theorem prod_sim {F l N d : Nat} {y : Nat → Nat} {Bx Bm : Tau} {a1 : Int32} (hF : 5000 ≤ F) (E : EnvT 0 y l N Bx Bm) : ∀ (m i g f a2 : Nat) (ops : List (Nat × Nat)) (τx τm : Tau), N - i ≤ m → N - i < g → N - i < f → a2 ≤ i → XL y l N Bx i (encs ops) τx → ML y l Bm i d ops τm → (encs ops).length ≤ i →
    (∃ τx' τm' i' new g' a2', X3_readSum_L8 F g a1 (nI a2) τx = X3_readSum_L8 F g' a1 (nI a2') τx' ∧ X11_product_L9 F f τm = some (1, τm') ∧ XL y l N Bx i' (encs (ops ++ new)) τx' ∧ ML y l Bm i' d (ops ++ new) τm' ∧ i + (encs new).length ≤ i' ∧ (∀ o ∈ new, okOp o) ∧ (∀ s : List Bool, s.length ≤ 29 → tyc new (false :: s) = some (false :: s)) ∧ a2' ≤ i' ∧ N - i' < g' ∧ tk 0 y l i' ≠ .sgn 42 ∧ tk 0 y l i' ≠ .sgn 47) ∨ Fl Bx Bm (X3_readSum_L8 F g a1 (nI a2) τx) (X11_product_L9 F f τm) := by
  have e5 := E.2.2.2.2.1
  have hN := E.2.2.1.2.1
  intro m
  induction m with
  | zero =>
    intro i g f a2 ops τx τm hm hg hf ha2 h h' hc
    obtain ⟨f, rfl, -⟩ := fuel (show 0 < f by omega)
    have hiN := h.1.2.2.2.1
    have ht : tk 0 y l i = .fin := by rw [show i = N from by omega]; exact tok_fin e5
    left
    refine ⟨τx, τm, i, [], g, a2, rfl, ?_, by rw [List.append_nil]; exact h, by rw [List.append_nil]; exact h', Nat.le_refl _, fun o ho => absurd ho List.not_mem_nil, fun s _ => rfl, ha2, hg, by rw [ht]; exact (nofun), by rw [ht]; exact (nofun)⟩
    unfold X11_product_L9
    rw [ms_code h'.1, ht, show cM 0 Tok.fin = 0 from rfl, if_neg (by decide), if_neg (by decide)]
  | succ m ih =>
    intro i g f a2 ops τx τm hm hg hf ha2 h h' hc
    obtain ⟨f, rfl, -⟩ := fuel (show 0 < f by omega)
    obtain ⟨g, rfl, -⟩ := fuel (show 0 < g by omega)
    have hiN := h.1.2.2.2.1
    have hge := encs_ge ops
    have tko := tk_ok (a := 0) (y := y) (l := l) (i := i)
    have tko1 := tk_ok (a := 0) (y := y) (l := l) (i := i + 1)
    have hcM := ms_code h'.1
    by_cases c1 : tk 0 y l i = .sgn 42
    · have hlt := tk_N e5 hiN (by rw [c1]; exact (nofun))
      have hcd : τm 0 18 = nI 142 := by rw [hcM, c1]; rfl
      obtain ⟨τ1, s1, s2⟩ := xl_skip (F := F) E h hlt
      obtain ⟨τ2, n1, n2⟩ := ml_next hF E h'
      have kk : nI a2 + 1 = nI (a2 + 1) := litA'
      have eX : X3_readSum_L8 F (g + 1) a1 (nI a2) τx = cal (X3_readUnit F τ1) fun r13 τ14 => cal (X2_emit F 203 12 τ14) fun r15 τ16 => X3_readSum_L8 F g a1 (nI (a2 + 1)) τ16 := by
        rw [L8_in hF h (by omega) (.inl rfl) c1, s1, cal_some, if_pos (show nI 42 = 42 from rfl), ← kk]
        rfl
      have eM : X11_product_L9 F (f + 1) τm = cal (X11_unit F τ2) fun r5 τ6 => if r5 = 0 then (some (0, τ6)) else (cal (X11_lay F 25 0 τ6) fun r7 τ8 => X11_product_L9 F f τ8) := by
        conv => lhs; unfold X11_product_L9
        unfold X11_product_j29 X11_product_j44 X11_product_j112
        rw [hcd, if_pos (show nI 142 = 142 from rfl), if_neg (by decide), n1, cal_some, if_pos rfl]
      rw [eX, eM]
      rcases unit_sim hF E s2 n2 (by omega) with ⟨τ3, τ4, o, u1, u2, u3, u4, u5, u6, u7⟩ | ⟨r, τ3, τ4, k, p, u1, u2, u3, u4⟩
      · have he1 : (enc o).length = 1 := by
          unfold enc
          by_cases z : o.1 = 0
          · rw [if_pos z]; rfl
          · rw [if_neg z, if_pos (by omega)]; rfl
        have en1 : (encs (ops ++ [o])).length = (encs ops).length + 1 := by rw [encs_app, encs_one, List.length_append, he1]
        obtain ⟨τ5, v1, v2⟩ := xl_emit (F := F) (v := 12) u3 (by omega)
        have lo1 := encs_ge (ops ++ [o])
        obtain ⟨τ6, w1, w2⟩ := ml_lay (F := F) (25, 0) 0 u4 (by omega) (fun z => absurd z (by decide))
        have e25 : encs (ops ++ [o]) ++ [12] = encs (ops ++ [o] ++ [(25, 0)]) := by rw [encs_app (ops ++ [o]), encs_one]; rfl
        rw [e25] at v2
        have en2 : (encs (ops ++ [o] ++ [(25, 0)])).length = (encs ops).length + 2 := by rw [← e25, List.length_append, en1]; rfl
        rw [u1, cal_some, show X2_emit F 203 12 τ3 = _ from v1, cal_some, u2, cal_some, if_neg n10, show X11_lay F 25 0 τ4 = _ from w1, cal_some]
        rcases ih (i + 1 + 1) g f (a2 + 1) (ops ++ [o] ++ [(25, 0)]) τ5 τ6 (by omega) (by omega) (by omega) (by omega) v2 w2 (by omega) with ⟨τx', τm', i', new, g', a2', x1, x2, x3, x4, x5, x6, x7, x8⟩ | x
        · left
          have as : ops ++ ([o, (25, 0)] ++ new) = ops ++ [o] ++ [(25, 0)] ++ new := by simp only [List.append_assoc, List.cons_append, List.nil_append]
          refine ⟨τx', τm', i', [o, (25, 0)] ++ new, g', a2', x1, x2, by rw [as]; exact x3, by rw [as]; exact x4, ?_, ?_, fun s hs => ?_, x8⟩
          · rw [encs_app, List.length_append, show encs [o, (25, 0)] = enc o ++ enc (25, 0) from by rw [← encs_one (25, 0), ← encs_one o, ← encs_app]; rfl, List.length_append, he1]
            show i + (1 + 1 + (encs new).length) ≤ i'
            omega
          · intro q hq
            rcases List.mem_append.mp hq with hq | hq
            · rcases List.mem_cons.mp hq with rfl | hq
              · exact u5
              · rw [List.mem_singleton.mp hq]
                exact ⟨.inr (by decide), fun z => absurd z (by decide), fun z => absurd z (by decide)⟩
            · exact x6 q hq
          · rw [tyc_append]
            have t1 : tyc [o, (25, 0)] (false :: s) = some (false :: s) := by
              show (tstep o (false :: s)).bind (tyc [(25, 0)]) = _
              unfold tstep
              rw [if_pos u6, if_pos (show (false :: s).length < 31 by rw [List.length_cons]; omega)]
              rfl
            rw [t1]
            exact x7 s hs
        · exact .inr x
      · right
        obtain ⟨τ5, v1, v2⟩ := dl_emit (F := F) 12 u3
        obtain ⟨τ6, w1, w2⟩ := dl_L8 (g := g) (a1 := a1) (a2 := nI (a2 + 1)) hF v2 (by omega)
        exact ⟨0, τ6, τ4, k, p, by rw [u1, cal_some, v1, cal_some, w1], by rw [u2, cal_some, if_pos rfl], w2, u4⟩
    · by_cases c2 : tk 0 y l i = .sgn 47
      · have hlt := tk_N e5 hiN (by rw [c2]; exact (nofun))
        have hcd : τm 0 18 = nI 147 := by rw [hcM, c2]; rfl
        obtain ⟨τ1, s1, s2⟩ := xl_skip (F := F) E h hlt
        obtain ⟨τ2, n1, n2⟩ := ml_next hF E h'
        have kk : nI a2 + 1 = nI (a2 + 1) := litA'
        have eX : X3_readSum_L8 F (g + 1) a1 (nI a2) τx = cal (X6_takeNumber F 1 9999 τ1) fun r17 τ18 => cal (X2_emit F 203 (32 + r17) τ18) fun r19 τ20 => cal (X2_emit F 203 13 τ20) fun r21 τ22 => X3_readSum_L8 F g a1 (nI (a2 + 1)) τ22 := by
          rw [L8_in hF h (by omega) (.inr (.inr (.inr rfl))) c2, s1, cal_some, if_neg (by decide), if_pos (show nI 47 = 47 from rfl), ← kk]
          rfl
        have eM : X11_product_L9 F (f + 1) τm = (if (τ2 0 18) = 2 then (if (τ2 0 20) = 0 then (cal (X11_bad F 2 τ2) fun r9 τ10 => some (vp_nar .boolean r9, τ10)) else (cal (X11_next0 F τ2) fun r11 τ12 => cal (X11_lay F 26 (τ2 0 20) τ12) fun r13 τ14 => X11_product_L9 F f τ14)) else (cal (X11_bad F 1 τ2) fun r15 τ16 => some (vp_nar .boolean r15, τ16))) := by
          have hz : ∀ τ12, τ12 0 20 = τ2 0 20 → (cal (X11_lay F 26 (τ12 0 20) τ12) fun r13 τ14 => X11_product_L9 F f τ14) = (cal (X11_lay F 26 (τ2 0 20) τ12) fun r13 τ14 => X11_product_L9 F f τ14) := fun τ12 e => by rw [e]
          conv => lhs; unfold X11_product_L9
          unfold X11_product_j29 X11_product_j44 X11_product_j112
          rw [hcd, if_neg (by decide), if_pos (show nI 147 = 147 from rfl), if_pos (show nI 147 = 147 from rfl), n1, cal_some, if_neg n10]
        rw [eX, eM]
        have dead : ∀ (r : Int32) (τ3 : Tau) (k p : Nat), DL Bx k p τ3 → ∃ τ', (cal (X2_emit F 203 (32 + r) τ3) fun r19 τ20 => cal (X2_emit F 203 13 τ20) fun r21 τ22 => X3_readSum_L8 F g a1 (nI (a2 + 1)) τ22) = some (0, τ') ∧ DL Bx k p τ' := by
          intro r τ3 k p hd
          obtain ⟨τ5, v1, v2⟩ := dl_emit (F := F) (32 + r) hd
          obtain ⟨τ6, v3, v4⟩ := dl_emit (F := F) 13 v2
          obtain ⟨τ7, w1, w2⟩ := dl_L8 (g := g) (a1 := a1) (a2 := nI (a2 + 1)) hF v4 (by omega)
          exact ⟨τ7, by rw [v1, cal_some, v3, cal_some, w1], w2⟩
        by_cases hnum : ∃ n, tk 0 y l (i + 1) = .num n
        · obtain ⟨n, hn⟩ := hnum
          have hn9 : n ≤ 9999 := by rw [hn] at tko1; exact tko1
          rw [if_pos (show τ2 0 18 = 2 by rw [ms_code n2.1, hn]; rfl), ms_num n2.1 hn]
          by_cases hn0 : n = 0
          · right
            obtain ⟨τ3, t1, t2, t3⟩ := (takeN_no (F := F) (lo := 1) (hi := 9999) s2.1).2 n hn (by rw [hn0]; decide)
            obtain ⟨τ4, u1, u2⟩ := ms_bad (F := F) (k := 2) n2.1
            obtain ⟨τ5, v1, v2⟩ := dead (nI n) τ3 2 (stt y l (i + 1)) ⟨t2, _, by omega, (t3 _ _ (by decide)).trans s2.2.1⟩
            rw [t1, cal_some, if_pos (by rw [hn0]; rfl), show X11_bad F 2 τ2 = _ from u1, cal_some, nar0]
            exact ⟨0, τ5, τ4, 2, _, v1, rfl, v2, u2⟩
          · obtain ⟨τ3, t1, t2, hlt1, t3⟩ := takeN_ok (F := F) (lo := 1) (hi := 9999) E s2.1 hn (by omega) (by decide)
            have X3 : XL y l N Bx (i + 1 + 1) (encs ops) τ3 := ⟨t2, (t3 _ _ (by omega)).trans s2.2.1, fun j v hj => (t3 _ _ (by omega)).trans (s2.2.2 j v hj)⟩
            obtain ⟨τ4, v1, v2⟩ := xl_emit (F := F) (v := 32 + n) X3 (by omega)
            obtain ⟨τ5, v3, v4⟩ := xl_emit (F := F) (v := 13) v2 (by rw [List.length_append]; show (encs ops).length + 1 < 400; omega)
            obtain ⟨τ6, n3, n4⟩ := ml_next hF E n2
            obtain ⟨τ7, w1, w2⟩ := ml_lay (F := F) (26, n) (nI n) n4 (by omega) (fun _ => rfl)
            have k32 : (32 : Int32) + nI n = nI (32 + n) := litA
            have e26 : encs ops ++ [32 + n] ++ [13] = encs (ops ++ [(26, n)]) := by rw [encs_app, encs_one, List.append_assoc]; rfl
            rw [e26] at v4
            have en2 : (encs (ops ++ [(26, n)])).length = (encs ops).length + 2 := by rw [← e26, List.length_append, List.length_append]; rfl
            rw [show X6_takeNumber F 1 9999 τ1 = _ from t1, cal_some, k32, v1, cal_some, show X2_emit F 203 13 τ4 = _ from v3, cal_some, if_neg (nI_ne0 (by omega) (by omega)), n3, cal_some, show X11_lay F 26 (nI n) τ6 = _ from w1, cal_some]
            rcases ih (i + 1 + 1) g f (a2 + 1) (ops ++ [(26, n)]) τ5 τ7 (by omega) (by omega) (by omega) (by omega) v4 w2 (by omega) with ⟨τx', τm', i', new, g', a2', x1, x2, x3, x4, x5, x6, x7, x8⟩ | x
            · left
              refine ⟨τx', τm', i', [(26, n)] ++ new, g', a2', x1, x2, by rw [← List.append_assoc]; exact x3, by rw [← List.append_assoc]; exact x4, ?_, ?_, fun s hs => ?_, x8⟩
              · rw [encs_app, List.length_append, encs_one]
                show i + (2 + (encs new).length) ≤ i'
                omega
              · intro q hq
                rcases List.mem_append.mp hq with hq | hq
                · rw [List.mem_singleton.mp hq]
                  exact ⟨.inr (by show 23 ≤ 26 ∧ 26 ≤ 32; omega), fun z => absurd z (show ¬ (26 : Nat) = 0 by decide), fun _ => by show 1 ≤ n ∧ n ≤ 9999; omega⟩
                · exact x6 q hq
              · rw [tyc_append]
                have t1 : tyc [(26, n)] (false :: s) = some (false :: s) := by
                  show (tstep (26, n) (false :: s)).bind (tyc []) = _
                  unfold tstep
                  rw [if_neg (show ¬ (26, n).1 ≤ 10 from (by show ¬ 26 ≤ 10; omega))]
                  show (if (26 : Nat) = 26 then (if false = false ∧ s.length < 30 then some (false :: s) else none) else _ : Option (List Bool)).bind (tyc []) = _
                  rw [if_pos rfl, if_pos ⟨rfl, by omega⟩]
                  rfl
                rw [t1]
                exact x7 s hs
            · exact .inr x
        · right
          obtain ⟨τ3, t1, t2, t3⟩ := (takeN_no (F := F) (lo := 1) (hi := 9999) s2.1).1 (fun n hn => hnum ⟨n, hn⟩)
          obtain ⟨τ4, u1, u2⟩ := ms_bad (F := F) (k := 1) n2.1
          obtain ⟨τ5, v1, v2⟩ := dead 0 τ3 1 (stt y l (i + 1)) ⟨t2, _, by omega, (t3 _ _ (by decide)).trans s2.2.1⟩
          rw [t1, cal_some, if_neg (show ¬ τ2 0 18 = 2 by
            rw [ms_code n2.1]
            exact fun z => hnum ((cM_nm (by decide) tko1).mp z)), show X11_bad F 1 τ2 = _ from u1, cal_some, nar0]
          exact ⟨0, τ5, τ4, 1, _, v1, rfl, v2, u2⟩
      · left
        refine ⟨τx, τm, i, [], g + 1, a2, rfl, ?_, by rw [List.append_nil]; exact h, by rw [List.append_nil]; exact h', Nat.le_refl _, fun o ho => absurd ho List.not_mem_nil, fun s _ => rfl, ha2, hg, c1, c2⟩
        unfold X11_product_L9
        rw [hcM, if_neg (show ¬ cM 0 (tk 0 y l i) = 142 from fun z => c1 ((cM_sg (c := 42) (by decide) tko (by decide) (by decide)).mp z)), if_neg (show ¬ cM 0 (tk 0 y l i) = 147 from fun z => c2 ((cM_sg (c := 47) (by decide) tko (by decide) (by decide)).mp z))]
