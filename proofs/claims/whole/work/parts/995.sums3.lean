/-! PURE PART. Texts: whole sums -/
def lagS (a1 : Int32) (om ox : List (Nat × Nat)) : Prop := (a1 = -1 ∧ om = ox) ∨ ∃ k, (k = 23 ∨ k = 24) ∧ a1 = nI (k - 13) ∧ om = ox ++ [(k, 0)]
theorem lag_up {F l N i : Nat} {y : Nat → Nat} {Bx τ : Tau} {a1 : Int32} {om ox : List (Nat × Nat)} (hL : lagS a1 om ox) (h : XL y l N Bx i (encs ox) τ) (hc : (encs om).length ≤ 400) : ∃ τ', XL y l N Bx i (encs om) τ' ∧ ∀ K : Tau → Option (Int32 × Tau), (if a1 = -1 then K τ else (cal (X2_emit F 203 a1 τ) fun r τ2 => K τ2)) = K τ' := by
  rcases hL with ⟨h1, h2⟩ | ⟨k, hk, h1, h2⟩
  · exact ⟨τ, by rw [h2]; exact h, fun K => if_pos h1⟩
  · have e : encs om = encs ox ++ [k - 13] := by
      rw [h2, encs_app, encs_one]
      rcases hk with rfl | rfl <;> rfl
    have hl : (encs om).length = (encs ox).length + 1 := by rw [e, List.length_append]; rfl
    obtain ⟨τ', t1, t2⟩ := xl_emit (F := F) (v := k - 13) h (by omega)
    rw [← e] at t2
    exact ⟨τ', t2, fun K => by rw [if_neg (fun z => (nI_m1 (by omega)).mp (h1.symm.trans z)), h1, t1, cal_some]⟩
theorem sum_loop {F l N d : Nat} {y : Nat → Nat} {Bx Bm : Tau} (hF : 5000 ≤ F) (E : EnvT 0 y l N Bx Bm) : ∀ (m i g f a2 : Nat) (om ox : List (Nat × Nat)) (a1 : Int32) (τx τm : Tau), N - i ≤ m → N - i < g → N - i < f → a2 ≤ i → lagS a1 om ox → XL y l N Bx i (encs ox) τx → ML y l Bm i d om τm → (encs om).length ≤ i → tk 0 y l i ≠ .sgn 42 → tk 0 y l i ≠ .sgn 47 →
    (∃ τx' τm' i' new, X3_readSum_L8 F g a1 (nI a2) τx = some (0, τx') ∧ X11_sumUp_L9 F f τm = some (1, τm') ∧ XL y l N Bx i' (encs (om ++ new)) τx' ∧ ML y l Bm i' d (om ++ new) τm' ∧ i + (encs new).length ≤ i' ∧ (∀ o ∈ new, okOp o) ∧ (∀ s : List Bool, s.length ≤ 28 → tyc new (false :: s) = some (false :: s))) ∨ Fl Bx Bm (X3_readSum_L8 F g a1 (nI a2) τx) (X11_sumUp_L9 F f τm) := by
  have e5 := E.2.2.2.2.1
  have hN := E.2.2.1.2.1
  have out : ∀ (i g f a2 : Nat) (om ox : List (Nat × Nat)) (a1 : Int32) (τx τm : Tau), lagS a1 om ox → XL y l N Bx i (encs ox) τx → ML y l Bm i d om τm → (encs om).length ≤ i → tk 0 y l i ≠ .sgn 42 → tk 0 y l i ≠ .sgn 47 → tk 0 y l i ≠ .sgn 43 → tk 0 y l i ≠ .sgn 45 → (∃ τx' τm' i' new, X3_readSum_L8 F (g + 1) a1 (nI a2) τx = some (0, τx') ∧ X11_sumUp_L9 F (f + 1) τm = some (1, τm') ∧ XL y l N Bx i' (encs (om ++ new)) τx' ∧ ML y l Bm i' d (om ++ new) τm' ∧ i + (encs new).length ≤ i' ∧ (∀ o ∈ new, okOp o) ∧ (∀ s : List Bool, s.length ≤ 28 → tyc new (false :: s) = some (false :: s))) := by
    intro i g f a2 om ox a1 τx τm hL h h' hc c1 c2 c3 c4
    have hiN := h.1.2.2.2.1
    have tko := tk_ok (a := 0) (y := y) (l := l) (i := i)
    obtain ⟨τ', t1, t2⟩ := lag_up (F := F) hL h (by omega)
    refine ⟨τ', τm, i, [], ?_, ?_, by rw [List.append_nil]; exact t1, by rw [List.append_nil]; exact h', Nat.le_refl _, fun o ho => absurd ho List.not_mem_nil, fun s _ => rfl⟩
    · rw [L8_out hF h (fun z => z.elim c1 fun z => z.elim c3 fun z => z.elim c4 c2)]
      exact t2 (fun τ => some (0, τ))
    · unfold X11_sumUp_L9
      rw [ms_code h'.1, if_neg (show ¬ cM 0 (tk 0 y l i) = 143 from fun z => c3 ((cM_sg (c := 43) (by decide) tko (by decide) (by decide)).mp z)), if_neg (show ¬ cM 0 (tk 0 y l i) = 145 from fun z => c4 ((cM_sg (c := 45) (by decide) tko (by decide) (by decide)).mp z))]
  intro m
  induction m with
  | zero =>
    intro i g f a2 om ox a1 τx τm hm hg hf ha2 hL h h' hc c1 c2
    obtain ⟨f, rfl, -⟩ := fuel (show 0 < f by omega)
    obtain ⟨g, rfl, -⟩ := fuel (show 0 < g by omega)
    have hiN := h.1.2.2.2.1
    have ht : tk 0 y l i = .fin := by rw [show i = N from by omega]; exact tok_fin e5
    exact .inl (out i g f a2 om ox a1 τx τm hL h h' hc c1 c2 (by rw [ht]; exact (nofun)) (by rw [ht]; exact (nofun)))
  | succ m ih =>
    intro i g f a2 om ox a1 τx τm hm hg hf ha2 hL h h' hc c1 c2
    obtain ⟨f, rfl, -⟩ := fuel (show 0 < f by omega)
    obtain ⟨g, rfl, -⟩ := fuel (show 0 < g by omega)
    have hiN := h.1.2.2.2.1
    have tko := tk_ok (a := 0) (y := y) (l := l) (i := i)
    have hcM := ms_code h'.1
    have kk : nI a2 + 1 = nI (a2 + 1) := litA'
    by_cases c3 : tk 0 y l i = .sgn 43 ∨ tk 0 y l i = .sgn 45
    · obtain ⟨b, k, hbk, hb⟩ : ∃ b k, (b = 43 ∧ k = 23 ∨ b = 45 ∧ k = 24) ∧ tk 0 y l i = .sgn b := by
        rcases c3 with c | c
        · exact ⟨43, 23, .inl ⟨rfl, rfl⟩, c⟩
        · exact ⟨45, 24, .inr ⟨rfl, rfl⟩, c⟩
      have hlt := tk_N e5 hiN (by rw [hb]; exact (nofun))
      obtain ⟨τ1, s1, s2⟩ := xl_skip (F := F) E h hlt
      obtain ⟨τ2, n1, n2⟩ := ml_next hF E h'
      obtain ⟨τ3, l1, l2⟩ := lag_up (F := F) hL s2 (by omega)
      have l3 := l2 (fun τ => X3_readSum_j119 F (X3_readSum_L8 F g) (nI a2) (nI b) τ)
      have eX : X3_readSum_L8 F (g + 1) a1 (nI a2) τx = cal (X3_readUnit F τ3) fun r13 τ14 => X3_readSum_L8 F g (nI (k - 13)) (nI (a2 + 1)) τ14 := by
        rw [L8_in hF h (by omega) (by omega) hb, s1, cal_some]
        rcases hbk with ⟨rfl, rfl⟩ | ⟨rfl, rfl⟩
        · rw [if_neg (by decide), if_neg (by decide), l3, ← kk]
          rfl
        · rw [if_neg (by decide), if_neg (by decide), l3, ← kk]
          rfl
      have eM : X11_sumUp_L9 F (f + 1) τm = cal (X11_product F τ2) fun r5 τ6 => if r5 = 0 then (some (0, τ6)) else (cal (X11_lay F (nI k) 0 τ6) fun r7 τ8 => X11_sumUp_L9 F f τ8) := by
        have hcd : τm 0 18 = nI (100 + b) := by rw [hcM, hb]; rfl
        conv => lhs; unfold X11_sumUp_L9
        unfold X11_sumUp_j29 X11_sumUp_j46
        rcases hbk with ⟨rfl, rfl⟩ | ⟨rfl, rfl⟩
        · rw [hcd, if_pos (show nI (100 + 43) = 143 from rfl), if_pos (show nI (100 + 43) = 143 from rfl), n1, cal_some]
          rfl
        · rw [hcd, if_neg (by decide), if_pos (show nI (100 + 45) = 145 from rfl), if_neg (by decide), n1, cal_some]
          rfl
      rw [eX, eM]
      unfold X11_product
      rcases unit_sim hF E l1 n2 (by omega) with ⟨τ3', τ4, o, u1, u2, u3, u4, u5, u6, u7⟩ | ⟨r, τ3', τ4, k', p, u1, u2, u3, u4⟩
      · have he1 : (enc o).length = 1 := by
          unfold enc
          by_cases z : o.1 = 0
          · rw [if_pos z]; rfl
          · rw [if_neg z, if_pos (by omega)]; rfl
        have en1 : (encs (om ++ [o])).length = (encs om).length + 1 := by rw [encs_app, encs_one, List.length_append, he1]
        rw [u1, cal_some, u2, cal_some, if_neg n10]
        rcases prod_sim (a1 := nI (k - 13)) hF E N (i + 1 + 1) g F (a2 + 1) (om ++ [o]) τ3' τ4 (by omega) (by omega) (by omega) (by omega) u3 u4 (by omega) with ⟨τ5, τ6, i', new, g', a2', x1, x2, x3, x4, x5, x6, x7, x8, x9, x10, x11⟩ | ⟨r, τ5, τ6, k', p, x1, x2, x3, x4⟩
        · have hi' := x3.1.2.2.2.1
          have en2 : (encs (om ++ [o] ++ new)).length = (encs om).length + 1 + (encs new).length := by rw [encs_app, List.length_append, en1]
          have lo1 := encs_ge (om ++ [o] ++ new)
          obtain ⟨τ7, w1, w2⟩ := ml_lay (F := F) (k, 0) 0 x4 (by omega) (fun z => by
            have : k = 0 ∨ k = 26 := z
            omega)
          have ek1 : (enc (k, 0)).length = 1 := by rcases hbk with ⟨-, rfl⟩ | ⟨-, rfl⟩ <;> rfl
          have en3 : (encs (om ++ [o] ++ new ++ [(k, 0)])).length = (encs om).length + 1 + (encs new).length + 1 := by rw [encs_app, List.length_append, en2, encs_one, ek1]
          rw [x1, x2, cal_some, if_neg n10, w1, cal_some]
          rcases ih i' g' f a2' (om ++ [o] ++ new ++ [(k, 0)]) (om ++ [o] ++ new) (nI (k - 13)) τ5 τ7 (by omega) (by omega) (by omega) x8 (.inr ⟨k, by omega, rfl, rfl⟩) x3 w2 (by omega) x10 x11 with ⟨τx', τm', i'', new', z1, z2, z3, z4, z5, z6, z7⟩ | z
          · left
            have as : om ++ ([o] ++ new ++ [(k, 0)] ++ new') = om ++ [o] ++ new ++ [(k, 0)] ++ new' := by simp only [List.append_assoc]
            refine ⟨τx', τm', i'', [o] ++ new ++ [(k, 0)] ++ new', z1, z2, by rw [as]; exact z3, by rw [as]; exact z4, ?_, ?_, fun s hs => ?_⟩
            · rw [encs_app, encs_app, encs_app, List.length_append, List.length_append, List.length_append, encs_one, encs_one, he1, ek1]
              omega
            · intro q hq
              rcases List.mem_append.mp hq with hq | hq
              · rcases List.mem_append.mp hq with hq | hq
                · rcases List.mem_append.mp hq with hq | hq
                  · rw [List.mem_singleton.mp hq]; exact u5
                  · exact x6 q hq
                · rw [List.mem_singleton.mp hq]
                  exact ⟨.inr (by show 23 ≤ k ∧ k ≤ 32; omega), fun z => by
                    have : k = 0 := z
                    omega, fun z => by
                    have : k = 26 := z
                    omega⟩
              · exact z6 q hq
            · rw [tyc_append, tyc_append, tyc_append]
              have t1 : tyc [o] (false :: s) = some (false :: false :: s) := by
                show (tstep o (false :: s)).bind (tyc []) = _
                unfold tstep
                rw [if_pos u6, if_pos (show (false :: s).length < 31 by rw [List.length_cons]; omega)]
                rfl
              have t2 : tyc [(k, 0)] (false :: false :: s) = some (false :: s) := by
                rcases hbk with ⟨-, rfl⟩ | ⟨-, rfl⟩ <;> rfl
              have t3 := x7 (false :: s) (by rw [List.length_cons]; omega)
              rw [t1, Option.bind_some, t3, Option.bind_some, t2, Option.bind_some]
              exact z7 s hs
          · exact .inr z
        · right
          exact ⟨r, τ5, τ6, k', p, x1, by rw [x2, cal_some, if_pos rfl], x3, x4⟩
      · right
        obtain ⟨τ6, w1, w2⟩ := dl_L8 (g := g) (a1 := nI (k - 13)) (a2 := nI (a2 + 1)) hF u3 (by omega)
        exact ⟨0, τ6, τ4, k', p, by rw [u1, cal_some, w1], by rw [u2, cal_some, if_pos rfl, cal_some, if_pos rfl], w2, u4⟩
    · exact .inl (out i g f a2 om ox a1 τx τm hL h h' hc c1 c2 (fun z => c3 (.inl z)) (fun z => c3 (.inr z)))
theorem sum_sim {F l N i d : Nat} {y : Nat → Nat} {Bx Bm τx τm : Tau} {ops : List (Nat × Nat)} (hF : 5000 ≤ F) (E : EnvT 0 y l N Bx Bm) (h : XL y l N Bx i (encs ops) τx) (h' : ML y l Bm i d ops τm) (hc : (encs ops).length ≤ i) :
    (∃ τx' τm' i' new, X3_readSum F τx = some (0, τx') ∧ X11_sumUp F τm = some (1, τm') ∧ XL y l N Bx i' (encs (ops ++ new)) τx' ∧ ML y l Bm i' d (ops ++ new) τm' ∧ i + (encs new).length ≤ i' ∧ (∀ o ∈ new, okOp o) ∧ tyB 28 false new) ∨ Fl Bx Bm (X3_readSum F τx) (X11_sumUp F τm) := by
  have hN := E.2.2.1.2.1
  unfold X3_readSum X11_sumUp X11_product
  rcases unit_sim hF E h h' hc with ⟨τ3', τ4, o, u1, u2, u3, u4, u5, u6, u7⟩ | ⟨r, τ3', τ4, k', p, u1, u2, u3, u4⟩
  · have he1 : (enc o).length = 1 := by
      unfold enc
      by_cases z : o.1 = 0
      · rw [if_pos z]; rfl
      · rw [if_neg z, if_pos (by omega)]; rfl
    have en1 : (encs (ops ++ [o])).length = (encs ops).length + 1 := by rw [encs_app, encs_one, List.length_append, he1]
    rw [u1, cal_some, u2, cal_some, if_neg n10]
    rcases prod_sim (a1 := -1) hF E N (i + 1) F F 0 (ops ++ [o]) τ3' τ4 (by omega) (by omega) (by omega) (by omega) u3 u4 (by omega) with ⟨τ5, τ6, i', new, g', a2', x1, x2, x3, x4, x5, x6, x7, x8, x9, x10, x11⟩ | ⟨r, τ5, τ6, k', p, x1, x2, x3, x4⟩
    · have hi' := x3.1.2.2.2.1
      have en2 : (encs (ops ++ [o] ++ new)).length = (encs ops).length + 1 + (encs new).length := by rw [encs_app, List.length_append, en1]
      rw [show X3_readSum_L8 F F (-1) 0 τ3' = _ from x1, x2, cal_some, if_neg n10]
      rcases sum_loop hF E N i' g' F a2' (ops ++ [o] ++ new) (ops ++ [o] ++ new) (-1) τ5 τ6 (by omega) (by omega) (by omega) x8 (.inl ⟨rfl, rfl⟩) x3 x4 (by omega) x10 x11 with ⟨τx', τm', i'', new', z1, z2, z3, z4, z5, z6, z7⟩ | z
      · left
        have as : ops ++ ([o] ++ new ++ new') = ops ++ [o] ++ new ++ new' := by simp only [List.append_assoc]
        refine ⟨τx', τm', i'', [o] ++ new ++ new', z1, z2, by rw [as]; exact z3, by rw [as]; exact z4, ?_, ?_, fun s hs => ?_⟩
        · rw [encs_app, encs_app, List.length_append, List.length_append, encs_one, he1]
          omega
        · intro q hq
          rcases List.mem_append.mp hq with hq | hq
          · rcases List.mem_append.mp hq with hq | hq
            · rw [List.mem_singleton.mp hq]; exact u5
            · exact x6 q hq
          · exact z6 q hq
        · rw [tyc_append, tyc_append]
          have t1 : tyc [o] s = some (false :: s) := by
            show (tstep o s).bind (tyc []) = _
            unfold tstep
            rw [if_pos u6, if_pos (by omega)]
            rfl
          rw [t1, Option.bind_some, x7 s (by omega), Option.bind_some]
          exact z7 s hs
      · exact .inr z
    · right
      exact ⟨r, τ5, τ6, k', p, x1, by rw [x2, cal_some, if_pos rfl], x3, x4⟩
  · right
    obtain ⟨τ6, w1, w2⟩ := dl_L8 (g := F) (a1 := -1) (a2 := 0) hF u3 (by omega)
    exact ⟨0, τ6, τ4, k', p, by rw [u1, cal_some, w1], by rw [u2, cal_some, if_pos rfl, cal_some, if_pos rfl], w2, u4⟩
