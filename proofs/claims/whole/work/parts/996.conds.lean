/-! PURE PART. Texts: conditions joined -/
def TestH (F : Nat) (y : Nat → Nat) (l N : Nat) (Bx Bm : Tau) (d : Nat) (rc : Int32 → Tau → Option (Int32 × Tau)) (orc : Tau → Option (Int32 × Tau)) : Prop := ∀ (i : Nat) (ops : List (Nat × Nat)) (τx τm : Tau), XL y l N Bx i (encs ops) τx → ML y l Bm i d ops τm → (encs ops).length ≤ i →
  (∃ τx' τm' i' new, X3_readCondition F rc (nI d) τx = some (0, τx') ∧ orc τm = some (1, τm') ∧ XL y l N Bx i' (encs (ops ++ new)) τx' ∧ ML y l Bm i' d (ops ++ new) τm' ∧ i + (encs new).length ≤ i' ∧ (∀ o ∈ new, okOp o) ∧ tyB (2 * d + 2) true new) ∨ Fl Bx Bm (X3_readCondition F rc (nI d) τx) (orc τm)
theorem dl_nots {F k p m : Nat} {B : Tau} {rc : Int32 → Tau → Option (Int32 × Tau)} (hm : m < 2 ^ 31) : ∀ (m' i f : Nat) (τ : Tau), i + m' = m → m' < f → DL B k p τ → ∃ τ', X3_readCondition_L156 F rc f (nI m) (nI i) τ = some (0, τ') ∧ DL B k p τ' := by
  intro m'
  induction m' with
  | zero =>
    intro i f τ hi hf h
    obtain ⟨g, rfl, -⟩ := fuel hf
    refine ⟨τ, ?_, h⟩
    unfold X3_readCondition_L156
    rw [if_pos (nI_le (by omega) (by omega))]
  | succ m' ih =>
    intro i f τ hi hf h
    obtain ⟨g, rfl, -⟩ := fuel hf
    have kk : nI i + 1 = nI (i + 1) := litA'
    obtain ⟨τ1, t1, t2⟩ := dl_emit (F := F) 19 h
    obtain ⟨τ', u1, u2⟩ := ih (i + 1) g τ1 (by omega) (by omega) t2
    refine ⟨τ', ?_, u2⟩
    unfold X3_readCondition_L156
    rw [if_neg (nI_ge (by omega) (by omega)), t1, cal_some, kk, u1]
theorem xl_nots {F l N i m : Nat} {y : Nat → Nat} {Bx : Tau} {rc : Int32 → Tau → Option (Int32 × Tau)} (hm : m < 2 ^ 31) : ∀ (m' k f : Nat) (ops : List (Nat × Nat)) (τ : Tau), k + m' = m → m' < f → (encs ops).length + m' ≤ 400 → XL y l N Bx i (encs ops) τ → ∃ τ', X3_readCondition_L156 F rc f (nI m) (nI k) τ = some (0, τ') ∧ XL y l N Bx i (encs (ops ++ List.replicate m' (30, 0))) τ' := by
  intro m'
  induction m' with
  | zero =>
    intro k f ops τ hi hf hc h
    obtain ⟨g, rfl, -⟩ := fuel hf
    refine ⟨τ, ?_, by rw [List.replicate_zero, List.append_nil]; exact h⟩
    unfold X3_readCondition_L156
    rw [if_pos (nI_le (by omega) (by omega))]
  | succ m' ih =>
    intro k f ops τ hi hf hc h
    obtain ⟨g, rfl, -⟩ := fuel hf
    have kk : nI k + 1 = nI (k + 1) := litA'
    obtain ⟨τ1, t1, t2⟩ := xl_emit (F := F) (v := 19) h (by omega)
    have e : encs ops ++ [19] = encs (ops ++ [(30, 0)]) := by rw [encs_app, encs_one]; rfl
    rw [e] at t2
    obtain ⟨τ', u1, u2⟩ := ih (k + 1) g (ops ++ [(30, 0)]) τ1 (by omega) (by omega) (by rw [← e, List.length_append]; show (encs ops).length + 1 + m' ≤ 400; omega) t2
    refine ⟨τ', ?_, by rw [List.replicate_succ, List.append_cons]; exact u2⟩
    unfold X3_readCondition_L156
    rw [if_neg (nI_ge (by omega) (by omega)), show X2_emit F 203 19 τ = _ from t1, cal_some, kk, u1]
theorem dl_cmp {F k p : Nat} {B τ : Tau} (h : DL B k p τ) : X3_comparisonHere F τ = some (15, τ) := by
  unfold X3_comparisonHere
  rw [xd_sign h.1, cal_some, if_neg (by decide), if_neg (by decide), if_neg (by decide), xd_ref h.1, cal_some]
theorem dl_j153 {F k p m : Nat} {B τ : Tau} {rc : Int32 → Tau → Option (Int32 × Tau)} (hF : 5000 ≤ F) (hm : m ≤ 100) (h : DL B k p τ) : ∃ τ', X3_readCondition_j153 F rc (nI m) τ = some (0, τ') ∧ DL B k p τ' := by
  unfold X3_readCondition_j153
  exact dl_nots (by omega) m 0 F τ (by omega) (by omega) h
theorem dl_r3 {F k p m : Nat} {B τ : Tau} {r : Int32} {rc : Int32 → Tau → Option (Int32 × Tau)} (hF : 5000 ≤ F) (hm : m ≤ 100) (h : DL B k p τ) : ∃ τ', (cal (X2_emit F 203 r τ) fun r13 τ14 => X3_readCondition_j153 F rc (nI m) τ14) = some (0, τ') ∧ DL B k p τ' := by
  obtain ⟨τ1, t1, t2⟩ := dl_emit (F := F) r h
  obtain ⟨τ2, u1, u2⟩ := dl_j153 (rc := rc) hF hm t2
  exact ⟨τ2, by rw [t1, cal_some, u1], u2⟩
theorem dl_r2 {F k p m : Nat} {B τ : Tau} {r : Int32} {rc : Int32 → Tau → Option (Int32 × Tau)} (hF : 5000 ≤ F) (hm : m ≤ 100) (h : DL B k p τ) : ∃ τ', (cal (X6_skip F τ) fun r9 τ10 => cal (X3_readSum F τ10) fun r11 τ12 => cal (X2_emit F 203 r τ12) fun r13 τ14 => X3_readCondition_j153 F rc (nI m) τ14) = some (0, τ') ∧ DL B k p τ' := by
  obtain ⟨τ1, t1, t2⟩ := dl_sum hF h
  obtain ⟨τ2, u1, u2⟩ := dl_r3 (r := r) (rc := rc) hF hm t2
  exact ⟨τ2, by rw [xd_skip h.1, cal_some, t1, cal_some, u1], u2⟩
theorem dl_r1 {F k p m : Nat} {B τ : Tau} {rc : Int32 → Tau → Option (Int32 × Tau)} (hF : 5000 ≤ F) (hm : m ≤ 100) (h : DL B k p τ) : ∃ τ', (cal (X3_comparisonHere F τ) fun r7 τ8 => cal (X6_skip F τ8) fun r9 τ10 => cal (X3_readSum F τ10) fun r11 τ12 => cal (X2_emit F 203 r7 τ12) fun r13 τ14 => X3_readCondition_j153 F rc (nI m) τ14) = some (0, τ') ∧ DL B k p τ' := by
  obtain ⟨τ2, u1, u2⟩ := dl_r2 (r := 15) (rc := rc) hF hm h
  exact ⟨τ2, by rw [dl_cmp h, cal_some, u1], u2⟩
theorem dl_anyL {F k p g : Nat} {B τ : Tau} {a1 a2 a3 : Int32} {rc : Int32 → Tau → Option (Int32 × Tau)} (hg : 0 < g) (h : DL B k p τ) : ∃ τ', X3_readAny_L9 F rc g a1 a2 a3 τ = some (0, τ') ∧ DL B k p τ' := by
  obtain ⟨g, rfl, -⟩ := fuel hg
  have j103 : ∃ τ', X3_readAny_j103 F rc a2 τ = some (0, τ') ∧ DL B k p τ' := by
    unfold X3_readAny_j103
    by_cases c : a2 = 0
    · exact ⟨τ, if_pos c, h⟩
    · obtain ⟨τ', t1, t2⟩ := dl_emit (F := F) 18 h
      exact ⟨τ', by rw [if_neg c, t1, cal_some], t2⟩
  unfold X3_readAny_L9
  by_cases c : (400 : Int32) ≤ a3
  · rw [if_pos c]; exact j103
  · rw [if_neg c, xd_isW h.1, cal_some, if_pos rfl, xd_isW h.1, cal_some, if_pos rfl]
    exact j103
theorem every_loop {F l N d : Nat} {y : Nat → Nat} {Bx Bm : Tau} {b : Int32} {rc : Int32 → Tau → Option (Int32 × Tau)} {orc : Tau → Option (Int32 × Tau)} (hF : 5000 ≤ F) (E : EnvT 0 y l N Bx Bm) (hT : TestH F y l N Bx Bm d rc orc) : ∀ (q i g f a3 : Nat) (ops : List (Nat × Nat)) (τx τm : Tau), N - i ≤ q → N - i < g → N - i < f → a3 ≤ i → XL y l N Bx i (encs ops) τx → ML y l Bm i d ops τm → (encs ops).length ≤ i →
    (∃ τx' τm' i' new g' a3', X3_readAny_L9 F rc g (nI d) b (nI a3) τx = X3_readAny_L9 F rc g' (nI d) b (nI a3') τx' ∧ X11_every_L9 F orc f τm = some (1, τm') ∧ XL y l N Bx i' (encs (ops ++ new)) τx' ∧ ML y l Bm i' d (ops ++ new) τm' ∧ i + (encs new).length ≤ i' ∧ (∀ o ∈ new, okOp o) ∧ (∀ s : List Bool, s.length ≤ 2 * d + 1 → tyc new (true :: s) = some (true :: s)) ∧ a3' ≤ i' ∧ N - i' < g' ∧ tk 0 y l i' ≠ .wrd 5) ∨ Fl Bx Bm (X3_readAny_L9 F rc g (nI d) b (nI a3) τx) (X11_every_L9 F orc f τm) := by
  have e5 := E.2.2.2.2.1
  have hN := E.2.2.1.2.1
  have out : ∀ (i g f a3 : Nat) (ops : List (Nat × Nat)) (τx τm : Tau), N - i < g → a3 ≤ i → XL y l N Bx i (encs ops) τx → ML y l Bm i d ops τm → tk 0 y l i ≠ .wrd 5 → (∃ τx' τm' i' new g' a3', X3_readAny_L9 F rc g (nI d) b (nI a3) τx = X3_readAny_L9 F rc g' (nI d) b (nI a3') τx' ∧ X11_every_L9 F orc (f + 1) τm = some (1, τm') ∧ XL y l N Bx i' (encs (ops ++ new)) τx' ∧ ML y l Bm i' d (ops ++ new) τm' ∧ i + (encs new).length ≤ i' ∧ (∀ o ∈ new, okOp o) ∧ (∀ s : List Bool, s.length ≤ 2 * d + 1 → tyc new (true :: s) = some (true :: s)) ∧ a3' ≤ i' ∧ N - i' < g' ∧ tk 0 y l i' ≠ .wrd 5) := by
    intro i g f a3 ops τx τm hg ha3 h h' c
    refine ⟨τx, τm, i, [], g, a3, rfl, ?_, by rw [List.append_nil]; exact h, by rw [List.append_nil]; exact h', Nat.le_refl _, fun o ho => absurd ho List.not_mem_nil, fun s _ => rfl, ha3, hg, c⟩
    unfold X11_every_L9
    rw [ms_code h'.1, if_neg (show ¬ cM 0 (tk 0 y l i) = 5 from fun z => c ((cM_wd (v := 5) (by decide) tk_ok (by decide)).mp z))]
  intro q
  induction q with
  | zero =>
    intro i g f a3 ops τx τm hq hg hf ha3 h h' hc
    obtain ⟨f, rfl, -⟩ := fuel (show 0 < f by omega)
    have hiN := h.1.2.2.2.1
    have ht : tk 0 y l i = .fin := by rw [show i = N from by omega]; exact tok_fin e5
    exact .inl (out i g f a3 ops τx τm hg ha3 h h' (by rw [ht]; exact (nofun)))
  | succ q ih =>
    intro i g f a3 ops τx τm hq hg hf ha3 h h' hc
    obtain ⟨f, rfl, -⟩ := fuel (show 0 < f by omega)
    by_cases c : tk 0 y l i = .wrd 5
    · obtain ⟨g, rfl, -⟩ := fuel (show 0 < g by omega)
      have hiN := h.1.2.2.2.1
      have hlt := tk_N e5 hiN (by rw [c]; exact (nofun))
      have kk : nI a3 + 1 = nI (a3 + 1) := litA'
      obtain ⟨τ1, s1, s2⟩ := xl_skip (F := F) E h hlt
      obtain ⟨τ2, n1, n2⟩ := ml_next hF E h'
      have w4 : X6_isWord F 4 τx = some (0, τx) := (xs_isW (F := F) (u := 4) h.1 (by decide) (by decide)).2 (by rw [c]; exact fun z => absurd (Tok.wrd_inj z) (by decide))
      have w5 : X6_isWord F 5 τx = some (1, τx) := (xs_isW (F := F) (u := 5) h.1 (by decide) (by decide)).1 c
      have eX : X3_readAny_L9 F rc (g + 1) (nI d) b (nI a3) τx = cal (X3_readCondition F rc (nI d) τ1) fun r13 τ14 => cal (X2_emit F 203 17 τ14) fun r15 τ16 => X3_readAny_L9 F rc g (nI d) b (nI (a3 + 1)) τ16 := by
        conv => lhs; unfold X3_readAny_L9
        unfold X3_readAny_j38 X3_readAny_j73 X3_readAny_j97
        rw [if_neg (show ¬ (400 : Int32) ≤ nI a3 from nI_ge (b := 400) (by omega) (by decide)), w4, cal_some, if_pos rfl, w5, cal_some, if_neg n10, w5, cal_some, s1, cal_some, if_neg n10, ← kk]
        rfl
      have eM : X11_every_L9 F orc (f + 1) τm = cal (orc τ2) fun r5 τ6 => if r5 = 0 then (some (0, τ6)) else (cal (X11_lay F 31 0 τ6) fun r7 τ8 => X11_every_L9 F orc f τ8) := by
        conv => lhs; unfold X11_every_L9
        rw [ms_code h'.1, c, if_pos (show cM 0 (Tok.wrd 5) = 5 from rfl), n1, cal_some]
      rw [eX, eM]
      rcases hT (i + 1) ops τ1 τ2 s2 n2 (by omega) with ⟨τ3, τ4, i', new, u1, u2, u3, u4, u5, u6, u7⟩ | ⟨r, τ3, τ4, k, p, u1, u2, u3, u4⟩
      · have hi' := u3.1.2.2.2.1
        have en1 : (encs (ops ++ new)).length = (encs ops).length + (encs new).length := by rw [encs_app, List.length_append]
        have lo1 := encs_ge (ops ++ new)
        obtain ⟨τ5, v1, v2⟩ := xl_emit (F := F) (v := 17) u3 (by omega)
        obtain ⟨τ6, w1, w2⟩ := ml_lay (F := F) (31, 0) 0 u4 (by omega) (fun z => absurd z (by decide))
        have e31 : encs (ops ++ new) ++ [17] = encs (ops ++ new ++ [(31, 0)]) := by rw [encs_app (ops ++ new), encs_one]; rfl
        rw [e31] at v2
        have en2 : (encs (ops ++ new ++ [(31, 0)])).length = (encs ops).length + (encs new).length + 1 := by rw [← e31, List.length_append, en1]; rfl
        rw [u1, cal_some, show X2_emit F 203 17 τ3 = _ from v1, cal_some, u2, cal_some, if_neg n10, show X11_lay F 31 0 τ4 = _ from w1, cal_some]
        rcases ih i' g f (a3 + 1) (ops ++ new ++ [(31, 0)]) τ5 τ6 (by omega) (by omega) (by omega) (by omega) v2 w2 (by omega) with ⟨τx', τm', i'', new', g', a3', x1, x2, x3, x4, x5, x6, x7, x8⟩ | x
        · left
          have as : ops ++ (new ++ [(31, 0)] ++ new') = ops ++ new ++ [(31, 0)] ++ new' := by simp only [List.append_assoc]
          refine ⟨τx', τm', i'', new ++ [(31, 0)] ++ new', g', a3', x1, x2, by rw [as]; exact x3, by rw [as]; exact x4, ?_, ?_, fun s hs => ?_, x8⟩
          · rw [encs_app, encs_app, List.length_append, List.length_append, encs_one]
            show i + ((encs new).length + 1 + (encs new').length) ≤ i''
            omega
          · intro o ho
            rcases List.mem_append.mp ho with ho | ho
            · rcases List.mem_append.mp ho with ho | ho
              · exact u6 o ho
              · rw [List.mem_singleton.mp ho]
                exact ⟨.inr (by decide), fun z => absurd z (by decide), fun z => absurd z (by decide)⟩
            · exact x6 o ho
          · rw [tyc_append, tyc_append, u7 (true :: s) (by rw [List.length_cons]; omega), Option.bind_some]
            exact x7 s hs
        · exact .inr x
      · right
        obtain ⟨τ5, v1, v2⟩ := dl_emit (F := F) 17 u3
        obtain ⟨τ6, w1, w2⟩ := dl_anyL (g := g) (rc := rc) (a1 := nI d) (a2 := b) (a3 := nI (a3 + 1)) (by omega) v2
        exact ⟨0, τ6, τ4, k, p, by rw [u1, cal_some, v1, cal_some, w1], by rw [u2, cal_some, if_pos rfl], w2, u4⟩
    · exact .inl (out i g f a3 ops τx τm hg ha3 h h' c)
def lagA (b : Int32) (om ox : List (Nat × Nat)) : Prop := (b = 0 ∧ om = ox) ∨ (b = 1 ∧ om = ox ++ [(32, 0)])
theorem lagA_up {F l N i : Nat} {y : Nat → Nat} {Bx τ : Tau} {b : Int32} {om ox : List (Nat × Nat)} (hL : lagA b om ox) (h : XL y l N Bx i (encs ox) τ) (hc : (encs om).length ≤ 400) : ∃ τ', XL y l N Bx i (encs om) τ' ∧ ∀ K : Tau → Option (Int32 × Tau), (if b = 0 then K τ else (cal (X2_emit F 203 18 τ) fun r τ2 => K τ2)) = K τ' := by
  rcases hL with ⟨h1, h2⟩ | ⟨h1, h2⟩
  · exact ⟨τ, by rw [h2]; exact h, fun K => if_pos h1⟩
  · have e : encs om = encs ox ++ [18] := by
      rw [h2, encs_app, encs_one]
      rfl
    have hl : (encs om).length = (encs ox).length + 1 := by rw [e, List.length_append]; rfl
    obtain ⟨τ', t1, t2⟩ := xl_emit (F := F) (v := 18) h (by omega)
    rw [← e] at t2
    exact ⟨τ', t2, fun K => by rw [if_neg (by rw [h1]; exact n10), show X2_emit F 203 18 τ = _ from t1, cal_some]⟩
theorem any_loop {F l N d : Nat} {y : Nat → Nat} {Bx Bm : Tau} {rc : Int32 → Tau → Option (Int32 × Tau)} {orc : Tau → Option (Int32 × Tau)} (hF : 5000 ≤ F) (E : EnvT 0 y l N Bx Bm) (hT : TestH F y l N Bx Bm d rc orc) : ∀ (q i g f a3 : Nat) (om ox : List (Nat × Nat)) (b : Int32) (τx τm : Tau), N - i ≤ q → N - i < g → N - i < f → a3 ≤ i → lagA b om ox → XL y l N Bx i (encs ox) τx → ML y l Bm i d om τm → (encs om).length ≤ i → tk 0 y l i ≠ .wrd 5 →
    (∃ τx' τm' i' new, X3_readAny_L9 F rc g (nI d) b (nI a3) τx = some (0, τx') ∧ X11_any_L9 F orc f τm = some (1, τm') ∧ XL y l N Bx i' (encs (om ++ new)) τx' ∧ ML y l Bm i' d (om ++ new) τm' ∧ i + (encs new).length ≤ i' ∧ (∀ o ∈ new, okOp o) ∧ (∀ s : List Bool, s.length ≤ 2 * d → tyc new (true :: s) = some (true :: s))) ∨ Fl Bx Bm (X3_readAny_L9 F rc g (nI d) b (nI a3) τx) (X11_any_L9 F orc f τm) := by
  have e5 := E.2.2.2.2.1
  have hN := E.2.2.1.2.1
  have out : ∀ (i g f a3 : Nat) (om ox : List (Nat × Nat)) (b : Int32) (τx τm : Tau), lagA b om ox → XL y l N Bx i (encs ox) τx → ML y l Bm i d om τm → (encs om).length ≤ i → tk 0 y l i ≠ .wrd 5 → tk 0 y l i ≠ .wrd 4 → (∃ τx' τm' i' new, X3_readAny_L9 F rc (g + 1) (nI d) b (nI a3) τx = some (0, τx') ∧ X11_any_L9 F orc (f + 1) τm = some (1, τm') ∧ XL y l N Bx i' (encs (om ++ new)) τx' ∧ ML y l Bm i' d (om ++ new) τm' ∧ i + (encs new).length ≤ i' ∧ (∀ o ∈ new, okOp o) ∧ (∀ s : List Bool, s.length ≤ 2 * d → tyc new (true :: s) = some (true :: s))) := by
    intro i g f a3 om ox b τx τm hL h h' hc c5 c4
    have hiN := h.1.2.2.2.1
    obtain ⟨τ', t1, t2⟩ := lagA_up (F := F) hL h (by omega)
    have t3 := t2 (fun τ => some (0, τ))
    refine ⟨τ', τm, i, [], ?_, ?_, by rw [List.append_nil]; exact t1, by rw [List.append_nil]; exact h', Nat.le_refl _, fun o ho => absurd ho List.not_mem_nil, fun s _ => rfl⟩
    · have w4 : X6_isWord F 4 τx = some (0, τx) := (xs_isW (F := F) (u := 4) h.1 (by decide) (by decide)).2 c4
      have w5 : X6_isWord F 5 τx = some (0, τx) := (xs_isW (F := F) (u := 5) h.1 (by decide) (by decide)).2 c5
      have j103 : X3_readAny_j103 F rc b τx = some (0, τ') := t3
      unfold X3_readAny_L9
      by_cases c : (400 : Int32) ≤ nI a3
      · rw [if_pos c, j103]
      · rw [if_neg c, w4, cal_some, if_pos rfl, w5, cal_some, if_pos rfl, j103]
    · unfold X11_any_L9
      rw [ms_code h'.1, if_neg (show ¬ cM 0 (tk 0 y l i) = 4 from fun z => c4 ((cM_wd (v := 4) (by decide) tk_ok (by decide)).mp z))]
  intro q
  induction q with
  | zero =>
    intro i g f a3 om ox b τx τm hq hg hf ha3 hL h h' hc c5
    obtain ⟨f, rfl, -⟩ := fuel (show 0 < f by omega)
    obtain ⟨g, rfl, -⟩ := fuel (show 0 < g by omega)
    have hiN := h.1.2.2.2.1
    have ht : tk 0 y l i = .fin := by rw [show i = N from by omega]; exact tok_fin e5
    exact .inl (out i g f a3 om ox b τx τm hL h h' hc c5 (by rw [ht]; exact (nofun)))
  | succ q ih =>
    intro i g f a3 om ox b τx τm hq hg hf ha3 hL h h' hc c5
    obtain ⟨f, rfl, -⟩ := fuel (show 0 < f by omega)
    obtain ⟨g, rfl, -⟩ := fuel (show 0 < g by omega)
    by_cases c : tk 0 y l i = .wrd 4
    · have hiN := h.1.2.2.2.1
      have hlt := tk_N e5 hiN (by rw [c]; exact (nofun))
      have kk : nI a3 + 1 = nI (a3 + 1) := litA'
      obtain ⟨τ1, s1, s2⟩ := xl_skip (F := F) E h hlt
      obtain ⟨τ2, n1, n2⟩ := ml_next hF E h'
      obtain ⟨τ3, l1, l2⟩ := lagA_up (F := F) hL s2 (by omega)
      have w4 : X6_isWord F 4 τx = some (1, τx) := (xs_isW (F := F) (u := 4) h.1 (by decide) (by decide)).1 c
      have w5 : X6_isWord F 5 τx = some (0, τx) := (xs_isW (F := F) (u := 5) h.1 (by decide) (by decide)).2 c5
      have l3 := l2 (fun τ => X3_readAny_j73 F rc (X3_readAny_L9 F rc g) (nI d) b (nI a3) 0 τ)
      have eX : X3_readAny_L9 F rc (g + 1) (nI d) b (nI a3) τx = cal (X3_readCondition F rc (nI d) τ3) fun r13 τ14 => X3_readAny_L9 F rc g (nI d) 1 (nI (a3 + 1)) τ14 := by
        conv => lhs; unfold X3_readAny_L9
        unfold X3_readAny_j38
        rw [if_neg (show ¬ (400 : Int32) ≤ nI a3 from nI_ge (b := 400) (by omega) (by decide)), w4, cal_some, if_neg n10, w5, cal_some, s1, cal_some, if_pos rfl]
        refine l3.trans ?_
        unfold X3_readAny_j73 X3_readAny_j97
        rw [kk]
        rfl
      have eM : X11_any_L9 F orc (f + 1) τm = cal (X11_every F orc τ2) fun r5 τ6 => if r5 = 0 then (some (0, τ6)) else (cal (X11_lay F 32 0 τ6) fun r7 τ8 => X11_any_L9 F orc f τ8) := by
        conv => lhs; unfold X11_any_L9
        rw [ms_code h'.1, c, if_pos (show cM 0 (Tok.wrd 4) = 4 from rfl), n1, cal_some]
      rw [eX, eM]
      unfold X11_every
      rcases hT (i + 1) om τ3 τ2 l1 n2 (by omega) with ⟨τ5, τ4, i', new, u1, u2, u3, u4, u5, u6, u7⟩ | ⟨r, τ5, τ4, k, p, u1, u2, u3, u4⟩
      · have hi' := u3.1.2.2.2.1
        have en1 : (encs (om ++ new)).length = (encs om).length + (encs new).length := by rw [encs_app, List.length_append]
        rw [u1, cal_some, u2, cal_some, if_neg n10]
        rcases every_loop (b := 1) hF E hT N i' g F (a3 + 1) (om ++ new) τ5 τ4 (by omega) (by omega) (by omega) (by omega) u3 u4 (by omega) with ⟨τ6, τ7, i'', new', g', a3', x1, x2, x3, x4, x5, x6, x7, x8, x9, x10⟩ | ⟨r, τ6, τ7, k, p, x1, x2, x3, x4⟩
        · have hi'' := x3.1.2.2.2.1
          have en2 : (encs (om ++ new ++ new')).length = (encs om).length + (encs new).length + (encs new').length := by rw [encs_app, List.length_append, en1]
          have lo2 := encs_ge (om ++ new ++ new')
          obtain ⟨τ8, w1, w2⟩ := ml_lay (F := F) (32, 0) 0 x4 (by omega) (fun z => absurd z (by decide))
          have en3 : (encs (om ++ new ++ new' ++ [(32, 0)])).length = (encs om).length + (encs new).length + (encs new').length + 1 := by rw [encs_app, List.length_append, en2]; rfl
          rw [x1, x2, cal_some, if_neg n10, show X11_lay F 32 0 τ7 = _ from w1, cal_some]
          rcases ih i'' g' f a3' (om ++ new ++ new' ++ [(32, 0)]) (om ++ new ++ new') 1 τ6 τ8 (by omega) (by omega) (by omega) x8 (.inr ⟨rfl, rfl⟩) x3 w2 (by omega) x10 with ⟨τx', τm', i3, new3, z1, z2, z3, z4, z5, z6, z7⟩ | z
          · left
            have as : om ++ (new ++ new' ++ [(32, 0)] ++ new3) = om ++ new ++ new' ++ [(32, 0)] ++ new3 := by simp only [List.append_assoc]
            refine ⟨τx', τm', i3, new ++ new' ++ [(32, 0)] ++ new3, z1, z2, by rw [as]; exact z3, by rw [as]; exact z4, ?_, ?_, fun s hs => ?_⟩
            · rw [encs_app, encs_app, encs_app, List.length_append, List.length_append, List.length_append, encs_one]
              show i + ((encs new).length + (encs new').length + 1 + (encs new3).length) ≤ i3
              omega
            · intro o ho
              rcases List.mem_append.mp ho with ho | ho
              · rcases List.mem_append.mp ho with ho | ho
                · rcases List.mem_append.mp ho with ho | ho
                  · exact u6 o ho
                  · exact x6 o ho
                · rw [List.mem_singleton.mp ho]
                  exact ⟨.inr (by decide), fun z => absurd z (by decide), fun z => absurd z (by decide)⟩
              · exact z6 o ho
            · rw [tyc_append, tyc_append, tyc_append, u7 (true :: s) (by rw [List.length_cons]; omega), Option.bind_some, x7 (true :: s) (by rw [List.length_cons]; omega), Option.bind_some]
              exact z7 s hs
          · exact .inr z
        · right
          exact ⟨r, τ6, τ7, k, p, x1, by rw [x2, cal_some, if_pos rfl], x3, x4⟩
      · right
        obtain ⟨τ6, w1, w2⟩ := dl_anyL (g := g) (rc := rc) (a1 := nI d) (a2 := 1) (a3 := nI (a3 + 1)) (by omega) u3
        exact ⟨0, τ6, τ4, k, p, by rw [u1, cal_some, w1], by rw [u2, cal_some, if_pos rfl, cal_some, if_pos rfl], w2, u4⟩
    · exact .inl (out i g f a3 om ox b τx τm hL h h' hc c5 c)
theorem any_sim {F l N d i : Nat} {y : Nat → Nat} {Bx Bm τx τm : Tau} {ops : List (Nat × Nat)} {rc : Int32 → Tau → Option (Int32 × Tau)} {orc : Tau → Option (Int32 × Tau)} (hF : 5000 ≤ F) (E : EnvT 0 y l N Bx Bm) (hT : TestH F y l N Bx Bm d rc orc) (h : XL y l N Bx i (encs ops) τx) (h' : ML y l Bm i d ops τm) (hc : (encs ops).length ≤ i) :
    (∃ τx' τm' i' new, X3_readAny_B F rc (nI d) τx = some (0, τx') ∧ X11_any F orc τm = some (1, τm') ∧ XL y l N Bx i' (encs (ops ++ new)) τx' ∧ ML y l Bm i' d (ops ++ new) τm' ∧ i + (encs new).length ≤ i' ∧ (∀ o ∈ new, okOp o) ∧ tyB (2 * d) true new) ∨ Fl Bx Bm (X3_readAny_B F rc (nI d) τx) (X11_any F orc τm) := by
  have hN := E.2.2.1.2.1
  unfold X3_readAny_B X11_any X11_every
  rcases hT i ops τx τm h h' hc with ⟨τ5, τ4, i', new, u1, u2, u3, u4, u5, u6, u7⟩ | ⟨r, τ5, τ4, k, p, u1, u2, u3, u4⟩
  · have hi' := u3.1.2.2.2.1
    have en1 : (encs (ops ++ new)).length = (encs ops).length + (encs new).length := by rw [encs_app, List.length_append]
    rw [u1, cal_some, u2, cal_some, if_neg n10]
    rcases every_loop (b := 0) hF E hT N i' F F 0 (ops ++ new) τ5 τ4 (by omega) (by omega) (by omega) (by omega) u3 u4 (by omega) with ⟨τ6, τ7, i'', new', g', a3', x1, x2, x3, x4, x5, x6, x7, x8, x9, x10⟩ | ⟨r, τ6, τ7, k, p, x1, x2, x3, x4⟩
    · have hi'' := x3.1.2.2.2.1
      have en2 : (encs (ops ++ new ++ new')).length = (encs ops).length + (encs new).length + (encs new').length := by rw [encs_app, List.length_append, en1]
      rw [show X3_readAny_L9 F rc F (nI d) 0 0 τ5 = _ from x1, x2, cal_some, if_neg n10]
      rcases any_loop hF E hT N i'' g' F a3' (ops ++ new ++ new') (ops ++ new ++ new') 0 τ6 τ7 (by omega) (by omega) (by omega) x8 (.inl ⟨rfl, rfl⟩) x3 x4 (by omega) x10 with ⟨τx', τm', i3, new3, z1, z2, z3, z4, z5, z6, z7⟩ | z
      · left
        have as : ops ++ (new ++ new' ++ new3) = ops ++ new ++ new' ++ new3 := by simp only [List.append_assoc]
        refine ⟨τx', τm', i3, new ++ new' ++ new3, z1, z2, by rw [as]; exact z3, by rw [as]; exact z4, ?_, ?_, fun s hs => ?_⟩
        · rw [encs_app, encs_app, List.length_append, List.length_append]
          omega
        · intro o ho
          rcases List.mem_append.mp ho with ho | ho
          · rcases List.mem_append.mp ho with ho | ho
            · exact u6 o ho
            · exact x6 o ho
          · exact z6 o ho
        · rw [tyc_append, tyc_append, u7 s (by omega), Option.bind_some, x7 s (by omega), Option.bind_some]
          exact z7 s hs
      · exact .inr z
    · right
      exact ⟨r, τ6, τ7, k, p, x1, by rw [x2, cal_some, if_pos rfl], x3, x4⟩
  · right
    obtain ⟨τ6, w1, w2⟩ := dl_anyL (g := F) (rc := rc) (a1 := nI d) (a2 := 0) (a3 := 0) (by omega) u3
    exact ⟨0, τ6, τ4, k, p, by rw [u1, cal_some, w1], by rw [u2, cal_some, if_pos rfl, cal_some, if_pos rfl], w2, u4⟩
