/-! PURE PART. Texts: a row of wants -/
def cntN (c : Nat → Int32) : Nat → Nat → Nat
  | 0, _ => 0
  | n + 1, p => if p = ix (c (8 * n)) then ix (c (8 * n + 1)) else cntN c n p
def valN (c : Nat → Int32) : Nat → Nat → Nat → Int32
  | 0, _, _ => 0
  | n + 1, p, j => if p = ix (c (8 * n)) then c (8 * n + 2 + j) else valN c n p j
theorem cntN_congr {c c' : Nat → Int32} : ∀ n p, (∀ j, j < 8 * n → c' j = c j) → cntN c' n p = cntN c n p := by
  intro n
  induction n with
  | zero => exact fun _ _ => rfl
  | succ n ih =>
    intro p h
    rw [show cntN c' (n + 1) p = if p = ix (c' (8 * n)) then ix (c' (8 * n + 1)) else cntN c' n p from rfl, h _ (by omega), h _ (by omega), ih p (fun j hj => h j (by omega))]
    rfl
theorem valN_congr {c c' : Nat → Int32} : ∀ n p j, j < 6 → (∀ j, j < 8 * n → c' j = c j) → valN c' n p j = valN c n p j := by
  intro n
  induction n with
  | zero => exact fun _ _ _ _ => rfl
  | succ n ih =>
    intro p j hj h
    rw [show valN c' (n + 1) p j = if p = ix (c' (8 * n)) then c' (8 * n + 2 + j) else valN c' n p j from rfl, h _ (by omega), h _ (by omega), ih p j hj (fun j hj => h j (by omega))]
    rfl
def I3 (nP n : Nat) (cx cm : Nat → Int32) : Prop := (∀ r, r < n → ∃ p q, p < nP ∧ q ≤ 6 ∧ cx (8 * r) = nI p ∧ cx (8 * r + 1) = nI q) ∧ ∀ p, p < 10 → cntN cx n p ≤ 6 ∧ cm (7 * p) = nI (cntN cx n p) ∧ ∀ j, j < cntN cx n p → cm (7 * p + 1 + j) = valN cx n p j
theorem I3.snoc {nP n p q : Nat} {cx cm cx' cm' : Nat → Int32} (hnP : nP ≤ 10) (h : I3 nP n cx cm) (hp : p < nP) (hq : q ≤ 6) (e : ∀ j, j < 8 * n → cx' j = cx j) (e0 : cx' (8 * n) = nI p) (e1 : cx' (8 * n + 1) = nI q) (em0 : cm' (7 * p) = nI q) (emv : ∀ j, j < q → cm' (7 * p + 1 + j) = cx' (8 * n + 2 + j)) (emo : ∀ k, k < 70 → ¬ (7 * p ≤ k ∧ k < 7 * p + 7) → cm' k = cm k) : I3 nP (n + 1) cx' cm' := by
  obtain ⟨h1, h2⟩ := h
  refine ⟨fun r hr => ?_, fun p' hp' => ?_⟩
  · by_cases c : r = n
    · rw [c]; exact ⟨p, q, hp, hq, e0, e1⟩
    · obtain ⟨p', q', a1, a2, a3, a4⟩ := h1 r (by omega)
      exact ⟨p', q', a1, a2, (e _ (by omega)).trans a3, (e _ (by omega)).trans a4⟩
  · have hc : cntN cx' (n + 1) p' = if p' = p then q else cntN cx n p' := by
      rw [show cntN cx' (n + 1) p' = if p' = ix (cx' (8 * n)) then ix (cx' (8 * n + 1)) else cntN cx' n p' from rfl, e0, e1, ix_nI (by omega), ix_nI (by omega), cntN_congr n p' e]
    have hv : ∀ j, j < 6 → valN cx' (n + 1) p' j = if p' = p then cx' (8 * n + 2 + j) else valN cx n p' j := fun j hj => by
      rw [show valN cx' (n + 1) p' j = if p' = ix (cx' (8 * n)) then cx' (8 * n + 2 + j) else valN cx' n p' j from rfl, e0, ix_nI (by omega), valN_congr n p' j hj e]
    rw [hc]
    by_cases c : p' = p
    · rw [if_pos c, c]
      exact ⟨hq, em0, fun j hj => by rw [← c, hv j (by omega), if_pos c, c]; exact emv j hj⟩
    · rw [if_neg c]
      obtain ⟨b1, b2, b3⟩ := h2 p' hp'
      exact ⟨b1, by rw [emo _ (by omega) (by omega)]; exact b2, fun j hj => by rw [hv j (by omega), if_neg c, emo _ (by omega) (by omega)]; exact b3 j hj⟩
theorem dt_j135 {F k p n : Nat} {Bx τ : Tau} {v : Int32} (hn : n < 16) (h : XD Bx k p τ) : ∃ r τ'', X3_readWants_j135 F 2 (nI (8 * n)) v τ = some (r, τ'') ∧ XD Bx k p τ'' := by
  have k81 : nI (8 * n) + 1 = nI (8 * n + 1) := litA'
  unfold X3_readWants_j135
  rw [k81]
  exact dt_put (by omega) h fun τ' h => ⟨0, τ', rfl, h⟩
theorem dt_L37 {F k p n g q : Nat} {Bx τ : Tau} {v : Int32} (hn : n < 16) (hg : 0 < g) (hq : 1 ≤ q ∧ q ≤ 7) (h : XD Bx k p τ) : ∃ r τ'', X3_readWants_L37 F 2 g (nI (8 * n)) v (nI q) τ = some (r, τ'') ∧ XD Bx k p τ'' := by
  obtain ⟨g, rfl, -⟩ := fuel hg
  unfold X3_readWants_L37
  by_cases c : (6 : Int32) < nI q
  · rw [if_pos c]; exact dt_j135 hn h
  · rw [if_neg c, if_neg (nI_ne0 (by omega) (by omega)), xd_num h, cal_some, if_pos rfl]
    exact dt_j135 hn h
theorem dt_122 {F k p n g q : Nat} {Bx τ : Tau} {v r : Int32} (hn : n < 16) (hg : 0 < g) (hq : q < 6) (h : XD Bx k p τ) : ∃ r' τ'', X3_readWants_j122 F (X3_readWants_L37 F 2 g) 2 (nI (8 * n)) v (nI q) 1 r (nI (8 * n + 2 + q)) τ = some (r', τ'') ∧ XD Bx k p τ'' := by
  have kq : nI q + 1 = nI (q + 1) := litA'
  unfold X3_readWants_j122
  rw [kq]
  refine dt_put (by omega) h fun τ' h => ?_
  exact dt_L37 hn hg (by omega) h
theorem want_loop {F l N n p : Nat} {y : Nat → Nat} {Bx Bm : Tau} (hF : 5000 ≤ F) (E : EnvT 3 y l N Bx Bm) (hn : n < 16) (hp : p < 10) : ∀ (m k i g f : Nat) (τx τm : Tau), k + m = 6 → 1 ≤ k → m + 1 < g → m < f → XS 3 y l N Bx i τx → MS 3 y l Bm i τm →
    (∃ τx' τm' i' q, X3_readWants_L37 F 2 g (nI (8 * n)) (nI k) (nI k) τx = some (0, τx') ∧ X11_aWant_L70 F f (nI (7 * p)) (nI k) τm = some (1, τm') ∧ XS 3 y l N Bx i' τx' ∧ MS 3 y l Bm i' τm' ∧ i ≤ i' ∧ k ≤ q ∧ q ≤ 6 ∧ τx' 210 (8 * n + 1) = nI q ∧ τm' 7 (7 * p) = nI q ∧ (∀ j, k ≤ j → j < q → τm' 7 (7 * p + 1 + j) = τx' 210 (8 * n + 2 + j)) ∧ (∀ j, j < 8 * n + 2 + k → j ≠ 8 * n + 1 → τx' 210 j = τx 210 j) ∧ ∀ j, j ≠ 7 * p → ¬ (7 * p + 1 + k ≤ j ∧ j < 7 * p + 7) → τm' 7 j = τm 7 j) ∨
    Fr Bx Bm (X3_readWants_L37 F 2 g (nI (8 * n)) (nI k) (nI k) τx) (X11_aWant_L70 F f (nI (7 * p)) (nI k) τm) := by
  have k81 : nI (8 * n) + 1 = nI (8 * n + 1) := litA'
  have k82 : nI (8 * n) + 2 = nI (8 * n + 2) := litA'
  have stop : ∀ (k i g f : Nat) (τx τm : Tau), k ≤ 6 → 1 ≤ k → XS 3 y l N Bx i τx → MS 3 y l Bm i τm → (∀ v, tk 3 y l i ≠ .num v) → (∃ τx' τm' i' q, X3_readWants_L37 F 2 (g + 1) (nI (8 * n)) (nI k) (nI k) τx = some (0, τx') ∧ X11_aWant_L70 F (f + 1) (nI (7 * p)) (nI k) τm = some (1, τm') ∧ XS 3 y l N Bx i' τx' ∧ MS 3 y l Bm i' τm' ∧ i ≤ i' ∧ k ≤ q ∧ q ≤ 6 ∧ τx' 210 (8 * n + 1) = nI q ∧ τm' 7 (7 * p) = nI q ∧ (∀ j, k ≤ j → j < q → τm' 7 (7 * p + 1 + j) = τx' 210 (8 * n + 2 + j)) ∧ (∀ j, j < 8 * n + 2 + k → j ≠ 8 * n + 1 → τx' 210 j = τx 210 j) ∧ ∀ j, j ≠ 7 * p → ¬ (7 * p + 1 + k ≤ j ∧ j < 7 * p + 7) → τm' 7 j = τm 7 j) := by
    intro k i g f τx τm hk1 hk h h' hnn
    refine ⟨up τx 210 (8 * n + 1) (nI k), up τm 7 (7 * p) (nI k), i, k, ?_, ?_, xs_put h, ms_put h', Nat.le_refl _, Nat.le_refl _, hk1, up_c, up_c, fun j h1 h2 => absurd h1 (by omega), fun j _ hj => up_nj hj, fun j hj _ => up_nj hj⟩
    · unfold X3_readWants_L37 X3_readWants_j135
      rcases xs_num (F := F) h with ⟨v, hv, -⟩ | ⟨-, q1⟩
      · exact absurd hv (hnn v)
      · rw [if_neg (show ¬ (6 : Int32) < nI k from nI_nlt (a := 6) (by omega) (by decide)), if_neg (nI_ne0 (by omega) (by omega)), q1, cal_some, if_pos rfl, k81, put_X (by omega), cal_some]
    · unfold X11_aWant_L70
      rw [ms_code h', if_neg (fun z => by
        obtain ⟨v, hv⟩ := (cM_nm E.1 tk_ok).mp z
        exact hnn v hv), ast_nI (by omega) (by omega)]
  intro m
  induction m with
  | zero =>
    intro k i g f τx τm hk hk1 hg hf h h'
    obtain ⟨g, rfl, -⟩ := fuel (show 0 < g by omega)
    obtain ⟨f, rfl, -⟩ := fuel (show 0 < f by omega)
    obtain rfl : k = 6 := by omega
    by_cases c : ∃ v, tk 3 y l i = .num v
    · right
      obtain ⟨v, hv⟩ := c
      rcases xs_num (F := F) h with ⟨v', hv', q1, q2⟩ | ⟨hno, -⟩
      · have e := Tok.num_inj (hv.symm.trans hv')
        rw [← e] at q2
        have eX0 : X3_readWants_L37 F 2 (g + 1) (nI (8 * n)) (nI 6) (nI 6) τx = (if bI ((0 : Int32) ≤ nI v ∧ nI v ≤ 15) = 0 then (X3_readWants_j90 F (X3_readWants_L37 F 2 g) 2 (nI (8 * n)) (nI 6) (nI 6) τx) else (cal (X6_refuse F 3 τx) fun r17 τ18 => X3_readWants_j90 F (X3_readWants_L37 F 2 g) 2 (nI (8 * n)) (nI 6) (nI 6) τ18)) := by
          conv => lhs; unfold X3_readWants_L37
          unfold X3_readWants_j59
          rw [if_neg (by decide), if_neg (by decide), q1, cal_some, if_neg n10, if_pos (show nI 6 = 6 from rfl), q2, cal_some, X10_within_eq, cal_some]
        have tail : ∀ (r : Int32) (τ : Tau) (k' q : Nat), XD Bx k' q τ → ∃ r' τ'', (if (6 : Int32) ≤ nI 6 then (X3_readWants_j122 F (X3_readWants_L37 F 2 g) 2 (nI (8 * n)) (nI 6) (nI 6) 0 r ((nI (8 * n) + 2) + nI 6) τ) else (X3_readWants_j122 F (X3_readWants_L37 F 2 g) 2 (nI (8 * n)) (nI 6) (nI 6) 1 r ((nI (8 * n) + 2) + nI 6) τ)) = some (r', τ'') ∧ XD Bx k' q τ'' := by
          intro r τ k' q hd
          unfold X3_readWants_j122
          rw [if_pos (by decide), X10_put_0, cal_some]
          exact dt_L37 (q := 7) hn (by omega) (by omega) hd
        have eM0 : X11_aWant_L70 F (f + 1) (nI (7 * p)) (nI 6) τm = (if bI ((0 : Int32) ≤ nI v ∧ nI v ≤ 15) = 0 then (cal (X11_bad F 2 τm) fun r11 τ12 => some (vp_nar .boolean r11, τ12)) else (cal (X11_bad F 3 τm) fun r13 τ14 => some (vp_nar .boolean r13, τ14))) := by
          conv => lhs; unfold X11_aWant_L70
          rw [ms_code h', hv, if_pos (show cM 3 (Tok.num v) = 2 from rfl), ms_num h' hv, X11_isIn_eq, cal_some, if_pos (show nI 6 = 6 from rfl)]
        rw [eX0, eM0]
        by_cases cr : (0 : Int32) ≤ nI v ∧ nI v ≤ 15
        · obtain ⟨τ1, t1, t2, t3⟩ := xs_ref (F := F) (k := 3) h (by decide)
          obtain ⟨τ2, u1, u2⟩ := ms_bad (F := F) (k := 3) h'
          obtain ⟨r', τ3, z1, z2⟩ := tail 0 τ1 3 (stt y l i) t2
          rw [bI_t cr, if_neg n10, if_neg n10, show X6_refuse F 3 τx = _ from t1, cal_some, show X11_bad F 3 τm = _ from u1, cal_some, nar0]
          unfold X3_readWants_j90
          rw [xd_takeN t2, cal_some, z1]
          exact ⟨r', τ3, τ2, 3, _, rfl, rfl, z2, u2⟩
        · obtain ⟨τ1, t1, t2, t3⟩ := (takeN_no (F := F) (lo := 0) (hi := 15) h).2 v hv cr
          obtain ⟨τ2, u1, u2⟩ := ms_bad (F := F) (k := 2) h'
          obtain ⟨r', τ3, z1, z2⟩ := tail (nI v) τ1 2 (stt y l i) t2
          rw [bI_f cr, if_pos rfl, if_pos rfl, show X11_bad F 2 τm = _ from u1, cal_some, nar0]
          unfold X3_readWants_j90
          rw [t1, cal_some, z1]
          exact ⟨r', τ3, τ2, 2, _, rfl, rfl, z2, u2⟩
      · exact absurd hv (hno v)
    · exact .inl (stop 6 i g f τx τm (by decide) (by decide) h h' (fun v hv => c ⟨v, hv⟩))
  | succ m ih =>
    intro k i g f τx τm hk hk1 hg hf h h'
    obtain ⟨g, rfl, -⟩ := fuel (show 0 < g by omega)
    obtain ⟨f, rfl, -⟩ := fuel (show 0 < f by omega)
    by_cases c : ∃ v, tk 3 y l i = .num v
    · obtain ⟨v, hv⟩ := c
      have kk : nI k + 1 = nI (k + 1) := litA'
      have k8k : nI (8 * n) + 2 + nI k = nI (8 * n + 2 + k) := by rw [k82, nI_add]
      have k7k : nI (7 * p) + nI (k + 1) = nI (7 * p + (k + 1)) := nI_add _ _
      rcases xs_num (F := F) h with ⟨v', hv', q1, q2⟩ | ⟨hno, -⟩
      · have eX0 : X3_readWants_L37 F 2 (g + 1) (nI (8 * n)) (nI k) (nI k) τx = cal (X6_takeNumber F 0 15 τx) fun r13 τ14 => X3_readWants_j122 F (X3_readWants_L37 F 2 g) 2 (nI (8 * n)) (nI k) (nI k) 1 r13 (nI (8 * n + 2 + k)) τ14 := by
          conv => lhs; unfold X3_readWants_L37
          unfold X3_readWants_j59 X3_readWants_j90
          rw [if_neg (show ¬ (6 : Int32) < nI k from nI_nlt (a := 6) (by omega) (by decide)), if_neg (nI_ne0 (by omega) (by omega)), q1, cal_some, if_neg n10, if_neg (show ¬ nI k = 6 by rw [lit_eq (by decide) (by omega)]; omega), k8k]
          congr 1
          funext r13 τ14
          rw [if_neg (show ¬ (6 : Int32) ≤ nI k from nI_ge (b := 6) (by omega) (by decide))]
        have eM0 : X11_aWant_L70 F (f + 1) (nI (7 * p)) (nI k) τm = (if bI ((0 : Int32) ≤ nI v ∧ nI v ≤ 15) = 0 then (cal (X11_bad F 2 τm) fun r11 τ12 => some (vp_nar .boolean r11, τ12)) else (cal (X11_number F (nI (7 * p + (k + 1))) 0 15 τm) fun r15 τ16 => if r15 = 0 then (some (0, τ16)) else (X11_aWant_L70 F f (nI (7 * p)) (nI (k + 1)) τ16))) := by
          conv => lhs; unfold X11_aWant_L70
          rw [ms_code h', hv, if_pos (show cM 3 (Tok.num v) = 2 from rfl), ms_num h' hv, X11_isIn_eq, cal_some, if_neg (show ¬ nI k = 6 by rw [lit_eq (by decide) (by omega)]; omega), kk, k7k]
        rw [eX0, eM0]
        by_cases cr : (0 : Int32) ≤ nI v ∧ nI v ≤ 15
        · rw [bI_t cr, if_neg n10]
          rcases num_sim (j := 7 * p + (k + 1)) (lo := 0) (hi := 15) hF E h h' (by omega) with ⟨τ2, τ3, w, a1, a2, a3, a4, a5, a6, a7, a8⟩ | ⟨τ2, τ3, r, k', q, a1, a2, a3, a4⟩
          · rw [a1, cal_some, a2, cal_some, if_neg n10]
            unfold X3_readWants_j122
            rw [kk, put_X (by omega), cal_some]
            rcases ih (k + 1) (i + 1) g f (up τ2 210 (8 * n + 2 + k) (nI w)) τ3 (by omega) (by omega) (by omega) (by omega) (xs_put a3) a4 with ⟨τx', τm', i', q, z1, z2, z3, z4, z5, z6, z7, z8, z9, z10, z11, z12⟩ | z
            · left
              refine ⟨τx', τm', i', q, z1, z2, z3, z4, by omega, by omega, z7, z8, z9, fun j h1 h2 => ?_, fun j h1 h2 => ?_, fun j h1 h2 => ?_⟩
              · by_cases e : j = k
                · rw [e, z12 _ (by omega) (by omega), a8 7 _ (by omega), z11 _ (by omega) (by omega), up_c, show 7 * p + 1 + k = 7 * p + (k + 1) from by omega, up_c]
                · exact z10 j (by omega) h2
              · rw [z11 j (by omega) h2, up_nj (by omega), a7 _ _ (by decide)]
              · rw [z12 j h1 (by omega), a8 7 _ (by omega), up_nj (by omega)]
            · exact .inr z
          · right
            obtain ⟨r', τ4, z1, z2⟩ := dt_122 (F := F) (g := g) (v := nI k) (r := r) (q := k) hn (by omega) (by omega) a3
            rw [a1, cal_some, z1, a2, cal_some, if_pos rfl]
            exact ⟨r', τ4, τ3, k', q, rfl, rfl, z2, a4⟩
        · right
          obtain ⟨τ1, t1, t2, t3⟩ := (takeN_no (F := F) (lo := 0) (hi := 15) h).2 v hv cr
          obtain ⟨τ2, u1, u2⟩ := ms_bad (F := F) (k := 2) h'
          obtain ⟨r', τ4, z1, z2⟩ := dt_122 (F := F) (g := g) (v := nI k) (r := nI v) (q := k) hn (by omega) (by omega) t2
          rw [bI_f cr, if_pos rfl, show X11_bad F 2 τm = _ from u1, cal_some, nar0, t1, cal_some, z1]
          exact ⟨r', τ4, τ2, 2, _, rfl, rfl, z2, u2⟩
      · exact absurd hv (hno v)
    · exact .inl (stop k i g f τx τm (by omega) hk1 h h' (fun v hv => c ⟨v, hv⟩))
theorem body3 {F l N i n nP nM : Nat} {y : Nat → Nat} {Bx Bm τx τm : Tau} (hF : 5000 ≤ F) (E : EnvT 3 y l N Bx Bm) (hT : twn nP nM Bx Bm) (hnP : nP ≤ 10) (hn : n < 16) (h : XS 3 y l N Bx (i + 1) τx) (h' : MS 3 y l Bm i τm) (hw : tk 3 y l i = .wrd 0) (hI : I3 nP n (τx 210) (τm 7)) :
    Ok 3 y l N Bx Bm i (I3 nP (n + 1)) (cal (X3_readWants F 2 (8 * nI n) τx) fun r7 τ8 => X3_readRow_j89 F 2 τ8) (X11_aRow F τm) ∨ Fr Bx Bm (cal (X3_readWants F 2 (8 * nI n) τx) fun r7 τ8 => X3_readRow_j89 F 2 τ8) (X11_aRow F τm) := by
  have k8 : (8 : Int32) * nI n = nI (8 * n) := litM
  have k82 : nI (8 * n) + 2 + 0 = nI (8 * n + 2 + 0) := by
    rw [show nI (8 * n) + 2 = nI (8 * n + 2) from litA']
    exact nI_add _ 0
  obtain ⟨g, hg, -⟩ := fuel (show 4999 < F by omega)
  obtain ⟨τ1, n1, n2, n3⟩ := need_M (u := 0) hF E h' hw
  have hx1 := (twn_X hT h).1
  have hm1 := (twn_M hT h').1
  have eL : ∀ τ, X3_readWants_L37 F 2 F (nI (8 * n)) 0 0 τ = cal (X6_takeNumber F 0 15 τ) fun r13 τ14 => X3_readWants_j122 F (X3_readWants_L37 F 2 g) 2 (nI (8 * n)) 0 0 1 r13 (nI (8 * n + 2 + 0)) τ14 := by
    intro τ
    conv => lhs; arg 3; rw [hg]
    conv => lhs; unfold X3_readWants_L37
    unfold X3_readWants_j59 X3_readWants_j90
    rw [if_neg (by decide), if_pos rfl, if_neg (by decide), k82]
    congr 1
  have dL : ∀ τ k p, XD Bx k p τ → ∃ r τ'', X3_readWants_L37 F 2 F (nI (8 * n)) 0 0 τ = some (r, τ'') ∧ XD Bx k p τ'' := by
    intro τ k p hd
    rw [eL]
    exact dt_num hd fun τ' h => dt_122 (q := 0) hn (by omega) (by decide) h
  unfold X11_aRow
  rw [ms_12 E h', if_neg (by decide), if_neg (by decide)]
  unfold X3_readWants X11_aWant X11_told
  rw [ald_lit (by decide) (by decide), hm1, show X11_need F 8 τm = _ from n1, cal_some, if_neg n10, hx1, k8]
  rcases num_sim (j := 130) (lo := 0) (hi := nI nP - 1) hF E h n2 (by decide) with ⟨τ2, τ3, p, a1, a2, a3, a4, a5, a6, a7, a8⟩ | ⟨τ2, τ3, r, k, q, a1, a2, a3, a4⟩
  · have hp := below (by omega) a5 a6
    rw [a1, cal_some, put_X (by omega), cal_some, show X11_number F 130 0 (nI nP - 1) τ1 = _ from a2, cal_some, if_neg n10, cal_some, if_neg n10]
    rcases word_sim (u := 1) hF E (xs_put (j := 8 * n) (v := nI p) a3) a4 (by decide) with ⟨τ4, τ5, b1, b2, b3, b4, b5, b6⟩ | ⟨τ4, τ5, k, q, b1, b2, b3, b4⟩
    · rw [show X6_takeWord F 1 (up τ2 210 (8 * n) (nI p)) = _ from b1, cal_some, show X11_need F 15 τ3 = _ from b2, cal_some, if_neg n10, eL]
      rcases num_sim (j := 131) (lo := 0) (hi := 15) hF E b3 b4 (by decide) with ⟨τ6, τ7, v, c1, c2, c3, c4, c5, c6, c7, c8⟩ | ⟨τ6, τ7, r, k, q, c1, c2, c3, c4⟩
      · have g7 : ∀ k, τ7 7 k = up τ5 7 131 (nI v) 7 k := fun k => c8 7 k (by omega)
        have g5 : ∀ k, τ5 7 k = up τ1 7 130 (nI p) 7 k := fun k => (b6 7 k (by omega)).trans (a8 7 k (by omega))
        have g1 : ∀ k, τ1 7 k = τm 7 k := fun k => n3 7 k (by omega)
        have v0 : τ7 7 130 = nI p := by rw [g7, up_nj (by decide), g5, up_c]
        have v1 : τ7 7 131 = nI v := by rw [g7, up_c]
        have k7 : (7 : Int32) * nI p = nI (7 * p) := litM
        have k71 : nI (7 * p) + 1 = nI (7 * p + 1) := litA'
        unfold X3_readWants_j122
        rw [c1, cal_some, put_X (by omega), cal_some, show X11_number F 131 0 15 τ5 = _ from c2, cal_some, if_neg n10, cal_some, if_neg n10, ald_lit (by decide) (by decide), ald_lit (by decide) (by decide), v0, v1, k7, k71, ast_nI (by omega) (by omega)]
        rcases want_loop hF E hn (show p < 10 by omega) 5 1 (i + 1 + 1 + 1 + 1) g F (up τ6 210 (8 * n + 2 + 0) (nI v)) (up τ7 7 (7 * p + 1) (nI v)) (by decide) (by decide) (by omega) (by omega) (xs_put c3) (ms_put c4) with ⟨τx', τm', i', q, z1, z2, z3, z4, z5, z6, z7, z8, z9, z10, z11, z12⟩ | ⟨r, τx', τm', k, q, z1, z2, z3, z4⟩
        · rw [show X3_readWants_L37 F 2 g (nI (8 * n)) (0 + 1) (0 + 1) (up τ6 210 (8 * n + 2 + 0) (nI v)) = _ from z1, cal_some, show X11_aWant_L70 F F (nI (7 * p)) 1 (up τ7 7 (7 * p + 1) (nI v)) = _ from z2, cal_some, if_neg n10]
          refine row_end hF E z3 z4 (by omega) (hI.snoc (p := p) (q := q) hnP hp z7 (fun j hj => ?_) ?_ z8 z9 (fun j hj => ?_) (fun k hk hk2 => ?_))
          · rw [z11 j (by omega) (by omega), up_nj (by omega), c7 _ _ (by decide), b5 _ _ (by decide), up_nj (by omega), a7 _ _ (by decide)]
          · rw [z11 _ (by omega) (by omega), up_nj (by omega), c7 _ _ (by decide), b5 _ _ (by decide), up_c]
          · by_cases e : j = 0
            · rw [e, z12 _ (by omega) (by omega), z11 _ (by omega) (by omega), up_c, up_c]
            · exact z10 j (by omega) hj
          · rw [z12 k (by omega) (by omega), up_nj (by omega), g7, up_nj (by omega), g5, up_nj (by omega), g1]
        · right
          rw [show X3_readWants_L37 F 2 g (nI (8 * n)) (0 + 1) (0 + 1) (up τ6 210 (8 * n + 2 + 0) (nI v)) = _ from z1, cal_some, show X11_aWant_L70 F F (nI (7 * p)) 1 (up τ7 7 (7 * p + 1) (nI v)) = _ from z2, cal_some, if_pos rfl]
          exact ⟨0, τx', τm', k, q, xd_j89 z3, rfl, z3, z4⟩
      · right
        obtain ⟨r', τ', z1, z2⟩ := dt_122 (F := F) (g := g) (v := 0) (r := r) (q := 0) hn (by omega) (by decide) c3
        rw [c1, cal_some, show X3_readWants_j122 F (X3_readWants_L37 F 2 g) 2 (nI (8 * n)) 0 0 1 r (nI (8 * n + 2 + 0)) τ6 = _ from z1, cal_some, show X11_number F 131 0 15 τ5 = _ from c2, cal_some, if_pos rfl, cal_some, if_pos rfl, cal_some, if_pos rfl]
        exact ⟨0, τ', τ7, k, q, xd_j89 z2, rfl, z2, c4⟩
    · right
      obtain ⟨r', τ', z1, z2⟩ := dL _ _ _ b3
      rw [show X6_takeWord F 1 (up τ2 210 (8 * n) (nI p)) = _ from b1, cal_some, z1, cal_some, show X11_need F 15 τ3 = _ from b2, cal_some, if_pos rfl, cal_some, if_pos rfl, cal_some, if_pos rfl]
      exact ⟨0, τ', τ5, k, q, xd_j89 z2, rfl, z2, b4⟩
  · right
    have hd := xd_put (j := 8 * n) (v := r) a3
    obtain ⟨r', τ', z1, z2⟩ := dL _ _ _ hd
    rw [a1, cal_some, put_X (by omega), cal_some, xd_takeW hd, cal_some, z1, cal_some, show X11_number F 130 0 (nI nP - 1) τ1 = _ from a2, cal_some, if_pos rfl, cal_some, if_pos rfl, cal_some, if_pos rfl]
    exact ⟨0, τ', τ3, k, q, xd_j89 z2, rfl, z2, a4⟩
