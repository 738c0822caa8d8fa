/-! PURE PART. Texts: tokens settled; both readers at a token -/
def XT (a : Nat) (y : Nat → Nat) (l N : Nat) (τ : Tau) : Prop := τ 197 3 = nI (N + 1) ∧ N ≤ 400 ∧ ∀ j, j ≤ N → τ 199 j = kX (tokA a y l (pls y l j)) ∧ vXk (tokA a y l (pls y l j)) (τ 202 j) ∧ τ 200 j = nI (stt y l j)
/-- the class's token of now -/
def XC (a : Nat) (y : Nat → Nat) (l i : Nat) (τ : Tau) : Prop := τ 197 4 = nI i ∧ τ 197 5 = kX (tokA a y l (pls y l i)) ∧ vXk (tokA a y l (pls y l i)) (τ 197 6) ∧ τ 197 7 = nI (stt y l i)
theorem tok_at {a l j : Nat} {y : Nat → Nat} (h : stt y l j < l) : tokA a y l (pls y l j) = (if tkd (y (stt y l j)) = 1 then (if (lwL a).idxOf (wid y (stt y l j) (pls y l (j + 1))) < (lwL a).length then .wrd ((lwL a).idxOf (wid y (stt y l j) (pls y l (j + 1)))) else .unk)
     else if tkd (y (stt y l j)) = 2 then (if pls y l (j + 1) - stt y l j ≤ 4 then .num (nmV y (stt y l j) (pls y l (j + 1) - stt y l j)) else .unk)
     else if tkd (y (stt y l j)) = 3 then .sgn (y (stt y l j)) else .unk) := by
  unfold tokA
  exact if_pos h
theorem tok_fin {a l j : Nat} {y : Nat → Nat} (h : stt y l j = l) : tokA a y l (pls y l j) = .fin := by
  unfold tokA
  exact if_neg (show ¬ stt y l j < l by omega)
theorem skip_to {F a l N k : Nat} {y : Nat → Nat} {τ : Tau} (h0 : τ 197 1 = 0) (hT : XT a y l N τ) (hk : τ 197 4 + 1 = nI k) (hkN : k ≤ N) : ∃ τ', X6_skip F τ = some (0, τ') ∧ XC a y l k τ' ∧ ∀ c j, ¬ (c = 197 ∧ 4 ≤ j ∧ j ≤ 7) → τ' c j = τ c j := by
  obtain ⟨t1, t2, t3⟩ := hT
  obtain ⟨t4, t5, t6⟩ := t3 k hkN
  refine ⟨up (up (up (up τ 197 4 (nI k)) 197 5 (τ 199 k)) 197 6 (τ 202 k)) 197 7 (τ 200 k), ?_, ⟨?_, ?_, ?_, ?_⟩, fun c j hc => ?_⟩
  · unfold X6_skip
    rw [if_pos h0, t1, hk, if_neg (nI_ge (by omega) (by omega)), pst_eq, up_c, ald_nI (by omega) (by omega), up_nc (show (199 : Nat) ≠ 197 by decide), pst_eq, up_nj (show (4 : Nat) ≠ 5 by decide), up_c, ald_nI (by omega) (by omega), up_nc (show (202 : Nat) ≠ 197 by decide), up_nc (show (202 : Nat) ≠ 197 by decide), pst_eq, up_nj (show (4 : Nat) ≠ 6 by decide), up_nj (show (4 : Nat) ≠ 5 by decide), up_c, ald_nI (by omega) (by omega), up_nc (show (200 : Nat) ≠ 197 by decide), up_nc (show (200 : Nat) ≠ 197 by decide), up_nc (show (200 : Nat) ≠ 197 by decide), pst_eq]
  · rw [up_nj (by decide), up_nj (by decide), up_nj (by decide), up_c]
  · rw [up_nj (by decide), up_nj (by decide), up_c, t4]
  · rw [up_nj (by decide), up_c]; exact t5
  · rw [up_c, t6]
  · rw [up_if, if_neg (by omega), up_if, if_neg (by omega), up_if, if_neg (by omega), up_if, if_neg (by omega)]
theorem settle_X {F a l j : Nat} {y : Nat → Nat} {τ : Tau} (hF : 5000 ≤ F) (ha : a < 4) (hl : l ≤ 400) (hXY : XY y l τ) (hj : j < 400) (hs : stt y l j < l) (h1 : τ 199 j = nI (tkd (y (stt y l j)))) (h2 : τ 200 j = nI (stt y l j)) (h3 : τ 201 j = nI (pls y l (j + 1) - stt y l j)) : ∃ τ', X6_settle F (lsO a) (nI j) τ = some (0, τ') ∧ τ' 199 j = kX (tokA a y l (pls y l j)) ∧ vXk (tokA a y l (pls y l j)) (τ' 202 j) ∧ ∀ c i, ¬ ((c = 199 ∨ c = 202) ∧ i = j) → τ' c i = τ c i := by
  obtain ⟨p1, p2, p3, p4⟩ := stt_b (y := y) (l := l) (j := j)
  have p6 := pls_b (y := y) (l := l) (j + 1)
  have fr : ∀ (v w : Int32) c i, ¬ ((c = 199 ∨ c = 202) ∧ i = j) → up (up τ 202 j v) 199 j w c i = τ c i := fun v w c i hc => by rw [up_if, if_neg (by omega), up_if, if_neg (by omega)]
  rw [tok_at hs]
  unfold X6_settle X6_settle_j75 X6_settle_j121
  rw [ald_nI (by omega) (by omega), h1]
  by_cases c1 : tkd (y (stt y l j)) = 1
  · rw [if_pos c1, if_pos (by rw [c1]; rfl), ald_nI (by omega) (by omega), h2, ald_nI (by omega) (by omega), h3, word_X hF hXY hl p2 p6 ha, cal_some, ast_nI (by omega) (by omega), ald_nI (by omega) (by omega), up_c]
    by_cases c : (lwL a).idxOf (wid y (stt y l j) (pls y l (j + 1))) < (lwL a).length
    · have := (lwL_len a ha).1
      rw [if_pos c, if_pos c, if_neg (fun z => (nI_m1 (by omega)).mp z), ast_nI (by omega) (by omega)]
      exact ⟨_, rfl, by rw [up_c]; rfl, by rw [up_nc (by decide), up_c]; rfl, fr _ _⟩
    · rw [if_neg c, if_neg c, if_pos rfl, ast_nI (by omega) (by omega)]
      exact ⟨_, rfl, by rw [up_c]; rfl, trivial, fr _ _⟩
  · rw [if_neg c1, if_neg (fun z => c1 ((lit_eq (n := 1) (by decide) (by have := tkd_lt (b := y (stt y l j)); omega)).mp z))]
    by_cases c2 : tkd (y (stt y l j)) = 2
    · have hten : pls y l (j + 1) = trn y l 2 (stt y l j) := by
        show ten y l (pls y l j) = _
        unfold ten; exact (if_pos hs).trans ((if_neg c1).trans (if_pos c2))
      obtain ⟨-, -, r3, -⟩ := trn_b (y := y) (l := l) (k := 2) (l - stt y l j) (stt y l j) (by omega)
      rw [← hten] at r3
      rw [if_pos c2, if_pos (by rw [c2]; rfl), ald_nI (by omega) (by omega), h2, ald_nI (by omega) (by omega), h3, num_X hF hXY hl p2 p6 r3, cal_some, ast_nI (by omega) (by omega), ald_nI (by omega) (by omega), up_c]
      by_cases c : pls y l (j + 1) - stt y l j ≤ 4
      · have hlt := nmV_lt (a := 0) (l := 0) (y := y) (s := stt y l j) (pls y l (j + 1) - stt y l j) (fun i hi => tkd2.mp (r3 _ (by omega) (by omega)))
        have hp : 10 ^ (pls y l (j + 1) - stt y l j) ≤ 10 ^ 4 := Nat.pow_le_pow_right (by decide) c
        rw [if_pos c, if_pos c, if_neg (fun z => (nI_m1 (by omega)).mp z), ast_nI (by omega) (by omega)]
        exact ⟨_, rfl, by rw [up_c]; rfl, by rw [up_nc (by decide), up_c]; rfl, fr _ _⟩
      · rw [if_neg c, if_neg c, if_pos rfl, ast_nI (by omega) (by omega)]
        exact ⟨_, rfl, by rw [up_c]; rfl, trivial, fr _ _⟩
    · rw [if_neg c2, if_neg (fun z => c2 ((lit_eq (n := 2) (by decide) (by have := tkd_lt (b := y (stt y l j)); omega)).mp z)), ald_nI (by omega) (by omega), h2, sign_X hXY hl hs, cal_some, ast_nI (by omega) (by omega)]
      obtain ⟨b1, b2, b3, b4⟩ := trn_b (y := y) (l := l) (k := 0) (l - pls y l j) (pls y l j) (by have := pls_b (y := y) (l := l) j; omega)
      have hk0 : tkd (y (stt y l j)) ≠ 0 := b4 hs
      have hk5 := tkd_lt (b := y (stt y l j))
      refine ⟨_, rfl, ?_, ?_, fun c i hc => by rw [up_if, if_neg (by omega)]⟩
      · rw [up_nc (by decide), h1]
        by_cases c3 : tkd (y (stt y l j)) = 3
        · rw [if_pos c3, c3]; rfl
        · rw [if_neg c3, show tkd (y (stt y l j)) = 4 from by omega]; rfl
      · rw [up_c]
        by_cases c3 : tkd (y (stt y l j)) = 3
        · rw [if_pos c3]; rfl
        · rw [if_neg c3]; trivial
theorem scan_X {F a l : Nat} {y : Nat → Nat} {τ0 : Tau} (hF : 5000 ≤ F) (ha : a < 4) (hl : l ≤ 400) (hXY : XY y l τ0) : ∃ N τ', X6_scan F (lsO a) τ0 = some (0, τ') ∧ XT a y l N τ' ∧ XC a y l 0 τ' ∧ stt y l N = l ∧ (∀ j, j < N → stt y l j < l) ∧ τ' 197 1 = 0 ∧ τ' 197 2 = -1 ∧ ∀ c j, ¬ (c = 197 ∧ 1 ≤ j ∧ j ≤ 7) → ¬ (199 ≤ c ∧ c ≤ 202) → τ' c j = τ0 c j := by
  have h1 : SA y l 0 (up (up (up (up τ0 197 1 0) 197 2 (-1)) 197 3 0) 197 4 (-1)) (up (up (up (up τ0 197 1 0) 197 2 (-1)) 197 3 0) 197 4 (-1)) := ⟨by rw [up_nj (by decide), up_c]; rfl, fun j hj => absurd hj (by omega), fun _ _ _ _ => rfl⟩
  have hXY1 : XY y l (up (up (up (up τ0 197 1 0) 197 2 (-1)) 197 3 0) 197 4 (-1)) := hXY.congr (by rw [up_nj (by decide), up_nj (by decide), up_nj (by decide), up_nj (by decide)]) (fun j => by rw [up_nc (by decide), up_nc (by decide), up_nc (by decide), up_nc (by decide)])
  obtain ⟨N, τ1, t1, ⟨s1, s2, s3⟩, t3, t4, t5⟩ := scan_all (s1 := lsO a) hF hl hXY1 l 0 F 0 _ (by omega) (fun j hj => absurd hj (by omega)) h1 (fun _ h2 z => by
    have := tkd_lt (b := y (pls y l 0))
    have h3 := (nI_eq (a := 0) (by omega) (by omega)).mp z
    omega) (by omega)
  have hXY2 : XY y l τ1 := hXY1.congr (s3 _ _ (by decide) (by decide)) (fun j => s3 _ _ (by omega) (by omega))
  have key : ∀ (m i f : Nat) (τ : Tau), i + m = N → m < f → τ 197 3 = nI N → XY y l τ → (∀ j, j < i → τ 199 j = kX (tokA a y l (pls y l j)) ∧ vXk (tokA a y l (pls y l j)) (τ 202 j) ∧ τ 200 j = nI (stt y l j)) → (∀ j, i ≤ j → j < N → τ 199 j = nI (tkd (y (stt y l j))) ∧ τ 200 j = nI (stt y l j) ∧ τ 201 j = nI (pls y l (j + 1) - stt y l j)) → τ 197 1 = 0 → τ 197 4 = -1 → ∃ τ', X6_scan_L122 F (lsO a) f (nI i) τ = some (0, τ') ∧ XT a y l N τ' ∧ XC a y l 0 τ' ∧ ∀ c j, ¬ (c = 197 ∧ 3 ≤ j ∧ j ≤ 7) → ¬ (199 ≤ c ∧ c ≤ 202) → τ' c j = τ c j := by
    intro m
    induction m with
    | zero =>
      intro i f τ hi hf h3 hy hd hr h01 h04
      obtain ⟨g, rfl, -⟩ := fuel hf
      have hT : XT a y l N (addT τ N 5 l) := by
        unfold addT
        refine ⟨up_c, t3, fun j hj => ?_⟩
        by_cases e : j = N
        · rw [e, tok_fin t4]
          refine ⟨?_, trivial, ?_⟩
          · rw [up_nc (by decide), up_nc (by decide), up_nc (by decide), up_nc (by decide), up_c]; rfl
          · rw [up_nc (by decide), up_nc (by decide), up_nc (by decide), up_c, t4]
        · obtain ⟨d1, d2, d3⟩ := hd j (by omega)
          refine ⟨?_, ?_, ?_⟩
          · rw [up_nc (by decide), up_nc (by decide), up_nc (by decide), up_nc (by decide), up_nj (by omega), d1]
          · rw [up_nc (by decide), up_nj (by omega), up_nc (by decide), up_nc (by decide), up_nc (by decide)]; exact d2
          · rw [up_nc (by decide), up_nc (by decide), up_nc (by decide), up_nj (by omega), up_nc (by decide), d3]
      have hA : ∀ c j, ¬ (c = 197 ∧ j = 3) → ¬ (199 ≤ c ∧ c ≤ 202) → addT τ N 5 l c j = τ c j := by
        intro c j hc1 hc2
        unfold addT
        rw [up_if, if_neg hc1, up_nc (by omega), up_nc (by omega), up_nc (by omega), up_nc (by omega)]
      obtain ⟨τ', u1, u2, u3⟩ := skip_to (F := F) (k := 0) (τ := addT τ N 5 l) ((hA _ _ (by decide) (by decide)).trans h01) hT (by rw [hA _ _ (by decide) (by decide), h04]; decide) (Nat.zero_le _)
      refine ⟨τ', ?_, ?_, u2, fun c j hc1 hc2 => (u3 c j (by omega)).trans (hA c j (by omega) hc2)⟩
      · unfold X6_scan_L122
        rw [h3, if_pos (nI_le (by omega) (by omega)), hy.1, show X6_add F 5 (nI l) τ = some (0, addT τ N 5 l) from tadd_X (k := 5) h3 t3, cal_some, u1, cal_some]
      · obtain ⟨x1, x2, x3⟩ := hT
        exact ⟨(u3 _ _ (by omega)).trans x1, x2, fun j hj => by
          obtain ⟨x4, x5, x6⟩ := x3 j hj
          exact ⟨(u3 _ _ (by omega)).trans x4, by rw [u3 _ _ (by omega)]; exact x5, (u3 _ _ (by omega)).trans x6⟩⟩
    | succ m ih =>
      intro i f τ hi hf h3 hy hd hr h01 h04
      obtain ⟨g, rfl, -⟩ := fuel hf
      obtain ⟨r1, r2, r3⟩ := hr i (Nat.le_refl _) (by omega)
      have kk : nI i + 1 = nI (i + 1) := litA'
      obtain ⟨τ2, v1, v2, v3, v4⟩ := settle_X hF ha hl hy (by omega) (t5 i (by omega)) r1 r2 r3
      obtain ⟨τ', w1, w2, w3, w4⟩ := ih (i + 1) g τ2 (by omega) (by omega) ((v4 _ _ (by omega)).trans h3) (hy.congr (v4 _ _ (by omega)) (fun j => v4 _ _ (by omega))) (fun j hj => by
        by_cases e : j = i
        · rw [e]; exact ⟨v2, v3, (v4 _ _ (by omega)).trans r2⟩
        · obtain ⟨d1, d2, d3⟩ := hd j (by omega)
          exact ⟨(v4 _ _ (by omega)).trans d1, by rw [v4 _ _ (by omega)]; exact d2, (v4 _ _ (by omega)).trans d3⟩) (fun j h1 h2 => by
        obtain ⟨d1, d2, d3⟩ := hr j (by omega) h2
        exact ⟨(v4 _ _ (by omega)).trans d1, (v4 _ _ (by omega)).trans d2, (v4 _ _ (by omega)).trans d3⟩) ((v4 _ _ (by omega)).trans h01) ((v4 _ _ (by omega)).trans h04)
      refine ⟨τ', ?_, w2, w3, fun c j hc1 hc2 => (w4 c j hc1 hc2).trans (v4 c j (by omega))⟩
      unfold X6_scan_L122
      rw [h3, if_neg (nI_ge (by omega) (by omega)), v1, cal_some, kk, w1]
  have g1 : τ1 197 1 = 0 := (s3 _ _ (by decide) (by decide)).trans (by rw [up_nj (by decide), up_nj (by decide), up_nj (by decide), up_c])
  have g2 : τ1 197 2 = -1 := (s3 _ _ (by decide) (by decide)).trans (by rw [up_nj (by decide), up_nj (by decide), up_c])
  have g4 : τ1 197 4 = -1 := (s3 _ _ (by decide) (by decide)).trans (by rw [up_c])
  obtain ⟨τ', w1, w2, w3, w4⟩ := key N 0 F τ1 (by omega) (by omega) s1 hXY2 (fun j hj => absurd hj (by omega)) (fun j _ hj => s2 j hj) g1 g4
  refine ⟨N, τ', ?_, w2, w3, t4, t5, (w4 _ _ (by omega) (by omega)).trans g1, (w4 _ _ (by omega) (by omega)).trans g2, fun c j hc1 hc2 => (w4 c j (by omega) hc2).trans ((s3 c j (by omega) hc2).trans ?_)⟩
  · unfold X6_scan X6_clearFault
    rw [pst_eq, pst_eq, cal_some, pst_eq, pst_eq]
    exact t1.trans w1
  · rw [up_if, if_neg (by omega), up_if, if_neg (by omega), up_if, if_neg (by omega), up_if, if_neg (by omega)]
