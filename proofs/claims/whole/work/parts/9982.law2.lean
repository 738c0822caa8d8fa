/-! PURE PART. Texts: all lines of a law -/
theorem linM_13 {l i n n' : Nat} {y : Nat → Nat} {B τ : Tau} {ops : List (Nat × Nat)} (h : LinM y l B i n ops τ) : LinM y l B i n' ops (up τ 0 13 (nI n')) := by
  obtain ⟨y1, ⟨m1, m2, m3, m4⟩, y3, ⟨y4, y4'⟩, y5, y6⟩ := h
  refine ⟨?_, ⟨?_, ?_, ?_, fun n hn => ?_⟩, y3.congr (up_nj (by decide)) (up_nj (by decide)) (fun j => up_nc (by decide)), ⟨?_, fun j q hj => ?_⟩, up_c, fun c j hc => ?_⟩
  · rw [up_nj (by decide)]; exact y1
  · rw [up_nj (by decide)]; exact m1
  · rw [up_nj (by decide)]; exact m2
  · rw [up_nj (by decide)]; exact m3
  · rw [up_nj (by decide)]; exact m4 n hn
  · rw [up_nj (by decide)]; exact y4
  · rw [up_nc (by decide), up_nc (by decide)]; exact y4' j q hj
  · have hc2 := hc
    unfold gM at hc2
    rw [up_if, if_neg (by omega)]
    exact y6 c j hc
theorem xw_j45 {F k p : Nat} {B τ : Tau} (h : XW B k p τ) : X3_readLaw_j45 F τ = some (-1, τ) := by
  obtain ⟨h1, h2, -⟩ := h
  unfold X3_readLaw_j45
  rw [h2, if_neg (nI_ne0 h1.1 (by omega))]
theorem law_loopT {F l N : Nat} {y : Nat → Nat} {B0x B0m : Tau} (hF : 5000 ≤ F) (hl : l ≤ 400) (hsN : stt y l N = l) (hsl : ∀ j, j < N → stt y l j < l) : ∀ (q i n fX fM : Nat) (ops : List (Nat × Nat)) (τx τm : Tau), N - i ≤ q → N - i < fX → N - i < fM → LinX y l N B0x i n ops τx → LinM y l B0m i n ops τm → (encs ops).length ≤ i → n ≤ 16 → (∀ o ∈ ops, okOp o) → (∀ k, k < n → LinT ops k τx τm) →
    (∃ τx' τm' i' n' ops', X3_readLaw_L18 F fX (nI n) τx = some (nI n', τx') ∧ X11_readsLaw_L12 F fM 1 τm = some (1, τm') ∧ LinX y l N B0x i' n' ops' τx' ∧ LinM y l B0m i' n' ops' τm' ∧ (encs ops').length ≤ i' ∧ n' ≤ 16 ∧ (∀ o ∈ ops', okOp o) ∧ ∀ k, k < n' → LinT ops' k τx' τm') ∨
    (∃ τx' τm' k p, X3_readLaw_L18 F fX (nI n) τx = some (-1, τx') ∧ X11_readsLaw_L12 F fM 1 τm = some (0, τm') ∧ XW B0x k p τx' ∧ MW B0m k p τm') := by
  intro q
  induction q with
  | zero =>
    intro i n fX fM ops τx τm hq hfX hfM hX hM hc hn ho hT
    obtain ⟨gx, rfl, -⟩ := fuel (show 0 < fX by omega)
    obtain ⟨gm, rfl, -⟩ := fuel (show 0 < fM by omega)
    have hXS : XS 0 y l N τx i τx := ⟨hX.1, hX.2.1, hX.2.2.1, hX.2.2.2.1, fun _ _ _ => rfl⟩
    have hMS : MS 0 y l τm i τm := ⟨hM.1, hM.2.1, fun _ _ _ => rfl⟩
    have ht : tk 0 y l i = .fin := by rw [show i = N from by have := hX.2.2.2.1; omega]; exact tok_fin hsN
    left
    refine ⟨τx, τm, i, n, ops, ?_, ?_, hX, hM, hc, hn, ho, hT⟩
    · unfold X3_readLaw_L18 X3_readLaw_j45
      rw [if_neg (show ¬ (16 : Int32) < nI n from nI_nlt (a := 16) (by omega) (by decide)), (xs_goes (F := F) hXS).1 ht, cal_some, if_pos rfl, if_pos hX.1, hX.2.2.2.2.2.2.1]
    · unfold X11_readsLaw_L12
      rw [if_neg n10, ms_code hMS, ht, if_pos (show cM 0 Tok.fin = 0 from rfl), nar1]
  | succ q ih =>
    intro i n fX fM ops τx τm hq hfX hfM hX hM hc hn ho hT
    obtain ⟨gx, rfl, -⟩ := fuel (show 0 < fX by omega)
    obtain ⟨gm, rfl, -⟩ := fuel (show 0 < fM by omega)
    have hXS : XS 0 y l N τx i τx := ⟨hX.1, hX.2.1, hX.2.2.1, hX.2.2.2.1, fun _ _ _ => rfl⟩
    have hMS : MS 0 y l τm i τm := ⟨hM.1, hM.2.1, fun _ _ _ => rfl⟩
    by_cases ht : tk 0 y l i = .fin
    · left
      refine ⟨τx, τm, i, n, ops, ?_, ?_, hX, hM, hc, hn, ho, hT⟩
      · unfold X3_readLaw_L18 X3_readLaw_j45
        rw [if_neg (show ¬ (16 : Int32) < nI n from nI_nlt (a := 16) (by omega) (by decide)), (xs_goes (F := F) hXS).1 ht, cal_some, if_pos rfl, if_pos hX.1, hX.2.2.2.2.2.2.1]
      · unfold X11_readsLaw_L12
        rw [if_neg n10, ms_code hMS, ht, if_pos (show cM 0 Tok.fin = 0 from rfl), nar1]
    · have hlt := tk_N hsN hX.2.2.2.1 ht
      have kn : nI n + 1 = nI (n + 1) := litA'
      have eX : X3_readLaw_L18 F (gx + 1) (nI n) τx = cal (X3_readLawLine F (nI n) τx) fun r7 τ8 => X3_readLaw_L18 F gx (nI (n + 1)) τ8 := by
        conv => lhs; unfold X3_readLaw_L18
        rw [if_neg (show ¬ (16 : Int32) < nI n from nI_nlt (a := 16) (by omega) (by decide)), (xs_goes (F := F) hXS).2 ht, cal_some, if_neg n10, kn]
      have eM : X11_readsLaw_L12 F (gm + 1) 1 τm = cal (X11_aLine F τm) fun r3 τ4 => if r3 = 0 then (X11_readsLaw_j42 F (X11_readsLaw_L12 F gm) r3 0 (τ4 0 13) τ4) else (X11_readsLaw_j42 F (X11_readsLaw_L12 F gm) r3 1 (τ4 0 13) τ4) := by
        conv => lhs; unfold X11_readsLaw_L12
        rw [if_neg n10, ms_code hMS, if_neg (fun z => ht ((cM_fn (by decide) tk_ok).mp z))]
      rw [eX, eM]
      rcases line_sim hF hl hsN hsl hX hM hc hn hT with ⟨τx', τm', i', new, u1, u2, u3, u4, u5, u6, u7, u8, u9⟩ | ⟨τx', τm', k, p, u1, u2, u3, u4⟩
      · have en1 : (encs (ops ++ new)).length = (encs ops).length + (encs new).length := by rw [encs_app, List.length_append]
        have e2 : X11_readsLaw_j42 F (X11_readsLaw_L12 F gm) 1 1 (τm' 0 13) τm' = X11_readsLaw_L12 F gm 1 (up τm' 0 13 (nI (n + 1))) := by
          unfold X11_readsLaw_j42
          rw [u7.2.2.2.2.1, kn, pst_eq]
        rw [u1, cal_some, u2, cal_some, if_neg n10, e2]
        have hi' := u6.2.2.2.1
        exact ih i' (n + 1) gx gm (ops ++ new) τx' (up τm' 0 13 (nI (n + 1))) (by omega) (by omega) (by omega) u6 (linM_13 u7) (by omega) (by omega) (fun o h => (List.mem_append.mp h).elim (ho o) (u8 o)) (fun k hk => by
          have := (u9 k hk).more (new := []) (τx' := τx') (τm' := up τm' 0 13 (nI (n + 1))) (fun c _ _ => rfl) (fun j _ => up_nc (by decide))
          rw [List.append_nil] at this
          exact this)
      · right
        obtain ⟨gx, rfl, -⟩ := fuel (show 0 < gx by omega)
        obtain ⟨gm, rfl, -⟩ := fuel (show 0 < gm by omega)
        refine ⟨τx', up τm' 0 13 (τm' 0 13 + 0), k, p, ?_, ?_, u3, ⟨by rw [up_nj (by decide)]; exact u4.1, by rw [up_nj (by decide)]; exact u4.2.1, fun c j hc => ?_⟩⟩
        · rw [u1, cal_some]
          unfold X3_readLaw_L18
          by_cases c : (16 : Int32) < nI (n + 1)
          · rw [if_pos c, xw_j45 u3]
          · rw [if_neg c, show X6_goesOn F τx' = some (0, τx') from if_neg (by rw [u3.2.1]; exact nI_ne0 u3.1.1 (by have := u3.1.2; omega)), cal_some, if_pos rfl, xw_j45 u3]
        · rw [u2, cal_some, if_pos rfl]
          unfold X11_readsLaw_j42 X11_readsLaw_L12
          rw [pst_eq, if_pos rfl, nar0]
        · have hc2 := hc
          unfold gM at hc2
          rw [up_if, if_neg (by omega)]
          exact u4.2.2 c j hc
/-- the model before its first token, and at it -/
theorem start_M {F a l : Nat} {y : Nat → Nat} {B0 : Tau} (hF : 5000 ≤ F) (ha : a < 4) (hl : l ≤ 400) (h16 : B0 0 16 = nI l) (hy : ∀ i, i < l → y i < 256 ∧ B0 8 i = nI (y i)) : ∃ τ, X11_next0 F (up (up (up B0 0 21 0) 0 17 0) 0 12 (nI a)) = some (0, τ) ∧ MS a y l τ 0 τ ∧ MB a y l τ ∧ ∀ c j, ¬ gM c j → τ c j = B0 c j := by
  have hB : MB a y l (up (up (up B0 0 21 0) 0 17 0) 0 12 (nI a)) := ⟨by rw [up_nj (by decide), up_nj (by decide), up_nj (by decide)]; exact h16, up_c, fun i hi => ⟨(hy i hi).1, by rw [up_nc (by decide), up_nc (by decide), up_nc (by decide)]; exact (hy i hi).2⟩⟩
  obtain ⟨τ, t1, t2, t3⟩ := next_M (p := 0) hF ha hl (Nat.zero_le _) hB (by rw [up_nj (by decide), up_c]; rfl)
  refine ⟨τ, t1, ⟨?_, t2, fun _ _ _ => rfl⟩, hB.congr (t3 _ _ (by omega)) (t3 _ _ (by omega)) (fun j => t3 _ _ (by omega)), fun c j hc => ?_⟩
  · rw [t3 _ _ (by omega), up_nj (by decide), up_nj (by decide), up_c]
  · unfold gM at hc
    rw [t3 c j (by omega), up_if, if_neg (by omega), up_if, if_neg (by omega), up_if, if_neg (by omega)]
theorem law_read {F l : Nat} {y : Nat → Nat} {tx B0 τ : Tau} (hF : 5000 ≤ F) (hl : l ≤ 400) (hXY : XY y l tx) (h1 : MS 0 y l τ 0 τ) (h2 : MB 0 y l τ) (h3 : ∀ c j, ¬ gM c j → τ c j = B0 c j) :
    (∃ τx' τm' i' n' ops' N, X3_readLaw F tx = some (nI n', τx') ∧ X11_readsLaw F τ = some (1, τm') ∧ LinX y l N tx i' n' ops' τx' ∧ LinM y l B0 i' n' ops' τm' ∧ (encs ops').length ≤ 400 ∧ n' ≤ 16 ∧ (∀ o ∈ ops', okOp o) ∧ ∀ k, k < n' → LinT ops' k τx' τm') ∨
    (∃ τx' τm' k p, X3_readLaw F tx = some (-1, τx') ∧ X11_readsLaw F τ = some (0, τm') ∧ XW tx k p τx' ∧ MW B0 k p τm') := by
  obtain ⟨N, τ1, s1, s2, s3, s4, s5, s6, s7, s8⟩ := scan_X (a := 0) hF (by decide) hl hXY
  have hX : LinX y l N tx 0 0 [] (up (up τ1 203 0 0) 203 1 0) := by
    refine ⟨?_, ?_, ?_, Nat.zero_le _, s2.congr (up_nc (by decide)) (fun c j hc => ?_), ⟨up_c, fun j v hj => ?_⟩, ?_, fun c j hc => ?_⟩
    · rw [up_nc (by decide), up_nc (by decide)]; exact s6
    · rw [up_nc (by decide), up_nc (by decide)]; exact s7
    · exact s3
    · rw [up_nc (by omega), up_nc (by omega)]
    · exact absurd hj (by rw [List.getElem?_eq_none (Nat.zero_le _)]; exact (nofun))
    · rw [up_nj (by decide), up_c]; rfl
    · unfold gX at hc
      rw [up_nc (by omega), up_nc (by omega)]
      exact s8 c j (by omega) (by omega)
  have hM : LinM y l B0 0 0 [] (up (up τ 0 13 0) 0 14 0) := by
    obtain ⟨g1, ⟨m1, m2, m3, m4⟩, -⟩ := h1
    refine ⟨?_, ⟨?_, ?_, ?_, fun n hn => ?_⟩, h2.congr ?_ ?_ (fun j => ?_), ⟨up_c, fun j q hj => ?_⟩, ?_, fun c j hc => ?_⟩
    · rw [up_nj (by decide), up_nj (by decide)]; exact g1
    · rw [up_nj (by decide), up_nj (by decide)]; exact m1
    · rw [up_nj (by decide), up_nj (by decide)]; exact m2
    · rw [up_nj (by decide), up_nj (by decide)]; exact m3
    · rw [up_nj (by decide), up_nj (by decide)]; exact m4 n hn
    · rw [up_nj (by decide), up_nj (by decide)]
    · rw [up_nj (by decide), up_nj (by decide)]
    · rw [up_nc (by decide), up_nc (by decide)]
    · exact absurd hj (by rw [List.getElem?_eq_none (Nat.zero_le _)]; exact (nofun))
    · rw [up_nj (by decide), up_c]; rfl
    · have hc2 := hc
      unfold gM at hc2
      rw [up_if, if_neg (by omega), up_if, if_neg (by omega)]
      exact h3 c j hc
  have hN := s2.2.1
  have eX : X3_readLaw F tx = X3_readLaw_L18 F F (nI 0) (up (up τ1 203 0 0) 203 1 0) := by
    unfold X3_readLaw X2_clear
    rw [show X6_scan F 0 tx = _ from s1, cal_some, pst_eq, pst_eq, cal_some]
    rfl
  have eM : X11_readsLaw F τ = X11_readsLaw_L12 F F 1 (up (up τ 0 13 0) 0 14 0) := by
    unfold X11_readsLaw
    rw [pst_eq, pst_eq]
  rw [eX, eM]
  rcases law_loopT hF hl s4 s5 N 0 0 F F [] _ _ (by omega) (by omega) (by omega) hX hM (Nat.le_refl _) (by decide) (fun o h => absurd h List.not_mem_nil) (fun k hk => absurd hk (Nat.not_lt_zero k)) with ⟨τx', τm', i', n', ops', u1, u2, u3, u4, u5, u6⟩ | u
  · left
    have := u3.2.2.2.1
    exact ⟨τx', τm', i', n', ops', N, u1, u2, u3, u4, by omega, u6⟩
  · exact .inr u
/-! the model keeps a law -/
theorem puts_14 {F n : Nat} (hF : 5000 ≤ F) (hn : n ≤ 16) : ∀ (m i f : Nat) (τ : Tau), i + m = n → m < f → τ 0 13 = nI n → ∃ τ', X11_putsLaw_L14 F f (nI i) τ = X11_putsLaw_L108 F F 0 τ' ∧ (∀ k, i ≤ k → k < n → τ' 1 (1360 + k) = τ 5 (4 * k) ∧ τ' 1 (1376 + k) = τ 5 (4 * k + 1) ∧ τ' 1 (1392 + k) = τ 5 (4 * k + 2) ∧ τ' 1 (1408 + k) = τ 5 (4 * k + 3)) ∧ ∀ c j, ¬ (c = 1 ∧ 1360 ≤ j ∧ j < 1424 ∧ i ≤ (j - 1360) % 16) → τ' c j = τ c j := by
  intro m
  induction m with
  | zero =>
    intro i f τ hi hf h
    obtain ⟨g, rfl, -⟩ := fuel hf
    refine ⟨τ, ?_, fun k h1 h2 => absurd h1 (by omega), fun _ _ _ => rfl⟩
    conv => lhs; unfold X11_putsLaw_L14
    rw [h, if_pos (nI_le (by omega) (by omega))]
  | succ m ih =>
    intro i f τ hi hf h
    obtain ⟨g, rfl, -⟩ := fuel hf
    have k4 : (4 : Int32) * nI i = nI (4 * i) := litM
    have k41 : nI (4 * i) + 1 = nI (4 * i + 1) := litA'
    have k42 : nI (4 * i) + 2 = nI (4 * i + 2) := litA'
    have k43 : nI (4 * i) + 3 = nI (4 * i + 3) := litA'
    have q0 : (1360 : Int32) + nI i = nI (1360 + i) := litA
    have q1 : (1376 : Int32) + nI i = nI (1376 + i) := litA
    have q2 : (1392 : Int32) + nI i = nI (1392 + i) := litA
    have q3 : (1408 : Int32) + nI i = nI (1408 + i) := litA
    have ki : nI i + 1 = nI (i + 1) := litA'
    obtain ⟨τ', t1, t2, t3⟩ := ih (i + 1) g (up (up (up (up τ 1 (1360 + i) (τ 5 (4 * i))) 1 (1376 + i) (τ 5 (4 * i + 1))) 1 (1392 + i) (τ 5 (4 * i + 2))) 1 (1408 + i) (τ 5 (4 * i + 3))) (by omega) (by omega) (by rw [up_nc (by decide), up_nc (by decide), up_nc (by decide), up_nc (by decide)]; exact h)
    refine ⟨τ', ?_, fun k h1 h2 => ?_, fun c j hc => ?_⟩
    · conv => lhs; unfold X11_putsLaw_L14
      rw [h, if_neg (nI_ge (by omega) (by omega)), k4, ald_nI (by omega) (by omega), q0, ast_nI (by omega) (by omega), k41, ald_nI (by omega) (by omega), up_nc (show (5 : Nat) ≠ 1 by decide), q1, ast_nI (by omega) (by omega), k42, ald_nI (by omega) (by omega), up_nc (show (5 : Nat) ≠ 1 by decide), up_nc (show (5 : Nat) ≠ 1 by decide), q2, ast_nI (by omega) (by omega), k43, ald_nI (by omega) (by omega), up_nc (show (5 : Nat) ≠ 1 by decide), up_nc (show (5 : Nat) ≠ 1 by decide), up_nc (show (5 : Nat) ≠ 1 by decide), q3, ast_nI (by omega) (by omega), ki, t1]
    · by_cases e : k = i
      · rw [e]
        refine ⟨?_, ?_, ?_, ?_⟩
        · rw [t3 _ _ (by omega), up_nj (by omega), up_nj (by omega), up_nj (by omega), up_c]
        · rw [t3 _ _ (by omega), up_nj (by omega), up_nj (by omega), up_c]
        · rw [t3 _ _ (by omega), up_nj (by omega), up_c]
        · rw [t3 _ _ (by omega), up_c]
      · obtain ⟨v1, v2, v3, v4⟩ := t2 k (by omega) h2
        have e5 : ∀ j, up (up (up (up τ 1 (1360 + i) (τ 5 (4 * i))) 1 (1376 + i) (τ 5 (4 * i + 1))) 1 (1392 + i) (τ 5 (4 * i + 2))) 1 (1408 + i) (τ 5 (4 * i + 3)) 5 j = τ 5 j := fun j => by rw [up_nc (by decide), up_nc (by decide), up_nc (by decide), up_nc (by decide)]
        rw [e5] at v1 v2 v3 v4
        exact ⟨v1, v2, v3, v4⟩
    · rw [t3 c j (by omega), up_if, if_neg (by omega), up_if, if_neg (by omega), up_if, if_neg (by omega), up_if, if_neg (by omega)]
theorem puts_108 {F L : Nat} (hL : L ≤ 400) : ∀ (m i f : Nat) (τ : Tau), i + m = 2 * L → m < f → τ 0 14 = nI L → ∃ τ', X11_putsLaw_L108 F f (nI i) τ = some (τ 0 13, τ') ∧ (∀ k, i ≤ k → k < 2 * L → τ' 1 (1424 + k) = τ 6 k) ∧ ∀ c j, ¬ (c = 1 ∧ 1424 + i ≤ j ∧ j < 2244) → τ' c j = τ c j := by
  intro m
  induction m with
  | zero =>
    intro i f τ hi hf h
    obtain ⟨g, rfl, -⟩ := fuel hf
    have k2 : (2 : Int32) * nI L = nI (2 * L) := litM
    refine ⟨τ, ?_, fun k h1 h2 => absurd h1 (by omega), fun _ _ _ => rfl⟩
    unfold X11_putsLaw_L108
    rw [h, k2, if_pos (nI_le (by omega) (by omega))]
  | succ m ih =>
    intro i f τ hi hf h
    obtain ⟨g, rfl, -⟩ := fuel hf
    have k2 : (2 : Int32) * nI L = nI (2 * L) := litM
    have q0 : (1424 : Int32) + nI i = nI (1424 + i) := litA
    have ki : nI i + 1 = nI (i + 1) := litA'
    obtain ⟨τ', t1, t2, t3⟩ := ih (i + 1) g (up τ 1 (1424 + i) (τ 6 i)) (by omega) (by omega) (by rw [up_nc (by decide)]; exact h)
    refine ⟨τ', ?_, fun k h1 h2 => ?_, fun c j hc => ?_⟩
    · unfold X11_putsLaw_L108
      rw [h, k2, if_neg (nI_ge (by omega) (by omega)), ald_nI (by omega) (by omega), q0, ast_nI (by omega) (by omega), ki, t1, up_nc (by decide)]
    · by_cases e : k = i
      · rw [e, t3 _ _ (by omega), up_c]
      · rw [t2 k (by omega) h2, up_nc (by decide)]
    · rw [t3 c j (by omega), up_if, if_neg (by omega)]
