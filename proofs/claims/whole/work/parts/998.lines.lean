/-! PURE PART. Texts: a line of a law -/
def gX (c j : Nat) : Prop := (c = 197 ∧ j ≠ 0) ∨ (199 ≤ c ∧ c ≤ 208) ∨ c = 210
def gM (c j : Nat) : Prop := (c = 0 ∧ ((12 ≤ j ∧ j ≤ 22 ∧ j ≠ 16) ∨ j = 24)) ∨ c = 5 ∨ c = 6 ∨ c = 7
def LinX (y : Nat → Nat) (l N : Nat) (B : Tau) (i n : Nat) (ops : List (Nat × Nat)) (τ : Tau) : Prop := τ 197 1 = 0 ∧ τ 197 2 = -1 ∧ XC 0 y l i τ ∧ i ≤ N ∧ XT 0 y l N τ ∧ CXc (encs ops) τ ∧ τ 203 0 = nI n ∧ ∀ c j, ¬ gX c j → τ c j = B c j
def LinM (y : Nat → Nat) (l : Nat) (B : Tau) (i n : Nat) (ops : List (Nat × Nat)) (τ : Tau) : Prop := τ 0 21 = 0 ∧ MT 0 y l (pls y l i) τ ∧ MB 0 y l τ ∧ CMc ops τ ∧ τ 0 13 = nI n ∧ ∀ c j, ¬ gM c j → τ c j = B c j
def LinT (ops : List (Nat × Nat)) (k : Nat) (τx τm : Tau) : Prop := ∃ wd a m z, wd < 3 ∧ a ≤ m ∧ m ≤ z ∧ z ≤ ops.length ∧ τm 5 (4 * k) = nI a ∧ τm 5 (4 * k + 1) = nI m ∧ τm 5 (4 * k + 2) = nI z ∧ τm 5 (4 * k + 3) = nI (20 + wd) ∧
  τx 204 k = nI wd ∧ τx 205 k = nI (encs (ops.take a)).length ∧ τx 206 k = (if m = z then -1 else nI (encs (ops.take m)).length) ∧ τx 207 k = nI (encs (ops.take z)).length ∧ tyc ((ops.take m).drop a) [] = some [false] ∧ (m < z → tyc ((ops.take z).drop m) [] = some [true])
def XW (B : Tau) (k p : Nat) (τ : Tau) : Prop := (0 < k ∧ k < 4) ∧ τ 197 1 = nI k ∧ τ 197 2 = nI p ∧ ∀ c j, ¬ gX c j → τ c j = B c j
def MW (B : Tau) (k p : Nat) (τ : Tau) : Prop := τ 0 21 = nI k ∧ τ 0 22 = nI p ∧ ∀ c j, ¬ gM c j → τ c j = B c j
theorem LinT.more {ops new : List (Nat × Nat)} {k : Nat} {τx τm τx' τm' : Tau} (h : LinT ops k τx τm) (h1 : ∀ c, 204 ≤ c → c ≤ 207 → τx' c k = τx c k) (h2 : ∀ j, j < 4 → τm' 5 (4 * k + j) = τm 5 (4 * k + j)) : LinT (ops ++ new) k τx' τm' := by
  obtain ⟨wd, a, m, z, b1, b2, b3, b4, b5, b6, b7, b8, b9, b10, b11, b12, b13, b14⟩ := h
  have e : ∀ q, q ≤ ops.length → (ops ++ new).take q = ops.take q := fun q hq => List.take_append_of_le_length hq
  refine ⟨wd, a, m, z, b1, b2, b3, by rw [List.length_append]; omega, (h2 0 (by decide)).trans b5, (h2 1 (by decide)).trans b6, (h2 2 (by decide)).trans b7, (h2 3 (by decide)).trans b8, (h1 204 (by decide) (by decide)).trans b9, ?_, ?_, ?_, ?_, fun q => ?_⟩
  · rw [e a (by omega)]; exact (h1 205 (by decide) (by decide)).trans b10
  · rw [e m (by omega)]; exact (h1 206 (by decide) (by decide)).trans b11
  · rw [e z (by omega)]; exact (h1 207 (by decide) (by decide)).trans b12
  · rw [e m (by omega)]; exact b13
  · rw [e z (by omega)]; exact b14 q
theorem line_add {F n : Nat} {τ : Tau} {v1 v2 v3 : Int32} (h : τ 203 0 = nI n) (hn : n < 16) : X2_addLine F 203 v1 v2 v3 τ = some (0, up (up (up (up (up τ 204 n v1) 205 n v2) 206 n v3) 207 n (τ 203 1)) 203 0 (nI (n + 1))) := by
  have kk : nI n + 1 = nI (n + 1) := litA'
  unfold X2_addLine
  rw [h, if_neg (show ¬ (16 : Int32) ≤ nI n from nI_ge (b := 16) (by omega) (by decide)), ast_nI (by omega) (by omega), up_nc (show (203 : Nat) ≠ 203 + 1 by decide), h, ast_nI (by omega) (by omega), up_nc (show (203 : Nat) ≠ 203 + 2 by decide), up_nc (show (203 : Nat) ≠ 203 + 1 by decide), h, ast_nI (by omega) (by omega)]
  have e1 : ∀ j, up (up (up τ (203 + 1) n v1) (203 + 2) n v2) (203 + 3) n v3 203 j = τ 203 j := fun j => by rw [up_nc (by decide), up_nc (by decide), up_nc (by decide)]
  rw [e1, e1, h, ast_nI (by omega) (by omega), pst_eq]
  have e2 : ∀ v, up (up (up (up τ (203 + 1) n v1) (203 + 2) n v2) (203 + 3) n v3) (203 + 4) n v 203 0 = nI n := fun v => by rw [up_nc (by decide), e1, h]
  rw [e2, kk]
theorem dl_line {F k p n : Nat} {B τ : Tau} {v1 v2 v3 : Int32} (hD : DL B k p τ) (h : B 203 0 = nI n) (hn : n < 16) : ∃ τ', X3_readLawLine_j99 F v1 v2 v3 τ = some (0, τ') ∧ τ' 197 1 = nI k ∧ τ' 197 2 = nI p ∧ ∀ c j, ¬ gX c j → τ' c j = B c j := by
  obtain ⟨⟨h1, h2, h3, h4⟩, h5⟩ := hD
  have h0 : τ 203 0 = nI n := (h4 _ _ (by unfold frX; omega)).trans h
  unfold X3_readLawLine_j99
  rw [xd_takeS ⟨h1, h2, h3, h4⟩ (by decide), cal_some, line_add h0 hn, cal_some]
  refine ⟨_, rfl, ?_, ?_, fun c j hc => ?_⟩
  · rw [up_nc (by decide), up_nc (by decide), up_nc (by decide), up_nc (by decide), up_nc (by decide)]; exact h2
  · rw [up_nc (by decide), up_nc (by decide), up_nc (by decide), up_nc (by decide), up_nc (by decide)]; exact h3
  · unfold gX at hc
    rw [up_nc (by omega), up_nc (by omega), up_nc (by omega), up_nc (by omega), up_nc (by omega)]
    exact h4 c j (by unfold frX; omega)
theorem ml_5 {l i d j : Nat} {y : Nat → Nat} {B τ : Tau} {v : Int32} {ops : List (Nat × Nat)} (h : ML y l B i d ops τ) : ML y l (up B 5 j v) i d ops (up τ 5 j v) := by
  obtain ⟨⟨g1, ⟨m1, m2, m3, m4⟩, g5⟩, hd, h2, h3⟩ := h
  refine ⟨⟨?_, ⟨?_, ?_, ?_, fun n hn => ?_⟩, fun c j' hc' => ?_⟩, ?_, ?_, fun j' q hj => ?_⟩
  · rw [up_nc (by decide)]; exact g1
  · rw [up_nc (by decide)]; exact m1
  · rw [up_nc (by decide)]; exact m2
  · rw [up_nc (by decide)]; exact m3
  · rw [up_nc (by decide)]; exact m4 n hn
  · rw [up_if, up_if]
    split
    · rfl
    · exact g5 c j' hc'
  · rw [up_nc (by decide)]; exact hd
  · rw [up_nc (by decide)]; exact h2
  · rw [up_nc (by decide), up_nc (by decide)]; exact h3 j' q hj
theorem env_5 {a l N j : Nat} {y : Nat → Nat} {Bx Bm : Tau} {v : Int32} (E : EnvT a y l N Bx Bm) : EnvT a y l N Bx (up Bm 5 j v) := by
  obtain ⟨e1, e2, e3, e4, e5, e6⟩ := E
  exact ⟨e1, e2, e3, e4.congr (up_nc (by decide)) (up_nc (by decide)) (fun j => up_nc (by decide)), e5, e6⟩
theorem ml_d0 {l i : Nat} {y : Nat → Nat} {B τ : Tau} {ops : List (Nat × Nat)} (h : MS 0 y l B i τ) (hc : CMc ops τ) : ML y l B i 0 ops (up τ 0 24 0) := by
  obtain ⟨g1, ⟨m1, m2, m3, m4⟩, g5⟩ := h
  obtain ⟨h2, h3⟩ := hc
  refine ⟨⟨?_, ⟨?_, ?_, ?_, fun n hn => ?_⟩, fun c j' hc' => ?_⟩, up_c, ?_, fun j' q hj => ?_⟩
  · rw [up_nj (by decide)]; exact g1
  · rw [up_nj (by decide)]; exact m1
  · rw [up_nj (by decide)]; exact m2
  · rw [up_nj (by decide)]; exact m3
  · rw [up_nj (by decide)]; exact m4 n hn
  · have hc2 := hc'
    unfold frM at hc2
    rw [up_if, if_neg (by omega)]
    exact g5 c j' hc'
  · rw [up_nj (by decide)]; exact h2
  · rw [up_nc (by decide), up_nc (by decide)]; exact h3 j' q hj
/-- the end of a line: the sign, and the row laid -/
theorem line_end {F l N i i1 n wd a m : Nat} {y : Nat → Nat} {B0x B0m τx τm B τ1 τ2 : Tau} {ops ops' : List (Nat × Nat)} {v3 : Int32} (hF : 5000 ≤ F) (E : EnvT 0 y l N τx B) (hX : LinX y l N B0x i n ops τx) (hM : LinM y l B0m i n ops τm) (hn : n < 16) (hwd : wd < 3) (ham : a ≤ m) (hmz : m ≤ ops'.length)
    (hB : ∀ c j, ¬ (c = 5 ∧ 4 * n ≤ j ∧ j < 4 * n + 4) → B c j = τm c j) (hB0 : B 5 (4 * n) = nI a) (hB1 : B 5 (4 * n + 1) = nI m) (hB3 : B 5 (4 * n + 3) = nI (20 + wd)) (h1 : XL y l N τx i1 (encs ops') τ1) (h2 : ML y l B i1 0 ops' τ2) (hc : (encs ops').length ≤ i1) (hv3 : v3 = if m = ops'.length then -1 else nI (encs (ops'.take m)).length) (hty : tyc ((ops'.take m).drop a) [] = some [false]) (hty2 : m < ops'.length → tyc (ops'.drop m) [] = some [true]) :
    (∃ τx' τm', X3_readLawLine_j99 F (nI wd) (nI (encs (ops'.take a)).length) v3 τ1 = some (0, τx') ∧ X11_aLine_j123 F τ2 = some (1, τm') ∧ LinX y l N B0x (i1 + 1) (n + 1) ops' τx' ∧ LinM y l B0m (i1 + 1) n ops' τm' ∧ LinT ops' n τx' τm' ∧ (∀ c k, 204 ≤ c → c ≤ 207 → k ≠ n → τx' c k = τx c k) ∧ ∀ j, ¬ (4 * n ≤ j ∧ j < 4 * n + 4) → τm' 5 j = τm 5 j) ∨
    (∃ τx' τm' k p, X3_readLawLine_j99 F (nI wd) (nI (encs (ops'.take a)).length) v3 τ1 = some (0, τx') ∧ X11_aLine_j123 F τ2 = some (0, τm') ∧ XW B0x k p τx' ∧ MW B0m k p τm') := by
  have e5 := E.2.2.2.2.1
  have hN := E.2.2.1.2.1
  have hi1 := h1.1.2.2.2.1
  obtain ⟨x1, x2, x3, x4, x5, x6, x7, x8⟩ := hX
  obtain ⟨y1, y2, y3, y4, y5, y6⟩ := hM
  have tko := tk_ok (a := 0) (y := y) (l := l) (i := i1)
  have hge := encs_ge ops'
  have b13 : τ2 0 13 = nI n := (h2.1.2.2 _ _ (by unfold frM; omega)).trans ((hB _ _ (by omega)).trans y5)
  have k4 : (4 : Int32) * nI n = nI (4 * n) := litM
  have k42 : nI (4 * n) + 2 = nI (4 * n + 2) := litA'
  have E' : EnvT 0 y l N τx (up B 5 (4 * n + 2) (nI ops'.length)) := env_5 E
  have h2' : ML y l (up B 5 (4 * n + 2) (nI ops'.length)) i1 0 ops' (up τ2 5 (4 * n + 2) (nI ops'.length)) := ml_5 h2
  have frB : ∀ c j, ¬ gM c j → up B 5 (4 * n + 2) (nI ops'.length) c j = B0m c j := fun c j hc => by
    have hc2 := hc
    unfold gM at hc2
    rw [up_nc (by omega), hB c j (by omega)]
    exact y6 c j hc
  have eM : X11_aLine_j123 F τ2 = cal (X11_need F 159 (up τ2 5 (4 * n + 2) (nI ops'.length))) fun r20 τ21 => some (vp_nar .boolean r20, τ21) := by
    unfold X11_aLine_j123
    rw [b13, k4, k42, h2.2.2.1, ast_nI (by omega) (by omega)]
  rw [eM]
  unfold X11_need
  rw [ms_code h2'.1]
  by_cases c59 : tk 0 y l i1 = .sgn 59
  · left
    have hlt := tk_N e5 hi1 (by rw [c59]; exact (nofun))
    obtain ⟨τ3, s1, s2⟩ := xl_skip (F := F) E h1 hlt
    obtain ⟨τ4, n1, n2⟩ := ml_next hF E' h2'
    have fr3 := s2.1.2.2.2.2
    have b0 : τ3 203 0 = nI n := (fr3 _ _ (by unfold frX; omega)).trans x7
    have q5 : ∀ j, τ4 5 j = up B 5 (4 * n + 2) (nI ops'.length) 5 j := fun j => n2.1.2.2 5 j (by unfold frM; omega)
    refine ⟨up (up (up (up (up τ3 204 n (nI wd)) 205 n (nI (encs (ops'.take a)).length)) 206 n v3) 207 n (τ3 203 1)) 203 0 (nI (n + 1)), τ4, ?_, ?_, ⟨?_, ?_, ?_, s2.1.2.2.2.1, ?_, ⟨?_, fun j v hj => ?_⟩, up_c, fun c j hc => ?_⟩, ⟨n2.1.1, n2.1.2.1, ?_, n2.2.2, ?_, fun c j hc => ?_⟩, ?_, fun c k hc1 hc2 hk => ?_, fun j hj => ?_⟩
    · unfold X3_readLawLine_j99 X6_takeSign
      rw [xs_sign h1.1, cal_some, if_pos (show sgv (tk 0 y l i1) = 59 by rw [c59]; rfl), s1, cal_some, cal_some, line_add b0 hn, cal_some]
    · rw [c59, if_pos (show cM 0 (Tok.sgn 59) = 159 from rfl), n1, cal_some, cal_some, nar1]
    · rw [up_nc (by decide), up_nc (by decide), up_nc (by decide), up_nc (by decide), up_nc (by decide)]; exact s2.1.1
    · rw [up_nc (by decide), up_nc (by decide), up_nc (by decide), up_nc (by decide), up_nc (by decide)]; exact s2.1.2.1
    · unfold XC
      rw [up_nc (by decide), up_nc (by decide), up_nc (by decide), up_nc (by decide), up_nc (by decide), up_nc (by decide), up_nc (by decide), up_nc (by decide), up_nc (by decide), up_nc (by decide), up_nc (by decide), up_nc (by decide), up_nc (by decide), up_nc (by decide), up_nc (by decide), up_nc (by decide), up_nc (by decide), up_nc (by decide), up_nc (by decide), up_nc (by decide)]
      exact s2.1.2.2.1
    · refine x5.congr ?_ (fun c j hc => ?_)
      · rw [up_nc (by decide), up_nc (by decide), up_nc (by decide), up_nc (by decide), up_nc (by decide)]
        exact fr3 _ _ (by unfold frX; omega)
      · rw [up_nc (by omega), up_nc (by omega), up_nc (by omega), up_nc (by omega), up_nc (by omega)]
        exact fr3 _ _ (by unfold frX; omega)
    · rw [up_nj (by decide), up_nc (by decide), up_nc (by decide), up_nc (by decide), up_nc (by decide)]
      exact s2.2.1
    · rw [up_nc (by decide), up_nc (by decide), up_nc (by decide), up_nc (by decide), up_nc (by decide)]
      exact s2.2.2 j v hj
    · have hc2 := hc
      unfold gX at hc2
      rw [up_nc (by omega), up_nc (by omega), up_nc (by omega), up_nc (by omega), up_nc (by omega)]
      exact (fr3 c j (by unfold frX; omega)).trans (x8 c j hc)
    · refine y3.congr ?_ ?_ (fun j => ?_)
      · rw [n2.1.2.2 _ _ (by unfold frM; omega), up_nc (by decide), hB _ _ (by omega)]
      · rw [n2.1.2.2 _ _ (by unfold frM; omega), up_nc (by decide), hB _ _ (by omega)]
      · rw [n2.1.2.2 _ _ (by unfold frM; omega), up_nc (by decide), hB _ _ (by omega)]
    · rw [n2.1.2.2 _ _ (by unfold frM; omega), up_nc (by decide), hB _ _ (by omega)]
      exact y5
    · have hc2 := hc
      unfold gM at hc2
      rw [n2.1.2.2 _ _ (by unfold frM; omega)]
      exact frB c j hc
    · refine ⟨wd, a, m, ops'.length, hwd, ham, hmz, Nat.le_refl _, ?_, ?_, ?_, ?_, ?_, ?_, ?_, ?_, hty, fun z => ?_⟩
      · rw [q5, up_nj (by omega), hB0]
      · rw [q5, up_nj (by omega), hB1]
      · rw [q5, up_c]
      · rw [q5, up_nj (by omega), hB3]
      · rw [up_nc (by decide), up_nc (by decide), up_nc (by decide), up_nc (by decide), up_c]
      · rw [up_nc (by decide), up_nc (by decide), up_nc (by decide), up_c]
      · rw [up_nc (by decide), up_nc (by decide), up_c, hv3]
      · rw [up_nc (by decide), up_c, s2.2.1, List.take_length]
      · rw [List.take_length]; exact hty2 z
    · rw [up_nc (by omega), up_nj hk, up_nj hk, up_nj hk, up_nj hk]
      exact fr3 _ _ (by unfold frX; omega)
    · rw [q5, up_nj (by omega), hB _ _ (by omega)]
  · right
    obtain ⟨τ3, t1, t2⟩ := xl_ref (F := F) (k := 1) h1 (by omega) (by decide)
    obtain ⟨τ4, n1, n2⟩ := ms_bad (F := F) (k := 1) h2'.1
    have fr3 := t2.1.2.2.2
    have b0 : τ3 203 0 = nI n := (fr3 _ _ (by unfold frX; omega)).trans x7
    refine ⟨up (up (up (up (up τ3 204 n (nI wd)) 205 n (nI (encs (ops'.take a)).length)) 206 n v3) 207 n (τ3 203 1)) 203 0 (nI (n + 1)), τ4, 1, stt y l i1, ?_, ?_, ⟨by decide, ?_, ?_, fun c j hc => ?_⟩, ⟨n2.1, n2.2.1, fun c j hc => ?_⟩⟩
    · unfold X3_readLawLine_j99 X6_takeSign
      rw [xs_sign h1.1, cal_some, if_neg (show ¬ sgv (tk 0 y l i1) = 59 from fun z => c59 ((sgv_eq (c := 59) tko (by decide) (by decide)).mp z)), show X6_refuse F 1 τ1 = _ from t1, cal_some, cal_some, line_add b0 hn, cal_some]
    · rw [if_neg (show ¬ cM 0 (tk 0 y l i1) = 159 from fun z => c59 ((cM_sg (c := 59) (by decide) tko (by decide) (by decide)).mp z)), show X11_bad F 1 _ = _ from n1, cal_some, nar0, cal_some, nar0]
    · rw [up_nc (by decide), up_nc (by decide), up_nc (by decide), up_nc (by decide), up_nc (by decide)]; exact t2.1.2.1
    · rw [up_nc (by decide), up_nc (by decide), up_nc (by decide), up_nc (by decide), up_nc (by decide)]; exact t2.1.2.2.1
    · have hc2 := hc
      unfold gX at hc2
      rw [up_nc (by omega), up_nc (by omega), up_nc (by omega), up_nc (by omega), up_nc (by omega)]
      exact (fr3 c j (by unfold frX; omega)).trans (x8 c j hc)
    · have hc2 := hc
      unfold gM at hc2
      rw [n2.2.2 _ _ (by unfold frM; omega)]
      exact frB c j hc
