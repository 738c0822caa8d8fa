/-! PURE PART. Texts: all rows -/
def RinM (a : Nat) (y : Nat → Nat) (l : Nat) (B : Tau) (i n : Nat) (τ : Tau) : Prop := τ 0 21 = 0 ∧ MT a y l (pls y l i) τ ∧ MB a y l τ ∧ τ 0 15 = nI n ∧ ∀ c j, ¬ gM c j → τ c j = B c j
theorem rin_15 {a l i i' n n' : Nat} {y : Nat → Nat} {B τ0 τ : Tau} (h0 : RinM a y l B i n τ0) (h : MS a y l τ0 i' τ) : RinM a y l B i' n' (up τ 0 15 (nI n')) := by
  obtain ⟨y1, y2, y3, y4, y5⟩ := h0
  obtain ⟨g1, ⟨m1, m2, m3, m4⟩, g5⟩ := h
  refine ⟨?_, ⟨?_, ?_, ?_, fun n hn => ?_⟩, y3.congr ?_ ?_ (fun j => ?_), up_c, fun c j hc => ?_⟩
  · rw [up_nj (by decide)]; exact g1
  · rw [up_nj (by decide)]; exact m1
  · rw [up_nj (by decide)]; exact m2
  · rw [up_nj (by decide)]; exact m3
  · rw [up_nj (by decide)]; exact m4 n hn
  · rw [up_nj (by decide)]; exact g5 _ _ (by unfold frM; omega)
  · rw [up_nj (by decide)]; exact g5 _ _ (by unfold frM; omega)
  · rw [up_nc (by decide)]; exact g5 _ _ (by unfold frM; omega)
  · have hc2 := hc
    unfold gM at hc2
    rw [up_if, if_neg (by omega), g5 c j (by unfold frM; omega)]
    exact y5 c j hc
theorem xd_j112 {F k p : Nat} {B τ : Tau} {v : Int32} (h : XD B k p τ) : X3_readRows_j112 F 2 v τ = some (-1, τ) := if_neg (xd0 h)
theorem wcd_0 (a : Nat) (h1 : 1 ≤ a) (h2 : a < 4) : wcd a 0 = if a = 2 then 7 else 8 := by
  have : ∀ a, a < 4 → 1 ≤ a → wcd a 0 = if a = 2 then 7 else 8 := by decide
  exact this a h2 h1
theorem rows_loop {F a l N nP nM : Nat} {y : Nat → Nat} {Bx B0 : Tau} {I : Nat → (Nat → Int32) → (Nat → Int32) → Prop} {bX : Nat → Tau → Option (Int32 × Tau)} (hF : 5000 ≤ F) (ha : 1 ≤ a ∧ a < 4) (hl : l ≤ 400) (hXT : XT a y l N Bx) (hsN : stt y l N = l) (hsl : ∀ j, j < N → stt y l j < l) (hBx : Bx 2 0 = nI nP ∧ Bx 2 1 = nI nM) (hB0 : B0 1 255 = nI nP ∧ B0 1 256 = nI nM)
    (hrow : ∀ n τ τ1, n < 16 → X6_isWord F 0 τ = some (1, τ) → X6_skip F τ = some (0, τ1) → X3_readRow F 2 (nI a) (nI n) τ = bX n τ1)
    (hbody : ∀ n i τx τm, n < 16 → EnvT a y l N Bx τm → twn nP nM Bx τm → τm 0 15 = nI n → XS a y l N Bx (i + 1) τx → MS a y l τm i τm → tk a y l i = .wrd 0 → I n (τx 210) (τm 7) → Ok a y l N Bx τm i (I (n + 1)) (bX n τx) (X11_aRow F τm) ∨ Fr Bx τm (bX n τx) (X11_aRow F τm)) :
    ∀ (q i n fX fM : Nat) (τx τm : Tau), N - i ≤ q → N - i < fX → N - i < fM → XS a y l N Bx i τx → RinM a y l B0 i n τm → n ≤ 16 → I n (τx 210) (τm 7) →
    (∃ τx' τm' i' n', X3_readRows_L78 F 2 fX (nI a) (nI n) (nI n) τx = some (nI n', τx') ∧ X11_readsRows_L43 F fM 1 τm = some (1, τm') ∧ XS a y l N Bx i' τx' ∧ RinM a y l B0 i' n' τm' ∧ n' ≤ 16 ∧ I n' (τx' 210) (τm' 7)) ∨
    (∃ τx' τm' k p, X3_readRows_L78 F 2 fX (nI a) (nI n) (nI n) τx = some (-1, τx') ∧ X11_readsRows_L43 F fM 1 τm = some (0, τm') ∧ XD Bx k p τx' ∧ MW B0 k p τm') := by
  have hN := hXT.2.1
  have fin : ∀ (i n gx gm : Nat) (τx τm : Tau), XS a y l N Bx i τx → RinM a y l B0 i n τm → n ≤ 16 → tk a y l i = .fin → X3_readRows_L78 F 2 (gx + 1) (nI a) (nI n) (nI n) τx = some (nI n, τx) ∧ X11_readsRows_L43 F (gm + 1) 1 τm = some (1, τm) := by
    intro i n gx gm τx τm h h' hn ht
    have hMS : MS a y l τm i τm := ⟨h'.1, h'.2.1, fun _ _ _ => rfl⟩
    constructor
    · unfold X3_readRows_L78 X3_readRows_j112
      rw [if_neg (show ¬ (16 : Int32) < nI n from nI_nlt (a := 16) (by omega) (by decide)), (xs_goes (F := F) h).1 ht, cal_some, if_pos rfl, if_pos h.1]
    · unfold X11_readsRows_L43
      rw [if_neg n10, ms_code hMS, ht, if_pos (show cM a Tok.fin = 0 from rfl), nar1]
  intro q
  induction q with
  | zero =>
    intro i n fX fM τx τm hq hfX hfM h h' hn hI
    obtain ⟨gx, rfl, -⟩ := fuel (show 0 < fX by omega)
    obtain ⟨gm, rfl, -⟩ := fuel (show 0 < fM by omega)
    have ht : tk a y l i = .fin := by rw [show i = N from by have := h.2.2.2.1; omega]; exact tok_fin hsN
    obtain ⟨e1, e2⟩ := fin i n gx gm τx τm h h' hn ht
    exact .inl ⟨τx, τm, i, n, e1, e2, h, h', hn, hI⟩
  | succ q ih =>
    intro i n fX fM τx τm hq hfX hfM h h' hn hI
    obtain ⟨gx, rfl, -⟩ := fuel (show 0 < fX by omega)
    obtain ⟨gm, rfl, -⟩ := fuel (show 0 < fM by omega)
    by_cases ht : tk a y l i = .fin
    · obtain ⟨e1, e2⟩ := fin i n gx gm τx τm h h' hn ht
      exact .inl ⟨τx, τm, i, n, e1, e2, h, h', hn, hI⟩
    · have hMS : MS a y l τm i τm := ⟨h'.1, h'.2.1, fun _ _ _ => rfl⟩
      have E : EnvT a y l N Bx τm := ⟨ha.2, hl, hXT, h'.2.2.1, hsN, hsl⟩
      have hlt := tk_N hsN h.2.2.2.1 ht
      have tko := tk_ok (a := a) (y := y) (l := l) (i := i)
      have kn : nI n + 1 = nI (n + 1) := litA'
      have hcM := ms_code hMS
      have h12 := ms_12 E hMS
      have ln0 : 0 < (lwL a).length := by
        have : ∀ a, a < 4 → 0 < (lwL a).length := by decide
        exact this a ha.2
      have eX : X3_readRows_L78 F 2 (gx + 1) (nI a) (nI n) (nI n) τx = cal (X3_readRow F 2 (nI a) (nI n) τx) fun r5 τ6 => X3_readRows_L78 F 2 gx (nI a) (nI (n + 1)) (nI (n + 1)) τ6 := by
        conv => lhs; unfold X3_readRows_L78
        rw [if_neg (show ¬ (16 : Int32) < nI n from nI_nlt (a := 16) (by omega) (by decide)), (xs_goes (F := F) h).2 ht, cal_some, if_neg n10, kn]
      have eM : X11_readsRows_L43 F (gm + 1) 1 τm = X11_readsRows_j73 F (X11_readsRows_L43 F gm) (nI (wcd a 0)) (cM a (tk a y l i)) τm := by
        conv => lhs; unfold X11_readsRows_L43
        rw [if_neg n10, hcM, if_neg (fun z => ht ((cM_fn ha.2 tko).mp z)), h12, wcd_0 a ha.1 ha.2]
        by_cases c : a = 2
        · rw [if_pos c, if_pos (by rw [c]; rfl)]; rfl
        · rw [if_neg c, if_neg (by rw [lit_eq (by decide) (by omega)]; exact c)]; rfl
      have after : ∀ k p τ, XD Bx k p τ → X3_readRows_L78 F 2 gx (nI a) (nI (n + 1)) (nI (n + 1)) τ = some (-1, τ) := by
        intro k p τ hd
        obtain ⟨gx, rfl, -⟩ := fuel (show 0 < gx by omega)
        unfold X3_readRows_L78
        by_cases c : (16 : Int32) < nI (n + 1)
        · rw [if_pos c, xd_j112 hd]
        · rw [if_neg c, xd_goes hd, cal_some, if_pos rfl, xd_j112 hd]
      have toMW : ∀ k p τ, MD τm k p τ → MW B0 k p τ := fun k p τ hd => ⟨hd.1, hd.2.1, fun c j hc => by
        have hc2 := hc
        unfold gM at hc2
        rw [hd.2.2 c j (by unfold frM; omega)]
        exact h'.2.2.2.2 c j hc⟩
      have fail : ∀ k, 0 < k ∧ k < 4 → X3_readRow F 2 (nI a) (nI n) τx = (cal (X6_refuse F (nI k) τx) fun r3 τ4 => some (0, τ4)) → X11_readsRows_L43 F (gm + 1) 1 τm = (cal (X11_bad F (nI k) τm) fun r7 τ8 => some (vp_nar .boolean r7, τ8)) → ∃ τx' τm' k p, X3_readRows_L78 F 2 (gx + 1) (nI a) (nI n) (nI n) τx = some (-1, τx') ∧ X11_readsRows_L43 F (gm + 1) 1 τm = some (0, τm') ∧ XD Bx k p τx' ∧ MW B0 k p τm' := by
        intro k hk e1 e2
        obtain ⟨τ1, t1, t2, t3⟩ := xs_ref (F := F) (k := k) h hk
        obtain ⟨τ2, u1, u2⟩ := ms_bad (F := F) (k := k) hMS
        exact ⟨τ1, τ2, k, _, by rw [eX, e1, t1, cal_some, cal_some, after _ _ _ t2], by rw [e2, u1, cal_some, nar0], t2, toMW _ _ _ u2⟩
      by_cases cw : tk a y l i = .wrd 0
      · have w0 : X6_isWord F 0 τx = some (1, τx) := (xs_isW (F := F) (u := 0) h ha.2 (by decide)).1 cw
        by_cases c16 : n = 16
        · right
          refine fail 3 (by decide) ?_ ?_
          · unfold X3_readRow
            rw [w0, cal_some, if_neg n10, if_neg (by rw [c16]; decide)]
            rfl
          · rw [eM]
            unfold X11_readsRows_j73
            rw [if_pos ((cM_wd ha.2 tko ln0).mpr cw), if_pos (by rw [h'.2.2.2.1, c16]; rfl)]
            rfl
        · obtain ⟨τ1, s1, s2, s3⟩ := xs_skip (F := F) E h hlt
          have hT : twn nP nM Bx τm := ⟨hBx.1, hBx.2, (h'.2.2.2.2 _ _ (by unfold gM; omega)).trans hB0.1, (h'.2.2.2.2 _ _ (by unfold gM; omega)).trans hB0.2⟩
          have e2 : X11_readsRows_L43 F (gm + 1) 1 τm = cal (X11_aRow F τm) fun r4 τ5 => if r4 = 0 then (X11_readsRows_j116 F (X11_readsRows_L43 F gm) r4 0 (τ5 0 15) τ5) else (X11_readsRows_j116 F (X11_readsRows_L43 F gm) r4 1 (τ5 0 15) τ5) := by
            rw [eM]
            unfold X11_readsRows_j73
            rw [if_pos ((cM_wd ha.2 tko ln0).mpr cw), if_neg (by rw [h'.2.2.2.1, lit_eq (by decide) (by omega)]; exact c16)]
          rw [eX, hrow n τx τ1 (by omega) w0 s1, e2]
          have h210 : τ1 210 = τx 210 := funext fun k => s3 _ _ (by omega)
          rcases hbody n i τ1 τm (by omega) E hT h'.2.2.2.1 s2 hMS cw (by rw [h210]; exact hI) with ⟨r, τ2, τ3, i', u1, u2, u3, u4, u5, u6⟩ | ⟨r, τ2, τ3, k, p, u1, u2, u3, u4⟩
          · have e3 : X11_readsRows_j116 F (X11_readsRows_L43 F gm) 1 1 (τ3 0 15) τ3 = X11_readsRows_L43 F gm 1 (up τ3 0 15 (nI (n + 1))) := by
              unfold X11_readsRows_j116
              rw [show τ3 0 15 = nI n from (u4.2.2 _ _ (by unfold frM; omega)).trans h'.2.2.2.1, kn, pst_eq]
            rw [u1, cal_some, u2, cal_some, if_neg n10, e3]
            have hi' := u3.2.2.2.1
            exact ih i' (n + 1) gx gm τ2 (up τ3 0 15 (nI (n + 1))) (by omega) (by omega) (by omega) u3 (rin_15 h' u4) (by omega) (by rw [show up τ3 0 15 (nI (n + 1)) 7 = τ3 7 from funext fun k => up_nc (by decide)]; exact u6)
          · right
            obtain ⟨gm, rfl, -⟩ := fuel (show 0 < gm by omega)
            refine ⟨τ2, up τ3 0 15 (τ3 0 15 + 0), k, p, by rw [u1, cal_some, after _ _ _ u3], ?_, u3, ?_⟩
            · rw [u2, cal_some, if_pos rfl]
              unfold X11_readsRows_j116 X11_readsRows_L43
              rw [pst_eq, if_pos rfl, nar0]
            · obtain ⟨b1, b2, b3⟩ := toMW _ _ _ u4
              refine ⟨by rw [up_nj (by decide)]; exact b1, by rw [up_nj (by decide)]; exact b2, fun c j hc => ?_⟩
              have hc2 := hc
              unfold gM at hc2
              rw [up_if, if_neg (by omega)]
              exact b3 c j hc
      · right
        have w0 : X6_isWord F 0 τx = some (0, τx) := (xs_isW (F := F) (u := 0) h ha.2 (by decide)).2 cw
        refine fail 1 (by decide) ?_ ?_
        · unfold X3_readRow
          rw [w0, cal_some, if_pos rfl]
          rfl
        · rw [eM]
          unfold X11_readsRows_j73
          rw [if_neg (fun z => cw ((cM_wd ha.2 tko ln0).mp z))]
          rfl
theorem fill_M {F a : Nat} (ha : a < 4) : ∀ (m i f : Nat) (τ : Tau), i + m = 120 → m < f → τ 0 12 = nI a → ∃ τ', X11_readsRows_L7 F f (nI i) τ = X11_readsRows_L43 F F 1 τ' ∧ (∀ k, i ≤ k → k < 120 → τ' 7 k = if a = 1 then nI (k % 12) else 0) ∧ ∀ c j, ¬ (c = 7 ∧ i ≤ j) → τ' c j = τ c j := by
  intro m
  induction m with
  | zero =>
    intro i f τ hi hf h
    obtain ⟨g, rfl, -⟩ := fuel hf
    refine ⟨τ, ?_, fun k h1 h2 => absurd h1 (by omega), fun _ _ _ => rfl⟩
    conv => lhs; unfold X11_readsRows_L7
    rw [if_pos (show (120 : Int32) ≤ nI i from nI_le (a := 120) (by omega) (by omega))]
  | succ m ih =>
    intro i f τ hi hf h
    obtain ⟨g, rfl, -⟩ := fuel hf
    have ki : nI i + 1 = nI (i + 1) := litA'
    obtain ⟨τ', t1, t2, t3⟩ := ih (i + 1) g (up τ 7 i (if a = 1 then nI (i % 12) else 0)) (by omega) (by omega) (by rw [up_nc (by decide)]; exact h)
    refine ⟨τ', ?_, fun k h1 h2 => ?_, fun c j hc => by rw [t3 c j (by omega), up_if, if_neg (by omega)]⟩
    · conv => lhs; unfold X11_readsRows_L7
      unfold X11_readsRows_j34
      rw [if_neg (show ¬ (120 : Int32) ≤ nI i from nI_ge (b := 120) (by omega) (by decide)), h]
      by_cases c : a = 1
      · rw [if_pos (by rw [c]; rfl), show rmd (nI i) 12 = nI (i % 12) from nI_rmd (d := 12) (by omega) (by decide) (by decide), ast_nI (by omega) (by omega), ki]
        rw [if_pos c] at t1
        exact t1
      · rw [if_neg (by rw [lit_eq (by decide) (by omega)]; exact c), ast_nI (by omega) (by omega), ki]
        rw [if_neg c] at t1
        exact t1
    · by_cases e : k = i
      · rw [e, t3 _ _ (by omega), up_c]
      · exact t2 k (by omega) h2
def InvR (nP nM a n : Nat) (cx cm : Nat → Int32) : Prop := if a = 1 then I1 nP n cx cm else if a = 2 then I2 nP nM n cx cm else I3 nP n cx cm
theorem rows_read {F a l nP nM : Nat} {y : Nat → Nat} {tx B0 τ : Tau} (hF : 5000 ≤ F) (ha : 1 ≤ a ∧ a < 4) (hl : l ≤ 400) (hnP : nP ≤ 10) (hnM : nM ≤ 14) (hXY : XY y l tx) (hBx : tx 2 0 = nI nP ∧ tx 2 1 = nI nM) (hB0 : B0 1 255 = nI nP ∧ B0 1 256 = nI nM) (h1 : MS a y l τ 0 τ) (h2 : MB a y l τ) (h3 : ∀ c j, ¬ gM c j → τ c j = B0 c j) :
    (∃ τx' τm' n', X3_readRows F 2 (nI a) tx = some (nI n', τx') ∧ X11_readsRows F τ = some (1, τm') ∧ τx' 197 1 = 0 ∧ τx' 197 2 = -1 ∧ (∀ c j, ¬ gX c j → τx' c j = tx c j) ∧ (∀ c j, ¬ gM c j → τm' c j = B0 c j) ∧ τm' 0 15 = nI n' ∧ n' ≤ 16 ∧ InvR nP nM a n' (τx' 210) (τm' 7)) ∨
    (∃ τx' τm' k p, X3_readRows F 2 (nI a) tx = some (-1, τx') ∧ X11_readsRows F τ = some (0, τm') ∧ XW tx k p τx' ∧ MW B0 k p τm') := by
  obtain ⟨N, Bx, s1, s2, s3, s4, s5, s6, s7, s8⟩ := scan_X (a := a) hF ha.2 hl hXY
  have hN := s2.2.1
  have hbx : Bx 2 0 = nI nP ∧ Bx 2 1 = nI nM := ⟨(s8 _ _ (by omega) (by omega)).trans hBx.1, (s8 _ _ (by omega) (by omega)).trans hBx.2⟩
  have hXS : XS a y l N Bx 0 Bx := ⟨s6, s7, s3, Nat.zero_le _, fun _ _ _ => rfl⟩
  obtain ⟨τ1, f1, f2, f3⟩ := fill_M (F := F) ha.2 120 0 F (up τ 0 15 0) (by omega) (by omega) (by rw [up_nj (by decide)]; exact h2.2.1)
  have hR : RinM a y l B0 0 0 τ1 := by
    obtain ⟨g1, ⟨m1, m2, m3, m4⟩, -⟩ := h1
    refine ⟨?_, ⟨?_, ?_, ?_, fun n hn => ?_⟩, h2.congr ?_ ?_ (fun j => ?_), ?_, fun c j hc => ?_⟩
    · rw [f3 _ _ (by omega), up_nj (by decide)]; exact g1
    · rw [f3 _ _ (by omega), up_nj (by decide)]; exact m1
    · rw [f3 _ _ (by omega), up_nj (by decide)]; exact m2
    · rw [f3 _ _ (by omega), up_nj (by decide)]; exact m3
    · rw [f3 _ _ (by omega), up_nj (by decide)]; exact m4 n hn
    · rw [f3 _ _ (by omega), up_nj (by decide)]
    · rw [f3 _ _ (by omega), up_nj (by decide)]
    · rw [f3 _ _ (by omega), up_nc (by decide)]
    · rw [f3 _ _ (by omega), up_c]; rfl
    · have hc2 := hc
      unfold gM at hc2
      rw [f3 c j (by omega), up_if, if_neg (by omega)]
      exact h3 c j hc
  have eX : X3_readRows F 2 (nI a) tx = X3_readRows_L78 F 2 F (nI a) (nI 0) (nI 0) Bx := by
    have hA : a = 1 ∨ a = 2 ∨ a = 3 := by omega
    unfold X3_readRows X3_readRows_j73
    rcases hA with rfl | rfl | rfl
    · rw [if_pos (show nI 1 = 1 from rfl), show X6_scan F 3 tx = _ from s1, cal_some]; rfl
    · rw [if_neg (by decide), if_pos (show nI 2 = 2 from rfl), show X6_scan F 4 tx = _ from s1, cal_some]; rfl
    · rw [if_neg (by decide), if_neg (by decide), if_pos (show nI 3 = 3 from rfl), show X6_scan F 5 tx = _ from s1, cal_some]; rfl
  have eM : X11_readsRows F τ = X11_readsRows_L43 F F 1 τ1 := by
    unfold X11_readsRows
    rw [pst_eq]
    exact f1
  have fX : ∀ τ : Tau, (∀ c j, ¬ frX c j → τ c j = Bx c j) → ∀ c j, ¬ gX c j → τ c j = tx c j := fun τ h c j hc => by
    unfold gX at hc
    rw [h c j (by unfold frX; omega)]
    exact s8 c j (by omega) (by omega)
  have hI0 : InvR nP nM a 0 (Bx 210) (τ1 7) := by
    unfold InvR
    by_cases c1 : a = 1
    · rw [if_pos c1]
      refine ⟨fun r hr => absurd hr (Nat.not_lt_zero r), fun k hk => ?_⟩
      rw [f2 k (Nat.zero_le _) hk, if_pos c1]
      rfl
    · rw [if_neg c1]
      by_cases c2 : a = 2
      · rw [if_pos c2]
        exact fun r hr => absurd hr (Nat.not_lt_zero r)
      · rw [if_neg c2]
        refine ⟨fun r hr => absurd hr (Nat.not_lt_zero r), fun p hp => ⟨Nat.zero_le _, ?_, fun j hj => absurd hj (Nat.not_lt_zero j)⟩⟩
        rw [f2 _ (Nat.zero_le _) (by omega), if_neg c1]
        rfl
  rw [eX, eM]
  have main := rows_loop (I := InvR nP nM a) (B0 := B0) (nP := nP) (nM := nM) (bX := fun n τ => if nI a = 1 then (cal (X3_readTongue F 2 (8 * nI n) τ) fun r7 τ8 => X3_readRow_j89 F 2 τ8) else (if nI a = 2 then (cal (X3_readCourt F 2 (8 * nI n) τ) fun r11 τ12 => X3_readRow_j89 F 2 τ12) else (cal (X3_readWants F 2 (8 * nI n) τ) fun r13 τ14 => X3_readRow_j89 F 2 τ14))) hF ha hl s2 s4 s5 hbx hB0 (fun n τ τ1 hn h1 h2 => by
      unfold X3_readRow
      rw [h1, cal_some, if_neg n10, if_pos (show nI n < 16 from nI_lt (b := 16) hn (by decide)), h2, cal_some]) (fun n i τx τm hn E hT h15 h h' hw hI => by
      have hA : a = 1 ∨ a = 2 ∨ a = 3 := by omega
      unfold InvR at hI ⊢
      rcases hA with rfl | rfl | rfl
      · exact body1 hF E hT hnP hn h h' hw hI
      · exact body2 hF E hT hnP hnM hn h15 h h' hw hI
      · exact body3 hF E hT hnP hn h h' hw hI) N 0 0 F F Bx τ1 (by omega) (by omega) (by omega) hXS hR (Nat.zero_le _) hI0
  rcases main with ⟨τx', τm', i', n', u1, u2, u3, u4, u5, u6⟩ | ⟨τx', τm', k, p, u1, u2, u3, u4⟩
  · exact .inl ⟨τx', τm', n', u1, u2, u3.1, u3.2.1, fX τx' u3.2.2.2.2, u4.2.2.2.2, u4.2.2.2.1, u5, u6⟩
  · exact .inr ⟨τx', τm', k, p, u1, u2, ⟨u3.1, u3.2.1, u3.2.2.1, fX τx' u3.2.2.2⟩, u4⟩
