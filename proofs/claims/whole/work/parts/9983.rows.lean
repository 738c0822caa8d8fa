/-! PURE PART. Texts: rows, the pieces -/
theorem put_X {F j : Nat} {v : Int32} {τ : Tau} (h : j < 128) : X10_put F 210 (nI j) v 1 τ = some (1, up τ 210 j v) := X10_put_in (N := 128) (by decide +kernel) h (by decide)
theorem xs_put {a l N i j : Nat} {y : Nat → Nat} {B τ : Tau} {v : Int32} (h : XS a y l N B i τ) : XS a y l N B i (up τ 210 j v) := by
  obtain ⟨h1, h2, ⟨c1, c2, c3, c4⟩, h4, h5⟩ := h
  refine ⟨?_, ?_, ⟨?_, ?_, ?_, ?_⟩, h4, fun c j' hc => ?_⟩
  · rw [up_nc (by decide)]; exact h1
  · rw [up_nc (by decide)]; exact h2
  · rw [up_nc (by decide)]; exact c1
  · rw [up_nc (by decide)]; exact c2
  · rw [up_nc (by decide)]; exact c3
  · rw [up_nc (by decide)]; exact c4
  · have hc2 := hc
    unfold frX at hc2
    rw [up_nc (by omega)]
    exact h5 c j' hc
theorem xd_put {k p j : Nat} {B τ : Tau} {v : Int32} (h : XD B k p τ) : XD B k p (up τ 210 j v) := by
  obtain ⟨h1, h2, h3, h4⟩ := h
  refine ⟨h1, by rw [up_nc (by decide)]; exact h2, by rw [up_nc (by decide)]; exact h3, fun c j' hc => ?_⟩
  have hc2 := hc
  unfold frX at hc2
  rw [up_nc (by omega)]
  exact h4 c j' hc
theorem ms_put {a l i j : Nat} {y : Nat → Nat} {B τ : Tau} {v : Int32} (h : MS a y l B i τ) : MS a y l B i (up τ 7 j v) := by
  obtain ⟨g1, ⟨m1, m2, m3, m4⟩, g5⟩ := h
  refine ⟨?_, ⟨?_, ?_, ?_, fun n hn => ?_⟩, fun c j' hc => ?_⟩
  · rw [up_nc (by decide)]; exact g1
  · rw [up_nc (by decide)]; exact m1
  · rw [up_nc (by decide)]; exact m2
  · rw [up_nc (by decide)]; exact m3
  · rw [up_nc (by decide)]; exact m4 n hn
  · have hc2 := hc
    unfold frM at hc2
    rw [up_nc (by omega)]
    exact g5 c j' hc
/-- the model's cells but those of its tokens -/
def ofM (τ τ' : Tau) : Prop := ∀ c j, ¬ (c = 0 ∧ 17 ≤ j ∧ j ≤ 22) → τ' c j = τ c j
theorem num_sim {F a l N i j : Nat} {y : Nat → Nat} {Bx Bm τx τm : Tau} {lo hi : Int32} (hF : 5000 ≤ F) (E : EnvT a y l N Bx Bm) (h : XS a y l N Bx i τx) (h' : MS a y l Bm i τm) (hj : j < 140) :
    (∃ τx' τm' n, X6_takeNumber F lo hi τx = some (nI n, τx') ∧ X11_number F (nI j) lo hi τm = some (1, τm') ∧ XS a y l N Bx (i + 1) τx' ∧ MS a y l Bm (i + 1) τm' ∧ (lo ≤ nI n ∧ nI n ≤ hi) ∧ n ≤ 9999 ∧ (∀ c k, c ≠ 197 → τx' c k = τx c k) ∧ ofM (up τm 7 j (nI n)) τm') ∨
    (∃ τx' τm' r k p, X6_takeNumber F lo hi τx = some (r, τx') ∧ X11_number F (nI j) lo hi τm = some (0, τm') ∧ XD Bx k p τx' ∧ MD Bm k p τm') := by
  have e5 := E.2.2.2.2.1
  have ha := E.1
  have tko := tk_ok (a := a) (y := y) (l := l) (i := i)
  have hcM := ms_code h'
  unfold X11_number
  rw [hcM]
  by_cases c : ∃ n, tk a y l i = .num n
  · obtain ⟨n, hn⟩ := c
    have hn9 : n ≤ 9999 := by rw [hn] at tko; exact tko
    rw [if_pos ((cM_nm ha tko).mpr ⟨n, hn⟩), ms_num h' hn, X11_isIn_eq, cal_some]
    by_cases cr : lo ≤ nI n ∧ nI n ≤ hi
    · left
      have hlt := tk_N e5 h.2.2.2.1 (by rw [hn]; exact (nofun))
      obtain ⟨τx', t1, t2, t3⟩ := xs_skip (F := F) E h hlt
      obtain ⟨τm', u1, u2, u3⟩ := ms_next hF E (ms_put (j := j) (v := nI n) h')
      refine ⟨τx', τm', n, ?_, ?_, t2, u2, cr, hn9, fun c k hc => t3 c k (by omega), fun c k hc => u3 c k (by omega)⟩
      · unfold X6_takeNumber
        rcases xs_num (F := F) h with ⟨m, hm, q1, q2⟩ | ⟨hm, -⟩
        · have hmn := Tok.num_inj (hn.symm.trans hm)
          rw [← hmn] at q2
          rw [q1, cal_some, if_neg n10, q2, cal_some, X10_within_eq, bI_t cr, cal_some, if_neg n10, t1, cal_some]
        · exact absurd hn (hm n)
      · rw [bI_t cr, if_neg n10, ms_num h' hn, ast_nI (by omega) (by omega), u1, cal_some]
    · right
      obtain ⟨τx', t1, t2, t3⟩ := (takeN_no (F := F) (lo := lo) (hi := hi) h).2 n hn cr
      obtain ⟨τm', u1, u2⟩ := ms_bad (F := F) (k := 2) h'
      exact ⟨τx', τm', _, 2, _, t1, by rw [bI_f cr, if_pos rfl, show X11_bad F 2 τm = _ from u1, cal_some, nar0], t2, u2⟩
  · right
    obtain ⟨τx', t1, t2, t3⟩ := (takeN_no (F := F) (lo := lo) (hi := hi) h).1 (fun n hn => c ⟨n, hn⟩)
    obtain ⟨τm', u1, u2⟩ := ms_bad (F := F) (k := 1) h'
    exact ⟨τx', τm', _, 1, _, t1, by rw [if_neg (fun z => c ((cM_nm ha tko).mp z)), show X11_bad F 1 τm = _ from u1, cal_some, nar0], t2, u2⟩
theorem word_sim {F a l N i u : Nat} {y : Nat → Nat} {Bx Bm τx τm : Tau} (hF : 5000 ≤ F) (E : EnvT a y l N Bx Bm) (h : XS a y l N Bx i τx) (h' : MS a y l Bm i τm) (hu : u < (lwL a).length) :
    (∃ τx' τm', X6_takeWord F (nI u) τx = some (0, τx') ∧ X11_need F (nI (wcd a u)) τm = some (1, τm') ∧ XS a y l N Bx (i + 1) τx' ∧ MS a y l Bm (i + 1) τm' ∧ (∀ c k, c ≠ 197 → τx' c k = τx c k) ∧ ofM τm τm') ∨
    (∃ τx' τm' k p, X6_takeWord F (nI u) τx = some (0, τx') ∧ X11_need F (nI (wcd a u)) τm = some (0, τm') ∧ XD Bx k p τx' ∧ MD Bm k p τm') := by
  have e5 := E.2.2.2.2.1
  have ha := E.1
  have tko := tk_ok (a := a) (y := y) (l := l) (i := i)
  have ln := (lwL_len a ha).1
  unfold X11_need X6_takeWord
  rw [ms_code h']
  by_cases c : tk a y l i = .wrd u
  · left
    have hlt := tk_N e5 h.2.2.2.1 (by rw [c]; exact (nofun))
    obtain ⟨τx', t1, t2, t3⟩ := xs_skip (F := F) E h hlt
    obtain ⟨τm', u1, u2, u3⟩ := ms_next hF E h'
    exact ⟨τx', τm', by rw [(xs_isW (F := F) h ha (by omega)).1 c, cal_some, if_neg n10, t1, cal_some], by rw [if_pos ((cM_wd ha tko hu).mpr c), u1, cal_some], t2, u2, fun c k hc => t3 c k (by omega), fun c k hc => u3 c k (by omega)⟩
  · right
    obtain ⟨τx', t1, t2, t3⟩ := xs_ref (F := F) (k := 1) h (by decide)
    obtain ⟨τm', u1, u2⟩ := ms_bad (F := F) (k := 1) h'
    exact ⟨τx', τm', 1, _, by rw [(xs_isW (F := F) h ha (by omega)).2 c, cal_some, if_pos rfl, show X6_refuse F 1 τx = _ from t1, cal_some], by rw [if_neg (fun z => c ((cM_wd ha tko hu).mp z)), show X11_bad F 1 τm = _ from u1, cal_some, nar0], t2, u2⟩
theorem semi_sim {F a l N i : Nat} {y : Nat → Nat} {Bx Bm τx τm : Tau} (hF : 5000 ≤ F) (E : EnvT a y l N Bx Bm) (h : XS a y l N Bx i τx) (h' : MS a y l Bm i τm) :
    (∃ τx' τm', X6_takeSign F 59 τx = some (0, τx') ∧ X11_need F 159 τm = some (1, τm') ∧ XS a y l N Bx (i + 1) τx' ∧ MS a y l Bm (i + 1) τm' ∧ (∀ c k, c ≠ 197 → τx' c k = τx c k) ∧ ofM τm τm') ∨
    (∃ τx' τm' k p, X6_takeSign F 59 τx = some (0, τx') ∧ X11_need F 159 τm = some (0, τm') ∧ XD Bx k p τx' ∧ MD Bm k p τm') := by
  have e5 := E.2.2.2.2.1
  have ha := E.1
  have tko := tk_ok (a := a) (y := y) (l := l) (i := i)
  unfold X11_need X6_takeSign
  rw [ms_code h', xs_sign h, cal_some]
  by_cases c : tk a y l i = .sgn 59
  · left
    have hlt := tk_N e5 h.2.2.2.1 (by rw [c]; exact (nofun))
    obtain ⟨τx', t1, t2, t3⟩ := xs_skip (F := F) E h hlt
    obtain ⟨τm', u1, u2, u3⟩ := ms_next hF E h'
    exact ⟨τx', τm', by rw [if_pos (show sgv (tk a y l i) = 59 by rw [c]; rfl), t1, cal_some], by rw [if_pos (show cM a (tk a y l i) = 159 by rw [c]; rfl), u1, cal_some], t2, u2, fun c k hc => t3 c k (by omega), fun c k hc => u3 c k (by omega)⟩
  · right
    obtain ⟨τx', t1, t2, t3⟩ := xs_ref (F := F) (k := 1) h (by decide)
    obtain ⟨τm', u1, u2⟩ := ms_bad (F := F) (k := 1) h'
    exact ⟨τx', τm', 1, _, by rw [if_neg (show ¬ sgv (tk a y l i) = 59 from fun z => c ((sgv_eq (c := 59) tko (by decide) (by decide)).mp z)), show X6_refuse F 1 τx = _ from t1, cal_some], by rw [if_neg (show ¬ cM a (tk a y l i) = 159 from fun z => c ((cM_sg (c := 59) ha tko (by decide) (by decide)).mp z)), show X11_bad F 1 τm = _ from u1, cal_some, nar0], t2, u2⟩
/-- both fail alike, in a row -/
def Fr (Bx Bm : Tau) (rx rm : Option (Int32 × Tau)) : Prop := ∃ r τx τm k p, rx = some (r, τx) ∧ rm = some (0, τm) ∧ XD Bx k p τx ∧ MD Bm k p τm
/-- a row read: what both keep of it -/
def Ok (a : Nat) (y : Nat → Nat) (l N : Nat) (Bx Bm : Tau) (i : Nat) (I : (Nat → Int32) → (Nat → Int32) → Prop) (rx rm : Option (Int32 × Tau)) : Prop := ∃ r τx τm i', rx = some (r, τx) ∧ rm = some (1, τm) ∧ XS a y l N Bx i' τx ∧ MS a y l Bm i' τm ∧ i < i' ∧ I (τx 210) (τm 7)
/-- what of a town the reader looks at -/
def twn (nP nM : Nat) (Bx Bm : Tau) : Prop := Bx 2 0 = nI nP ∧ Bx 2 1 = nI nM ∧ Bm 1 255 = nI nP ∧ Bm 1 256 = nI nM
theorem twn_X {a l N i nP nM : Nat} {y : Nat → Nat} {Bx Bm τ : Tau} (hT : twn nP nM Bx Bm) (h : XS a y l N Bx i τ) : τ 2 0 = nI nP ∧ τ 2 1 = nI nM := ⟨(h.2.2.2.2 _ _ (by unfold frX; omega)).trans hT.1, (h.2.2.2.2 _ _ (by unfold frX; omega)).trans hT.2.1⟩
theorem twn_M {a l i nP nM : Nat} {y : Nat → Nat} {Bx Bm τ : Tau} (hT : twn nP nM Bx Bm) (h : MS a y l Bm i τ) : τ 1 255 = nI nP ∧ τ 1 256 = nI nM := ⟨(h.2.2 _ _ (by unfold frM; omega)).trans hT.2.2.1, (h.2.2 _ _ (by unfold frM; omega)).trans hT.2.2.2⟩
theorem twn_D {k p nP nM : Nat} {Bx Bm τ : Tau} (hT : twn nP nM Bx Bm) (h : XD Bx k p τ) : τ 2 0 = nI nP ∧ τ 2 1 = nI nM := ⟨(h.2.2.2 _ _ (by unfold frX; omega)).trans hT.1, (h.2.2.2 _ _ (by unfold frX; omega)).trans hT.2.1⟩
theorem below {n P : Nat} (hP : P ≤ 100) (h : (0 : Int32) ≤ nI n ∧ nI n ≤ nI P - 1) (hn : n ≤ 9999) : n < P := by
  by_cases c : P = 0
  · rw [c] at h
    exact absurd (Int32.le_trans h.1 h.2) (by decide)
  · rw [show nI P - 1 = nI (P - 1) from nI_sub (b := 1) (by omega)] at h
    have := (nI_leI (by omega) (by omega)).mp h.2
    omega
theorem row_end {F a l N i i0 : Nat} {y : Nat → Nat} {Bx Bm τx τm : Tau} {I : (Nat → Int32) → (Nat → Int32) → Prop} (hF : 5000 ≤ F) (E : EnvT a y l N Bx Bm) (h : XS a y l N Bx i τx) (h' : MS a y l Bm i τm) (hi : i0 ≤ i) (hI : I (τx 210) (τm 7)) : Ok a y l N Bx Bm i0 I (X3_readRow_j89 F 2 τx) (X11_aRow_j43 F τm) ∨ Fr Bx Bm (X3_readRow_j89 F 2 τx) (X11_aRow_j43 F τm) := by
  unfold X3_readRow_j89 X11_aRow_j43
  rcases semi_sim hF E h h' with ⟨τx', τm', t1, t2, t3, t4, t5, t6⟩ | ⟨τx', τm', k, p, t1, t2, t3, t4⟩
  · left
    refine ⟨0, τx', τm', i + 1, by rw [t1, cal_some], by rw [t2, cal_some, if_neg n10], t3, t4, by omega, ?_⟩
    rw [show τx' 210 = τx 210 from funext fun k => t5 _ _ (by decide), show τm' 7 = τm 7 from funext fun k => t6 _ _ (by omega)]
    exact hI
  · right
    exact ⟨0, τx', τm', k, p, by rw [t1, cal_some], by rw [t2, cal_some, if_pos rfl], t3, t4⟩
theorem xd_j89 {F k p : Nat} {B τ : Tau} (h : XD B k p τ) : X3_readRow_j89 F 2 τ = some (0, τ) := by
  unfold X3_readRow_j89
  rw [xd_takeS h (by decide), cal_some]
