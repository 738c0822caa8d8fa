/-! PURE PART. Steps: sent, the class -/
theorem wif_X {F n A j : Nat} {W : Nat → Nat} {τ : Tau} (hn : n ≤ 6) (hA : A < 2 ^ n) (hj : j < n) (hW : ∀ k, k < 36 → W k ≤ 99 ∧ τ 37 k = nI (W k)) (hp : pc A < 6) (hl : ∀ B, A < B → B < 2 ^ n → τ 214 B = nI (ms W n (2 ^ n - 1 - B))) : X4_worthIfSent F (nI (pc A)) (nI j) (nI A) τ = some (if (2 ^ n - 1 - A) / 2 ^ j % 2 = 1 then nI (W (6 * pc A + j) + ms W n (2 ^ n - 1 - A - 2 ^ j)) else -1, τ) := by
  have h64 : 2 ^ n ≤ 64 := Nat.pow_le_pow_right (n := 2) (by decide) (show n ≤ 6 from hn)
  have hc := (co_fin n (by omega) A hA).2 j hj
  have hpos := Nat.two_pow_pos j
  unfold X4_worthIfSent
  rw [bit_nI (by omega) (by omega)]
  by_cases e : (2 ^ n - 1 - A) / 2 ^ j % 2 = 1
  · have e0 : A / 2 ^ j % 2 = 0 := by omega
    obtain ⟨p1, p2⟩ := pcm_fin (2 ^ n - 1 - A) (by omega) j (by omega) e
    rw [if_pos e, if_pos (by rw [e0]; rfl), litM, nI_add, X10_entry_in (N := 36) rfl (by omega) (by decide), cal_some, shl_p (by omega), or_fin A (by omega) j (by omega) e0, X10_entry_in (N := 1024) rfl (by omega) (by decide), cal_some, (hW _ (by omega)).2, hl (A + 2 ^ j) (by omega) (by omega), nI_add, show 2 ^ n - 1 - (A + 2 ^ j) = 2 ^ n - 1 - A - 2 ^ j by omega]
  · rw [if_neg e, if_neg (show ¬ nI (A / 2 ^ j % 2) = 0 by rw [show (0 : Int32) = nI 0 from rfl, nI_eq (by omega) (by omega)]; omega)]
theorem imax_m1 {a : Nat} (ha : a < 2 ^ 31) : imax (nI a) (-1) = nI a := by
  unfold imax
  rw [if_neg]
  intro z
  rw [Int32.lt_iff_toInt_lt, nI_toInt ha, show (-1 : Int32).toInt = -1 by decide] at z
  omega
theorem plan_X {F n : Nat} {W : Nat → Nat} {tx : Tau} (hF : 5000 ≤ F) (n1 : 1 ≤ n) (hn : n ≤ 6) (hW : ∀ k, k < 36 → W k ≤ 99 ∧ tx 37 k = nI (W k)) : ∃ tx', X4_planSending F (nI n) tx = some (0, tx') ∧ (∀ A, A < 2 ^ n → tx' 214 A = nI (ms W n (2 ^ n - 1 - A))) ∧ ∀ c j, c ≠ 214 → tx' c j = tx c j := by
  have h64 : 2 ^ n ≤ 64 := Nat.pow_le_pow_right (n := 2) (by decide) (show n ≤ 6 from hn)
  have hpos := Nat.two_pow_pos n
  have inner : ∀ (A : Nat) (self : Int32 → Int32 → Tau → Option (Int32 × Tau)) (τ : Tau), A < 2 ^ n - 1 → (∀ B, A < B → B < 2 ^ n → τ 214 B = nI (ms W n (2 ^ n - 1 - B))) → (∀ c i, c ≠ 214 → τ c i = tx c i) → ∀ (m j f acc : Nat), j + m = n → m < f → acc ≤ 700 → X4_planSending_L37 F self f (nI n) (nI A) (nI (pc A)) (nI acc) (nI j) τ = self (nI n) (nI A - 1) (up τ 214 A (nI (mxF (fun j => W (6 * pc A + j) + ms W n (2 ^ n - 1 - A - 2 ^ j)) (2 ^ n - 1 - A) m j acc))) := by
    intro A self τ hA hl hc
    have co := co_fin n (by omega) A (by omega)
    obtain ⟨s1, -⟩ := ms_rec (W := W) (S := 2 ^ n - 1 - A) hn (by omega) (by omega)
    intro m
    induction m with
    | zero =>
      intro j f acc hj hf ha
      obtain ⟨g, rfl, -⟩ := fuel hf
      unfold X4_planSending_L37
      rw [if_pos (nI_le (by omega) (by omega)), X10_put_in (N := 1024) rfl (by omega) (by decide), cal_some, Int32.sub_eq_add_neg]
      rfl
    | succ m ih =>
      intro j f acc hj hf ha
      obtain ⟨g, rfl, -⟩ := fuel hf
      have hposj := Nat.two_pow_pos j
      have hms := ms_le (W := W) (fun k hk => (hW k hk).1) hn (show 2 ^ n - 1 - A - 2 ^ j < 2 ^ n by omega)
      have hw := (hW (6 * pc A + j) (by omega)).1
      conv => lhs; unfold X4_planSending_L37
      rw [if_neg (nI_ge (by omega) (by omega)), wif_X hn (by omega) (by omega) (fun k hk => ⟨(hW k hk).1, (hc 37 k (by decide)).trans (hW k hk).2⟩) (by omega) hl, cal_some, litA']
      rw [show mxF (fun j => W (6 * pc A + j) + ms W n (2 ^ n - 1 - A - 2 ^ j)) (2 ^ n - 1 - A) (m + 1) j acc = mxF (fun j => W (6 * pc A + j) + ms W n (2 ^ n - 1 - A - 2 ^ j)) (2 ^ n - 1 - A) m (j + 1) (if (2 ^ n - 1 - A) / 2 ^ j % 2 = 1 then max acc (W (6 * pc A + j) + ms W n (2 ^ n - 1 - A - 2 ^ j)) else acc) from rfl]
      by_cases e : (2 ^ n - 1 - A) / 2 ^ j % 2 = 1
      · rw [if_pos e, if_pos e, nI_imax (by omega) (by omega)]
        exact ih (j + 1) g _ (by omega) (by omega) (by omega)
      · rw [if_neg e, if_neg e, imax_m1 (by omega)]
        exact ih (j + 1) g _ (by omega) (by omega) ha
  have outer : ∀ (k f : Nat) (τ : Tau), k ≤ 2 ^ n - 1 → k < f → (∀ B, k ≤ B → B < 2 ^ n → τ 214 B = nI (ms W n (2 ^ n - 1 - B))) → (∀ c i, c ≠ 214 → τ c i = tx c i) → ∃ τ', X4_planSending_L21 F f (nI n) (nI k - 1) τ = some (0, τ') ∧ (∀ A, A < 2 ^ n → τ' 214 A = nI (ms W n (2 ^ n - 1 - A))) ∧ ∀ c j, c ≠ 214 → τ' c j = tx c j := by
    intro k
    induction k with
    | zero =>
      intro f τ _ hf hl hc
      obtain ⟨g, rfl, -⟩ := fuel hf
      refine ⟨τ, ?_, fun A hA => hl A (Nat.zero_le _) hA, hc⟩
      unfold X4_planSending_L21
      rw [if_pos (by decide)]
    | succ k ih =>
      intro f τ hk hf hl hc
      obtain ⟨g, rfl, -⟩ := fuel hf
      have e1 : nI (k + 1) - 1 = nI k := by rw [litS (by omega), Nat.add_sub_cancel]
      have hp : pc k = n - pc (2 ^ n - 1 - k) := (co_fin n (by omega) k (by omega)).1.1
      have hi := inner k (X4_planSending_L21 F g) τ (by omega) (fun B h1 h2 => hl B (by omega) h2) hc n 0 F 0 (by omega) (by omega) (by decide)
      have hm := (ms_rec (W := W) (S := 2 ^ n - 1 - k) hn (by omega) (by omega)).2
      rw [← hp] at hm
      rw [← hm] at hi
      obtain ⟨τ', f1, f2, f3⟩ := ih g (up τ 214 k (nI (ms W n (2 ^ n - 1 - k)))) (by omega) (by omega) (fun B h1 h2 => by
        by_cases e : B = k
        · subst e; rw [up_c]
        · rw [up_nj e]; exact hl B (by omega) h2) (fun c i hci => (up_nc hci).trans (hc c i hci))
      refine ⟨τ', ?_, f2, f3⟩
      conv => lhs; unfold X4_planSending_L21
      rw [e1, if_neg (nI_pos (by omega)), bitc_fin k (by omega), cal_some, show X4_planSending_L37 F (X4_planSending_L21 F g) F (nI n) (nI k) (nI (pc k)) 0 0 τ = _ from hi, f1]
  obtain ⟨τ', f1, f2, f3⟩ := outer (2 ^ n - 1) F (up tx 214 (2 ^ n - 1) 0) (Nat.le_refl _) (by omega) (fun B h1 h2 => by
    have : B = 2 ^ n - 1 := by omega
    subst this
    rw [up_c, Nat.sub_self]
    rfl) (fun c i hci => up_nc hci)
  refine ⟨τ', ?_, f2, f3⟩
  unfold X4_planSending
  rw [shl_p (by omega), litS (show 1 ≤ 2 ^ n by omega), X10_put_in (N := 1024) rfl (by omega) (by decide), cal_some, f1]
theorem how_eq {F n : Nat} {W : Nat → Nat} {tx tm : Tau} (hF : 5000 ≤ F) (n1 : 1 ≤ n) (hn : n ≤ 6) (hW : ∀ k, k < 36 → W k ≤ 99 ∧ tx 37 k = nI (W k) ∧ tm 1 (572 + k) = nI (W k)) (hx : ∀ A, A < 2 ^ n → tx 214 A = nI (ms W n (2 ^ n - 1 - A))) (hm : ∀ S, S < 2 ^ n → tm 14 S = nI (ms W n S)) : ∀ (m S fx fm : Nat) (acc : Int32), S < 2 ^ n → pc S = m → m < fx → m < fm → ∃ r, X4_howSent_L12 F fx (nI n) acc (nI (2 ^ n - 1 - S)) (nI (n - m)) tx = some (r, tx) ∧ X11_sent_L49 F fm (nI n) (nI S) acc (nI (n - m)) tm = some (r, tm) := by
  have h64 : 2 ^ n ≤ 64 := Nat.pow_le_pow_right (n := 2) (by decide) (show n ≤ 6 from hn)
  have hpos := Nat.two_pow_pos n
  intro m
  induction m with
  | zero =>
    intro S fx fm acc hS hp hfx hfm
    obtain ⟨gx, rfl, -⟩ := fuel hfx
    obtain ⟨gm, rfl, -⟩ := fuel hfm
    unfold X4_howSent_L12 X11_sent_L49
    rw [Nat.sub_zero, if_pos (nI_le (Nat.le_refl _) (by omega)), if_pos (nI_le (Nat.le_refl _) (by omega))]
    exact ⟨acc, rfl, rfl⟩
  | succ m ih =>
    intro S fx fm acc hS hp hfx hfm
    obtain ⟨gx, rfl, -⟩ := fuel hfx
    obtain ⟨gm, rfl, -⟩ := fuel hfm
    have co := co_fin n (by omega) (2 ^ n - 1 - S) (by omega)
    rw [show 2 ^ n - 1 - (2 ^ n - 1 - S) = S by omega] at co
    have hS0 : S ≠ 0 := by
      intro z
      rw [z] at hp
      exact absurd hp (by rw [show pc 0 = 0 from rfl]; omega)
    obtain ⟨js, j1, j2, j3⟩ := ms_ex (W := W) hn hS hS0
    have hWx : ∀ k, k < 36 → W k ≤ 99 ∧ tx 37 k = nI (W k) := fun k hk => ⟨(hW k hk).1, (hW k hk).2.1⟩
    have hWle : ∀ k, k < 36 → W k ≤ 99 := fun k hk => (hW k hk).1
    have hmsS := ms_le (W := W) hWle hn hS
    have hpA : pc (2 ^ n - 1 - S) = n - (m + 1) := by rw [co.1.1, hp]
    have key : ∀ (d j fx fm : Nat), j + d = js → n - j < fx → n - j < fm → ∃ r, X4_howSent_L24 F (X4_howSent_L12 F gx) fx (nI n) acc (nI (2 ^ n - 1 - S)) (nI (n - (m + 1))) 0 (nI j) tx = some (r, tx) ∧ X11_sent_L58 F (X11_sent_L49 F gm) fm (nI n) (nI S) acc (nI (n - (m + 1))) (nI j) tm = some (r, tm) := by
      intro d
      induction d using Nat.strongRecOn with
      | ind d ihd =>
        intro j fx fm hj hfx hfm
        obtain ⟨hx', rfl, -⟩ := fuel hfx
        obtain ⟨hm', rfl, -⟩ := fuel hfm
        have kj : nI j + 1 = nI (j + 1) := litA'
        have kp : nI (n - (m + 1)) + 1 = nI (n - m) := by rw [litA', show n - (m + 1) + 1 = n - m by omega]
        have hwif := wif_X (F := F) (n := n) (A := 2 ^ n - 1 - S) (j := j) (W := W) (τ := tx) hn (by omega) (by omega) hWx (by omega) (fun B _ h2 => hx B h2)
        rw [hpA, show 2 ^ n - 1 - (2 ^ n - 1 - S) = S by omega] at hwif
        have hposj := Nat.two_pow_pos j
        unfold X4_howSent_L24 X11_sent_L58 X4_howSent_j63 X11_sent_j107
        rw [if_neg (nI_ge (show j < n by omega) (by omega)), hwif, cal_some, X10_entry_in (N := 1024) rfl (by omega) (by decide), cal_some, hx _ (by omega), show 2 ^ n - 1 - (2 ^ n - 1 - S) = S by omega, bit_nI (by omega) (by omega), kj, kp]
        by_cases e : S / 2 ^ j % 2 = 1
        · obtain ⟨p1, p2⟩ := pcm_fin S (by omega) j (by omega) e
          have hms := ms_le (W := W) hWle hn (show S - 2 ^ j < 2 ^ n by omega)
          have hw := hWle (6 * (n - (m + 1)) + j) (by omega)
          rw [if_pos e, if_neg (show ¬ nI (S / 2 ^ j % 2) = 0 by rw [e]; decide), shl_p (by omega), an_fin S (by omega) j (by omega) e, ald_nI (by omega) (by omega), litM, litA, nI_add, ald_nI (by omega) (by omega), ald_nI (by omega) (by omega), hm _ (by omega), Nat.add_assoc, (hW _ (by omega)).2.2, hm S hS, nI_add, Nat.add_comm (ms W n (S - 2 ^ j))]
          have heq : (nI (W (6 * (n - (m + 1)) + j) + ms W n (S - 2 ^ j)) = nI (ms W n S)) ↔ W (6 * (n - (m + 1)) + j) + ms W n (S - 2 ^ j) = ms W n S := nI_eq (by omega) (by omega)
          by_cases w : W (6 * (n - (m + 1)) + j) + ms W n (S - 2 ^ j) = ms W n S
          · rw [if_pos (heq.mpr w), if_pos (heq.mpr w)]
            have e0 : (2 ^ n - 1 - S) / 2 ^ j % 2 = 0 := by have := co.2 j (by omega); omega
            rw [or_fin _ (by omega) j (by omega) e0, show 2 ^ n - 1 - S + 2 ^ j = 2 ^ n - 1 - (S - 2 ^ j) by omega]
            exact ih (S - 2 ^ j) gx gm _ (by omega) (by omega) (by omega) (by omega)
          · rw [if_neg (fun z => w (heq.mp z)), if_neg (fun z => w (heq.mp z))]
            have hne : j ≠ js := by
              intro z
              subst z
              rw [hp] at j3
              exact w j3
            exact ihd (d - 1) (by omega) (j + 1) hx' hm' (by omega) (by omega) (by omega)
        · have hne : j ≠ js := by
            intro z
            subst z
            exact e j2
          rw [if_neg e, if_neg (show ¬ ((-1 : Int32) = nI (ms W n S)) from fun z => (nI_m1 (by omega)).mp z.symm), if_pos (by rw [show S / 2 ^ j % 2 = 0 by omega]; rfl)]
          exact ihd (d - 1) (by omega) (j + 1) hx' hm' (by omega) (by omega) (by omega)
    obtain ⟨r, r1, r2⟩ := key js 0 F F (by omega) (by omega) (by omega)
    refine ⟨r, ?_, ?_⟩
    · conv => lhs; unfold X4_howSent_L12
      rw [if_neg (nI_ge (by omega) (by omega))]
      exact r1
    · conv => lhs; unfold X11_sent_L49
      rw [if_neg (nI_ge (by omega) (by omega))]
      exact r2
theorem pc_full : ∀ n, n < 9 → pc (2 ^ n - 1) = n := by decide +kernel
theorem step28 (F : Nat) (hF : 5000 ≤ F) : Step28 F Rl := by
  intro n tx tm a1 a2 _ h
  have no : ∀ (x m : Option (Int32 × Tau)), x = some (-1, tx) → m = some (-1, tm) → ∃ r tx' tm', x = some (r, tx') ∧ m = some (r, tm') ∧ Rl (n + 1) tx' tm' := fun x m e1 e2 => ⟨-1, tx, tm, e1, e2, Rl_mono n tx tm h⟩
  obtain ⟨nP, nM, q, hP⟩ := h.pc
  obtain ⟨W, hW⟩ := hP.worths
  unfold X10_sent X11_sent
  rw [X10_within_eq, cal_some, X11_isIn_eq, cal_some]
  by_cases p1 : (1 : Int32) ≤ a1 ∧ a1 ≤ 6
  · obtain ⟨N, N1, N6, rfl⟩ := in_ex (lo := 1) (hi := 6) p1 (by decide) (by decide)
    have h64 : 2 ^ N ≤ 64 := Nat.pow_le_pow_right (n := 2) (by decide) (show N ≤ 6 from N6)
    have hpos := Nat.two_pow_pos N
    obtain ⟨x1, e1, e2, e3⟩ := plan_X (F := F) (tx := tx) hF N1 N6 (fun k hk => ⟨(hW k hk).1, (hW k hk).2.1⟩)
    obtain ⟨m1, f1, f2, f3⟩ := lay_M (F := F) (tm := tm) hF N1 N6 (fun k hk => ⟨(hW k hk).1, (hW k hk).2.2⟩)
    have hend : Rl (n + 1) x1 m1 := Rl.same h (fun c j hc => e3 c j (by rcases hc with hc | hc; (unfold wnX at hc; omega); (unfold coX at hc; omega))) (fun c j hc => f3 c j (by rcases hc with hc | hc; omega; (unfold coM at hc; omega)))
    rw [bI_t p1, if_neg n10, if_neg n10, X11_isIn_eq, cal_some]
    by_cases c0 : a2 = 0
    · unfold X4_mostSent
      rw [if_pos c0, bI_t (show (0 : Int32) ≤ a2 ∧ a2 ≤ 1 by rw [c0]; decide), if_neg n10, e1, cal_some, f1, cal_some, if_pos c0, ald_lit (by decide) (by decide), cal_some, shl_p (by omega), litS (show 1 ≤ 2 ^ N by omega), ald_nI (by omega) (by omega), f2 _ (by omega), show x1 214 0 = _ from e2 0 (by omega), Nat.sub_zero]
      exact ⟨_, x1, m1, rfl, rfl, hend⟩
    · rw [if_neg c0]
      by_cases c1 : a2 = 1
      · obtain ⟨r, r1, r2⟩ := how_eq (F := F) (n := N) (W := W) (tx := x1) (tm := m1) hF N1 N6 (fun k hk => ⟨(hW k hk).1, (e3 _ _ (by decide)).trans (hW k hk).2.1, (f3 _ _ (by decide)).trans (hW k hk).2.2⟩) e2 f2 N (2 ^ N - 1) F F 0 (by omega) (pc_full N (by omega)) (by omega) (by omega)
        rw [Nat.sub_self, Nat.sub_self] at r1
        rw [Nat.sub_self] at r2
        unfold X4_howSent
        rw [if_pos c1, bI_t (show (0 : Int32) ≤ a2 ∧ a2 ≤ 1 by rw [c1]; decide), if_neg n10, e1, cal_some, f1, cal_some, if_neg c0, show X4_howSent_L12 F F (nI N) 0 0 0 x1 = some (r, x1) from r1, cal_some, shl_p (by omega), litS (show 1 ≤ 2 ^ N by omega), show X11_sent_L49 F F (nI N) (nI (2 ^ N - 1)) 0 0 m1 = some (r, m1) from r2]
        exact ⟨_, x1, m1, rfl, rfl, hend⟩
      · rw [if_neg c1, bI_f, if_pos rfl]
        · exact no _ _ rfl rfl
        · intro z
          obtain ⟨j, j1, j2, rfl⟩ := in_ex (lo := 0) (hi := 1) z (by decide) (by decide)
          have : j = 0 ∨ j = 1 := by omega
          rcases this with rfl | rfl
          · exact c0 rfl
          · exact c1 rfl
  · rw [bI_f p1, if_pos rfl, if_pos rfl]
    exact no _ _ rfl rfl
