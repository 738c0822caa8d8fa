/-! PURE PART. Steps: hats -/
theorem nI_and (a b : Nat) : nI a &&& nI b = nI (a &&& b) := by
  apply Int32.toBitVec_inj.mp
  rw [Int32.toBitVec_and]
  exact (BitVec.ofNat_and (w := 32) (x := a) (y := b)).symm
theorem bit_and {a b j : Nat} : ((a &&& b) / 2 ^ j % 2 = 1) ↔ (a / 2 ^ j % 2 = 1 ∧ b / 2 ^ j % 2 = 1) := by
  have h := Nat.testBit_and a b j
  rw [Nat.testBit_eq_decide_div_mod_eq, Nat.testBit_eq_decide_div_mod_eq, Nat.testBit_eq_decide_div_mod_eq] at h
  constructor
  · intro e
    rw [decide_eq_true e] at h
    have := h.symm
    rw [Bool.and_eq_true, decide_eq_true_eq, decide_eq_true_eq] at this
    exact this
  · rintro ⟨e1, e2⟩
    rw [decide_eq_true e1, decide_eq_true e2] at h
    exact of_decide_eq_true h
theorem xo_fin : ∀ A, A < 256 → ∀ j, j < 8 → (A / 2 ^ j % 2 = 1 → nI A ^^^ nI (2 ^ j) = nI (A - 2 ^ j)) := by decide +kernel
theorem pc_pos : ∀ A, A < 256 → A ≠ 0 → 1 ≤ pc A := by decide +kernel
theorem pc_le8 : ∀ A, A < 256 → pc A ≤ 8 := by decide +kernel
def smF (t : Nat → Nat) (S M : Nat) : Nat → Nat → Nat → Nat
  | 0, _, acc => acc
  | m + 1, j, acc => smF t S M m (j + 1) (if S / 2 ^ j % 2 = 1 ∧ M / 2 ^ j % 2 = 1 then acc + t j else acc)
def hwN (K : Nat → Nat) (n : Nat) : Nat → Nat → Nat
  | 0, S => if S = 0 then 1 else 0
  | k + 1, S => smF (fun j => hwN K n k (S - 2 ^ j)) S (K k) n 0 0
theorem Pc.hatm {T nP nM : Nat} {q : Nat → Nat} {tx tm : Tau} (h : Pc T nP nM q tx tm) : ∃ K : Nat → Nat, ∀ k, k < 8 → K k ≤ 255 ∧ tx 38 k = nI (K k) ∧ tm 1 (666 + k) = nI (K k) := by
  have ho := cel_out (c := 37) (by decide) (by decide) (by decide) h.1.2.2.2.2.2.2.2.2.1.2.2.2.2.2.2.2.2.2.2.2.2.2.2.2.2.2
  have : ∀ k, ∃ v, k < 8 → v ≤ 255 ∧ tx 38 k = nI v ∧ tm 1 (666 + k) = nI v := by
    intro k
    by_cases hk : k < 8
    · obtain ⟨v, hv⟩ := ho k hk
      exact ⟨v, fun _ => hv⟩
    · exact ⟨0, fun z => absurd z hk⟩
  exact ⟨fun k => (this k).choose, fun k => (this k).choose_spec⟩
theorem hats_X {F n : Nat} {K : Nat → Nat} {tx : Tau} (hF : 5000 ≤ F) (n1 : 1 ≤ n) (hn : n ≤ 8) (hK : ∀ k, k < 8 → K k ≤ 255 ∧ tx 38 k = nI (K k)) : ∃ tx', X4_waysOfHats F (nI n) tx = some (nI (hwN K n n (2 ^ n - 1)), tx') ∧ ∀ c j, c ≠ 214 → tx' c j = tx c j := by
  have h256 : 2 ^ n ≤ 256 := Nat.pow_le_pow_right (n := 2) (by decide) (show n ≤ 8 from hn)
  have hpos := Nat.two_pow_pos n
  have cg : ∀ (S k M : Nat), S < 256 → pc S = k + 1 → ∀ m j acc, j + m ≤ 8 → smF (fun j => hwN K n (pc (S - 2 ^ j)) (S - 2 ^ j)) S M m j acc = smF (fun j => hwN K n k (S - 2 ^ j)) S M m j acc := by
    intro S k M hS hp m
    induction m with
    | zero => intro j acc _; rfl
    | succ m ih =>
      intro j acc hj
      show smF _ S M m (j + 1) (if S / 2 ^ j % 2 = 1 ∧ M / 2 ^ j % 2 = 1 then acc + hwN K n (pc (S - 2 ^ j)) (S - 2 ^ j) else acc) = smF _ S M m (j + 1) (if S / 2 ^ j % 2 = 1 ∧ M / 2 ^ j % 2 = 1 then acc + hwN K n k (S - 2 ^ j) else acc)
      by_cases e : S / 2 ^ j % 2 = 1 ∧ M / 2 ^ j % 2 = 1
      · have := (pcm_fin S hS j (by omega) e.1).1
        rw [if_pos e, if_pos e, show pc (S - 2 ^ j) = k by omega, ih _ _ (by omega)]
      · rw [if_neg e, if_neg e, ih _ _ (by omega)]
  have inner : ∀ (S M : Nat) (self : Int32 → Int32 → Int32 → Tau → Option (Int32 × Tau)) (z : Int32) (τ : Tau), S < 2 ^ n → M ≤ 255 → (∀ B, B < S → τ 214 B = nI (hwN K n (pc B) B)) → ∀ (m j f acc : Nat), j + m = n → m < f → X4_waysOfHats_L50 F self f (nI n) z (nI S) (nI (S &&& M)) (nI acc) (nI j) τ = self (nI n) z (nI (S + 1)) (up τ 214 S (nI (smF (fun j => hwN K n (pc (S - 2 ^ j)) (S - 2 ^ j)) S M m j acc))) := by
    intro S M self z τ hS hM hl m
    induction m with
    | zero =>
      intro j f acc hj hf
      obtain ⟨g, rfl, -⟩ := fuel hf
      unfold X4_waysOfHats_L50
      rw [if_pos (nI_le (by omega) (by omega)), X10_put_in (N := 1024) rfl (by omega) (by decide), cal_some, litA']
      rfl
    | succ m ih =>
      intro j f acc hj hf
      obtain ⟨g, rfl, -⟩ := fuel hf
      have hle : S &&& M ≤ S := Nat.and_le_left
      have kj : nI j + 1 = nI (j + 1) := litA'
      have hposj := Nat.two_pow_pos j
      conv => lhs; unfold X4_waysOfHats_L50
      unfold X4_waysOfHats_j85
      rw [if_neg (nI_ge (by omega) (by omega)), bit_nI (by omega) (by omega), kj]
      rw [show smF (fun j => hwN K n (pc (S - 2 ^ j)) (S - 2 ^ j)) S M (m + 1) j acc = smF (fun j => hwN K n (pc (S - 2 ^ j)) (S - 2 ^ j)) S M m (j + 1) (if S / 2 ^ j % 2 = 1 ∧ M / 2 ^ j % 2 = 1 then acc + hwN K n (pc (S - 2 ^ j)) (S - 2 ^ j) else acc) from rfl]
      by_cases e : S / 2 ^ j % 2 = 1 ∧ M / 2 ^ j % 2 = 1
      · have := (pcm_fin S (by omega) j (by omega) e.1).2
        rw [if_pos e, if_neg (show ¬ nI ((S &&& M) / 2 ^ j % 2) = 0 by rw [bit_and.mpr e]; decide), shl_p (by omega), xo_fin S (by omega) j (by omega) e.1, X10_entry_in (N := 1024) rfl (by omega) (by decide), cal_some, hl _ (by omega), nI_add]
        exact ih (j + 1) g _ (by omega) (by omega)
      · have hb : (S &&& M) / 2 ^ j % 2 = 0 := by
          have : ¬ (S &&& M) / 2 ^ j % 2 = 1 := fun z => e (bit_and.mp z)
          omega
        rw [if_neg e, if_pos (by rw [hb]; rfl), show nI acc + (0 : Int32) = nI (acc + 0) from litA', Nat.add_zero]
        exact ih (j + 1) g _ (by omega) (by omega)
  have outer : ∀ (m S f : Nat) (τ : Tau), S + m = 2 ^ n → 1 ≤ S → m < f → (∀ B, B < S → τ 214 B = nI (hwN K n (pc B) B)) → (∀ c i, c ≠ 214 → τ c i = tx c i) → ∃ τ', X4_waysOfHats_L19 F f (nI n) (nI (2 ^ n - 1)) (nI S) τ = some (nI (hwN K n n (2 ^ n - 1)), τ') ∧ ∀ c j, c ≠ 214 → τ' c j = tx c j := by
    intro m
    induction m with
    | zero =>
      intro S f τ hS h1 hf hl hc
      obtain ⟨g, rfl, -⟩ := fuel hf
      refine ⟨τ, ?_, hc⟩
      unfold X4_waysOfHats_L19
      rw [if_pos (nI_lt (by omega) (by omega)), X10_entry_in (N := 1024) rfl (by omega) (by decide), cal_some, hl _ (by omega), pc_full n (by omega)]
    | succ m ih =>
      intro S f τ hS h1 hf hl hc
      obtain ⟨g, rfl, -⟩ := fuel hf
      have hp := pc_pos S (by omega) (by omega)
      have hp8 := pc_le8 S (by omega)
      obtain ⟨hM, hMx⟩ := hK (pc S - 1) (by omega)
      have hi := inner S (K (pc S - 1)) (X4_waysOfHats_L19 F g) (nI (2 ^ n - 1)) τ (by omega) hM hl n 0 F 0 (by omega) (by omega)
      rw [cg S (pc S - 1) _ (by omega) (by omega) n 0 0 (by omega)] at hi
      have hrec : hwN K n (pc S) S = smF (fun j => hwN K n (pc S - 1) (S - 2 ^ j)) S (K (pc S - 1)) n 0 0 := by
        conv => lhs; rw [show pc S = (pc S - 1) + 1 by omega]
        rfl
      obtain ⟨τ', f1, f2⟩ := ih (S + 1) g _ (by omega) (by omega) (by omega) (show ∀ B, B < S + 1 → up τ 214 S (nI (smF (fun j => hwN K n (pc S - 1) (S - 2 ^ j)) S (K (pc S - 1)) n 0 0)) 214 B = nI (hwN K n (pc B) B) from fun B hB => by
        by_cases e : B = S
        · subst e; rw [up_c, hrec]
        · rw [up_nj e]; exact hl B (by omega)) (fun c i hci => (up_nc hci).trans (hc c i hci))
      refine ⟨τ', ?_, f2⟩
      conv => lhs; unfold X4_waysOfHats_L19
      rw [if_neg (show ¬ nI (2 ^ n - 1) < nI S by rw [nI_ltI (by omega) (by omega)]; omega), bitc_fin S (by omega), cal_some, litS (show 1 ≤ pc S from hp), X10_entry_in (N := 8) rfl (by omega) (by decide), cal_some, hc 38 _ (by decide), hMx, nI_and]
      exact hi.trans f1
  obtain ⟨τ', f1, f2⟩ := outer (2 ^ n - 1) 1 F (up tx 214 0 1) (by omega) (by decide) (by omega) (fun B hB => by
    have : B = 0 := by omega
    subst this
    rw [up_c]
    rfl) (fun c i hci => up_nc hci)
  refine ⟨τ', ?_, f2⟩
  unfold X4_waysOfHats
  rw [show X10_put F 214 0 1 1 tx = some (1, up tx 214 0 1) from X10_put_in (j := 0) (N := 1024) rfl (by decide) (by decide), cal_some, shl_p (by omega), litS (show 1 ≤ 2 ^ n by omega)]
  exact f1
theorem hats_M {F n : Nat} {K : Nat → Nat} {tm : Tau} (hF : 5000 ≤ F) (n1 : 1 ≤ n) (hn : n ≤ 8) (hK : ∀ k, k < 8 → K k ≤ 255 ∧ tm 1 (666 + k) = nI (K k)) : ∃ tm', X11_hats_L14 F F (nI n) 0 tm = some (nI (hwN K n n (2 ^ n - 1)), tm') ∧ ∀ c j, c ≠ 15 → c ≠ 16 → tm' c j = tm c j := by
  have h256 : 2 ^ n ≤ 256 := Nat.pow_le_pow_right (n := 2) (by decide) (show n ≤ 8 from hn)
  have hpos := Nat.two_pow_pos n
  have inner : ∀ (S i : Nat) (s44 : Int32 → Int32 → Tau → Option (Int32 × Tau)) (s51 : Int32 → Int32 → Int32 → Tau → Option (Int32 × Tau)), S < 2 ^ n → i < n → ∀ (m j f acc : Nat) (τ : Tau), j + m = n → m < f → (∀ B, B < 2 ^ n → τ 15 B = nI (hwN K n i B)) → (∀ c k, c ≠ 15 → c ≠ 16 → τ c k = tm c k) → τ 16 S = nI acc → ∃ τ', X11_hats_L68 F s44 s51 f (nI n) (nI i) (nI S) (nI j) τ = s51 (nI n) (nI i) (nI (S + 1)) τ' ∧ τ' 16 S = nI (smF (fun j => hwN K n i (S - 2 ^ j)) S (K i) m j acc) ∧ (∀ B, B ≠ S → τ' 16 B = τ 16 B) ∧ ∀ c k, c ≠ 16 → τ' c k = τ c k := by
    intro S i s44 s51 hS hi m
    obtain ⟨hM, hMx⟩ := hK i (by omega)
    induction m with
    | zero =>
      intro j f acc τ hj hf hl hc hs
      obtain ⟨g, rfl, -⟩ := fuel hf
      refine ⟨τ, ?_, hs, fun _ _ => rfl, fun _ _ _ => rfl⟩
      unfold X11_hats_L68
      rw [if_pos (nI_le (by omega) (by omega)), litA']
    | succ m ih =>
      intro j f acc τ hj hf hl hc hs
      obtain ⟨g, rfl, -⟩ := fuel hf
      have kj : nI j + 1 = nI (j + 1) := litA'
      have hposj := Nat.two_pow_pos j
      have hX1 : ¬ nI n ≤ nI j := nI_ge (by omega) (by omega)
      have hw : τ 1 (666 + i) = nI (K i) := (hc 1 _ (by decide) (by decide)).trans hMx
      have hrr : smF (fun j => hwN K n i (S - 2 ^ j)) S (K i) (m + 1) j acc = smF (fun j => hwN K n i (S - 2 ^ j)) S (K i) m (j + 1) (if S / 2 ^ j % 2 = 1 ∧ K i / 2 ^ j % 2 = 1 then acc + hwN K n i (S - 2 ^ j) else acc) := rfl
      by_cases e : S / 2 ^ j % 2 = 1 ∧ K i / 2 ^ j % 2 = 1
      · have := (pcm_fin S (by omega) j (by omega) e.1).2
        obtain ⟨τ', e1, e2, e3, e4⟩ := ih (j + 1) g (acc + hwN K n i (S - 2 ^ j)) (up τ 16 S (nI (acc + hwN K n i (S - 2 ^ j)))) (by omega) (by omega) (fun B hB => (up_nc (by decide)).trans (hl B hB)) (fun c k h1 h2 => (up_nc h2).trans (hc c k h1 h2)) up_c
        refine ⟨τ', ?_, ?_, fun B hB => (e3 B hB).trans (up_nj hB), fun c k hck => (e4 c k hck).trans (up_nc hck)⟩
        · conv => lhs; unfold X11_hats_L68
          unfold X11_hats_j125
          rw [if_neg hX1, bit_nI (by omega) (by omega), if_pos (by rw [e.1]; rfl), litA, ald_nI (by omega) (by omega), hw, bit_nI (by omega) (by omega), if_pos (by rw [e.2]; rfl), ald_nI (by omega) (by omega), hs, shl_p (by omega), an_fin S (by omega) j (by omega) e.1, ald_nI (by omega) (by omega), hl _ (by omega), nI_add, ast_nI (by omega) (by omega), kj, e1]
        · rw [e2, hrr, if_pos e]
      · obtain ⟨τ', e1, e2, e3, e4⟩ := ih (j + 1) g acc τ (by omega) (by omega) hl hc hs
        refine ⟨τ', ?_, ?_, e3, e4⟩
        · conv => lhs; unfold X11_hats_L68
          unfold X11_hats_j125
          rw [if_neg hX1, bit_nI (by omega) (by omega), kj, e1, litA, ald_nI (by omega) (by omega), hw, bit_nI (by omega) (by omega)]
          by_cases e1' : S / 2 ^ j % 2 = 1
          · rw [if_pos (by rw [e1']; rfl), if_neg (show ¬ nI (K i / 2 ^ j % 2) = 1 by rw [lit_eq (by decide) (by omega)]; exact fun z => e ⟨e1', z⟩)]
          · rw [if_neg (show ¬ nI (S / 2 ^ j % 2) = 1 by rw [lit_eq (by decide) (by omega)]; exact e1')]
        · rw [e2, hrr, if_neg e]
  have copy : ∀ (i : Nat) (s44 : Int32 → Int32 → Tau → Option (Int32 × Tau)), i < n → ∀ (m S f : Nat) (τ : Tau), S + m = 2 ^ n → m < f → (∀ B, B < 2 ^ n → τ 16 B = nI (hwN K n (i + 1) B)) → (∀ B, B < S → τ 15 B = nI (hwN K n (i + 1) B)) → ∃ τ', X11_hats_L139 F s44 f (nI n) (nI i) (nI S) τ = s44 (nI n) (nI (i + 1)) τ' ∧ (∀ B, B < 2 ^ n → τ' 15 B = nI (hwN K n (i + 1) B)) ∧ ∀ c k, c ≠ 15 → τ' c k = τ c k := by
    intro i s44 hi m
    induction m with
    | zero =>
      intro S f τ hS hf h16 h15
      obtain ⟨g, rfl, -⟩ := fuel hf
      have : S = 2 ^ n := by omega
      subst this
      refine ⟨τ, ?_, h15, fun _ _ _ => rfl⟩
      unfold X11_hats_L139
      rw [shl_p (by omega), if_pos (nI_le (Nat.le_refl _) (by omega)), litA']
    | succ m ih =>
      intro S f τ hS hf h16 h15
      obtain ⟨g, rfl, -⟩ := fuel hf
      obtain ⟨τ', e1, e2, e3⟩ := ih (S + 1) g (up τ 15 S (τ 16 S)) (by omega) (by omega) (fun B hB => (up_nc (by decide)).trans (h16 B hB)) (fun B hB => by
        by_cases e : B = S
        · subst e; rw [up_c]; exact h16 _ (by omega)
        · rw [up_nj e]; exact h15 B (by omega))
      refine ⟨τ', ?_, e2, fun c k hc => (e3 c k hc).trans (up_nc hc)⟩
      conv => lhs; unfold X11_hats_L139
      rw [shl_p (by omega), if_neg (nI_ge (by omega) (by omega)), ald_nI (by omega) (by omega), ast_nI (by omega) (by omega), litA', e1]
  have sets : ∀ (i : Nat) (s44 : Int32 → Int32 → Tau → Option (Int32 × Tau)), i < n → ∀ (m S f : Nat) (τ : Tau), S + m = 2 ^ n → m < f → (∀ B, B < 2 ^ n → τ 15 B = nI (hwN K n i B)) → (∀ B, B < S → τ 16 B = nI (hwN K n (i + 1) B)) → (∀ c k, c ≠ 15 → c ≠ 16 → τ c k = tm c k) → ∃ τ', X11_hats_L51 F s44 f (nI n) (nI i) (nI S) τ = s44 (nI n) (nI (i + 1)) τ' ∧ (∀ B, B < 2 ^ n → τ' 15 B = nI (hwN K n (i + 1) B)) ∧ ∀ c k, c ≠ 15 → c ≠ 16 → τ' c k = tm c k := by
    intro i s44 hi m
    induction m with
    | zero =>
      intro S f τ hS hf h15 h16 hc
      obtain ⟨g, rfl, -⟩ := fuel hf
      have : S = 2 ^ n := by omega
      subst this
      obtain ⟨τ', e1, e2, e3⟩ := copy i s44 hi (2 ^ n) 0 F τ (by omega) (by omega) h16 (fun B hB => absurd hB (Nat.not_lt_zero B))
      refine ⟨τ', ?_, e2, fun c k h1 h2 => (e3 c k h1).trans (hc c k h1 h2)⟩
      unfold X11_hats_L51
      rw [shl_p (by omega), if_pos (nI_le (Nat.le_refl _) (by omega))]
      exact e1
    | succ m ih =>
      intro S f τ hS hf h15 h16 hc
      obtain ⟨g, rfl, -⟩ := fuel hf
      obtain ⟨τ1, e1, e2, e3, e4⟩ := inner S i s44 (X11_hats_L51 F s44 g) (by omega) hi n 0 F 0 (up τ 16 S 0) (by omega) (by omega) (fun B hB => (up_nc (by decide)).trans (h15 B hB)) (fun c k h1 h2 => (up_nc h2).trans (hc c k h1 h2)) up_c
      obtain ⟨τ2, f1, f2, f3⟩ := ih (S + 1) g τ1 (by omega) (by omega) (fun B hB => by rw [e4 _ _ (by decide), up_nc (by decide)]; exact h15 B hB) (fun B hB => by
        by_cases e : B = S
        · subst e; exact e2
        · rw [e3 B e, up_nj e]; exact h16 B (by omega)) (fun c k h1 h2 => by rw [e4 c k h2, up_nc h2]; exact hc c k h1 h2)
      refine ⟨τ2, ?_, f2, f3⟩
      conv => lhs; unfold X11_hats_L51
      rw [shl_p (by omega), if_neg (nI_ge (by omega) (by omega)), ast_nI (by omega) (by omega)]
      exact e1.trans f1
  have hats : ∀ (m i f : Nat) (τ : Tau), i + m = n → m < f → (∀ B, B < 2 ^ n → τ 15 B = nI (hwN K n i B)) → (∀ c k, c ≠ 15 → c ≠ 16 → τ c k = tm c k) → ∃ τ', X11_hats_L44 F f (nI n) (nI i) τ = some (nI (hwN K n n (2 ^ n - 1)), τ') ∧ ∀ c k, c ≠ 15 → c ≠ 16 → τ' c k = tm c k := by
    intro m
    induction m with
    | zero =>
      intro i f τ hi hf h15 hc
      obtain ⟨g, rfl, -⟩ := fuel hf
      have : i = n := by omega
      subst this
      refine ⟨τ, ?_, hc⟩
      unfold X11_hats_L44
      rw [if_pos (nI_le (Nat.le_refl _) (by omega)), shl_p (by omega), litS (show 1 ≤ 2 ^ i by omega), ald_nI (by omega) (by omega), h15 _ (by omega)]
    | succ m ih =>
      intro i f τ hi hf h15 hc
      obtain ⟨g, rfl, -⟩ := fuel hf
      obtain ⟨τ1, e1, e2, e3⟩ := sets i (X11_hats_L44 F g) (by omega) (2 ^ n) 0 F τ (by omega) (by omega) h15 (fun B hB => absurd hB (Nat.not_lt_zero B)) hc
      obtain ⟨τ2, f1, f2⟩ := ih (i + 1) g τ1 (by omega) (by omega) e2 e3
      refine ⟨τ2, ?_, f2⟩
      conv => lhs; unfold X11_hats_L44
      rw [if_neg (nI_ge (by omega) (by omega))]
      exact e1.trans f1
  have init : ∀ (m S f : Nat) (τ : Tau), S + m = 2 ^ n → m < f → (∀ B, B < S → τ 15 B = nI (hwN K n 0 B)) → (∀ c k, c ≠ 15 → c ≠ 16 → τ c k = tm c k) → ∃ τ', X11_hats_L14 F f (nI n) (nI S) τ = some (nI (hwN K n n (2 ^ n - 1)), τ') ∧ ∀ c k, c ≠ 15 → c ≠ 16 → τ' c k = tm c k := by
    intro m
    induction m with
    | zero =>
      intro S f τ hS hf h15 hc
      obtain ⟨g, rfl, -⟩ := fuel hf
      have : S = 2 ^ n := by omega
      subst this
      obtain ⟨τ2, f1, f2⟩ := hats n 0 F τ (by omega) (by omega) h15 hc
      refine ⟨τ2, ?_, f2⟩
      unfold X11_hats_L14
      rw [shl_p (by omega), if_pos (nI_le (Nat.le_refl _) (by omega))]
      exact f1
    | succ m ih =>
      intro S f τ hS hf h15 hc
      obtain ⟨g, rfl, -⟩ := fuel hf
      obtain ⟨τ2, f1, f2⟩ := ih (S + 1) g (up τ 15 S (nI (hwN K n 0 S))) (by omega) (by omega) (fun B hB => by
        by_cases e : B = S
        · subst e; rw [up_c]
        · rw [up_nj e]; exact h15 B (by omega)) (fun c k h1 h2 => (up_nc h1).trans (hc c k h1 h2))
      refine ⟨τ2, ?_, f2⟩
      conv => lhs; unfold X11_hats_L14
      unfold X11_hats_j35
      rw [shl_p (by omega), if_neg (nI_ge (by omega) (by omega)), litA', ast_nI (by omega) (by omega), ast_nI (by omega) (by omega), ← f1]
      by_cases e : S = 0
      · rw [if_pos (by rw [e]; rfl), show hwN K n 0 S = 1 from if_pos e]; rfl
      · rw [if_neg (show ¬ nI S = 0 by rw [lit_eq (by decide) (by omega)]; exact e), show hwN K n 0 S = 0 from if_neg e]; rfl
  exact init (2 ^ n) 0 F tm (by omega) (by omega) (fun B hB => absurd hB (Nat.not_lt_zero B)) (fun _ _ _ _ => rfl)
theorem step34 (F : Nat) (hF : 5000 ≤ F) : Step34 F Rl := by
  intro n tx tm a1 _ h
  obtain ⟨nP, nM, q, hP⟩ := h.pc
  obtain ⟨K, hK⟩ := hP.hatm
  unfold X10_hats X11_hats
  rw [X10_within_eq, cal_some, X11_isIn_eq, cal_some]
  by_cases p1 : (1 : Int32) ≤ a1 ∧ a1 ≤ 8
  · obtain ⟨N, N1, N8, rfl⟩ := in_ex (lo := 1) (hi := 8) p1 (by decide) (by decide)
    obtain ⟨x1, e1, e3⟩ := hats_X (F := F) (tx := tx) hF N1 N8 (fun k hk => ⟨(hK k hk).1, (hK k hk).2.1⟩)
    obtain ⟨m1, f1, f3⟩ := hats_M (F := F) (tm := tm) hF N1 N8 (fun k hk => ⟨(hK k hk).1, (hK k hk).2.2⟩)
    rw [bI_t p1, if_neg n10, if_neg n10, e1, cal_some, f1]
    exact ⟨_, x1, m1, rfl, rfl, Rl.same h (fun c j hc => e3 c j (by rcases hc with hc | hc; (unfold wnX at hc; omega); (unfold coX at hc; omega))) (fun c j hc => f3 c j (by rcases hc with hc | hc; omega; (unfold coM at hc; omega)) (by rcases hc with hc | hc; omega; (unfold coM at hc; omega)))⟩
  · rw [bI_f p1, if_pos rfl, if_pos rfl]
    exact ⟨-1, tx, tm, rfl, rfl, Rl_mono n tx tm h⟩
