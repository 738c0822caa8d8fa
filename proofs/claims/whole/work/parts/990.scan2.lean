/-! PURE PART. Texts: the class's tokens -/
def pls (y : Nat → Nat) (l : Nat) : Nat → Nat
  | 0 => 0
  | j + 1 => ten y l (pls y l j)
def stt (y : Nat → Nat) (l j : Nat) : Nat := trn y l 0 (pls y l j)
theorem pls_b {y : Nat → Nat} {l : Nat} : ∀ j, pls y l j ≤ l := by
  intro j
  induction j with
  | zero => exact Nat.zero_le _
  | succ j ih => exact (ten_b ih).2.1
theorem stt_b {y : Nat → Nat} {l j : Nat} : pls y l j ≤ stt y l j ∧ stt y l j ≤ pls y l (j + 1) ∧ stt y l j ≤ l ∧ (stt y l j < l → stt y l j < pls y l (j + 1)) := by
  have h := pls_b (y := y) (l := l) j
  obtain ⟨a, b, -, -⟩ := trn_b (y := y) (l := l) (k := 0) (l - pls y l j) (pls y l j) (by omega)
  obtain ⟨c, d, e⟩ := ten_b (y := y) h
  exact ⟨a, c, b, e⟩
theorem pls_n {y : Nat → Nat} {l : Nat} : ∀ n, (∀ j, j < n → stt y l j < l) → n ≤ pls y l n := by
  intro n
  induction n with
  | zero => exact fun _ => Nat.zero_le _
  | succ n ih =>
    intro h
    have h1 := ih (fun j hj => h j (by omega))
    have h2 := stt_b (y := y) (l := l) (j := n)
    have h3 := h n (by omega)
    omega
def addT (τ : Tau) (n k i : Nat) : Tau := up (up (up (up (up τ 199 n (nI k)) 200 n (nI i)) 201 n 1) 202 n 0) 197 3 (nI (n + 1))
theorem tadd_X {F n k i : Nat} {τ : Tau} (h : τ 197 3 = nI n) (hn : n ≤ 400) : X6_add F (nI k) (nI i) τ = some (0, addT τ n k i) := by
  have kk : nI n + 1 = nI (n + 1) := litA'
  have h1 : ∀ v, up τ 199 n v 197 3 = nI n := fun v => (up_nc (by decide)).trans h
  have h2 : ∀ v w, up (up τ 199 n v) 200 n w 197 3 = nI n := fun v w => (up_nc (by decide)).trans (h1 v)
  have h3 : ∀ v w x, up (up (up τ 199 n v) 200 n w) 201 n x 197 3 = nI n := fun v w x => (up_nc (by decide)).trans (h2 v w)
  have h4 : ∀ v w x z, up (up (up (up τ 199 n v) 200 n w) 201 n x) 202 n z 197 3 = nI n := fun v w x z => (up_nc (by decide)).trans (h3 v w x)
  unfold X6_add addT
  rw [h, if_neg (show ¬ (400 : Int32) < nI n from nI_nlt (a := 400) (by omega) (by decide)), ast_nI (by omega) (by omega), h1, ast_nI (by omega) (by omega), h2, ast_nI (by omega) (by omega), h3, ast_nI (by omega) (by omega), pst_eq, h4, kk]
theorem L18_pre {F s1 g l i : Nat} {y : Nat → Nat} {a2 : Int32} {τ : Tau} (hF : 5000 ≤ F) (hXY : XY y l τ) (hl : l ≤ 400) (hi : i < l) : X6_scan_L18 F s1 (g + 1) a2 (nI i) τ = if nI (tkd (y i)) = 1 then (X6_scan_j56 F (X6_scan_L18 F s1 g) s1 a2 (nI i) (nI (tkd (y i))) τ) else (if nI (tkd (y i)) = 2 then (X6_scan_j56 F (X6_scan_L18 F s1 g) s1 a2 (nI i) (nI (tkd (y i))) τ) else (X6_scan_j61 F (X6_scan_L18 F s1 g) s1 a2 (nI i) (nI (tkd (y i))) 0 τ)) := by
  obtain ⟨a, b⟩ := hXY.2 i hi
  conv => lhs; unfold X6_scan_L18
  rw [hXY.1, if_neg (nI_ge hi (by omega)), if_neg (show ¬ (400 : Int32) ≤ nI i from nI_ge (b := 400) (by omega) (by decide)), ald_nI (by omega) (by omega), b, kind_X hF a, cal_some]
theorem L18_0 {F s1 g l i : Nat} {y : Nat → Nat} {a2 : Int32} {τ : Tau} (hF : 5000 ≤ F) (hXY : XY y l τ) (hl : l ≤ 400) (hi : i < l) (h0 : tkd (y i) = 0) : X6_scan_L18 F s1 (g + 1) a2 (nI i) τ = X6_scan_L18 F s1 g 0 (nI (i + 1)) τ := by
  have kk : nI i + 1 = nI (i + 1) := litA'
  rw [L18_pre hF hXY hl hi, h0, if_neg (by decide), if_neg (by decide)]
  unfold X6_scan_j61 X6_scan_j99 X6_scan_j111
  rw [if_pos rfl, if_pos (show nI 0 = 0 from rfl), kk]
  rfl
theorem L18_new {F s1 g l i n k : Nat} {y : Nat → Nat} {a2 : Int32} {τ : Tau} (hF : 5000 ≤ F) (hXY : XY y l τ) (hl : l ≤ 400) (hi : i < l) (hk : tkd (y i) = k) (h0 : k ≠ 0) (hc : k = 1 ∨ k = 2 → a2 ≠ nI k) (h : τ 197 3 = nI n) (hn : n ≤ 400) : X6_scan_L18 F s1 (g + 1) a2 (nI i) τ = X6_scan_L18 F s1 g (nI k) (nI (i + 1)) (addT τ n k i) := by
  have kk : nI i + 1 = nI (i + 1) := litA'
  have hk5 : k < 5 := hk ▸ tkd_lt
  have j99 : X6_scan_j99 F (X6_scan_L18 F s1 g) s1 (nI i) (nI k) τ = X6_scan_L18 F s1 g (nI k) (nI (i + 1)) (addT τ n k i) := by
    unfold X6_scan_j99 X6_scan_j111
    rw [if_neg (nI_ne0 (by omega) (by omega)), tadd_X h hn, cal_some, kk]
  rw [L18_pre hF hXY hl hi, hk]
  unfold X6_scan_j56 X6_scan_j61
  by_cases c1 : k = 1
  · rw [if_pos (by rw [c1]; rfl), if_neg n10, if_neg (fun z => hc (.inl c1) z.symm), j99]
  · rw [if_neg (fun z => c1 ((lit_eq (n := 1) (by decide) (by omega)).mp z))]
    by_cases c2 : k = 2
    · rw [if_pos (by rw [c2]; rfl), if_neg n10, if_neg (fun z => hc (.inr c2) z.symm), j99]
    · rw [if_neg (fun z => c2 ((lit_eq (n := 2) (by decide) (by omega)).mp z)), if_pos rfl, j99]
theorem L18_ext {F s1 g l i n k m : Nat} {y : Nat → Nat} {τ : Tau} (hF : 5000 ≤ F) (hXY : XY y l τ) (hl : l ≤ 400) (hi : i < l) (hk : tkd (y i) = k) (h0 : k = 1 ∨ k = 2) (h : τ 197 3 = nI (n + 1)) (hn : n ≤ 400) (hm : τ 201 n = nI m) : X6_scan_L18 F s1 (g + 1) (nI k) (nI i) τ = X6_scan_L18 F s1 g (nI k) (nI (i + 1)) (up τ 201 n (nI (m + 1))) := by
  have kk : nI i + 1 = nI (i + 1) := litA'
  have km : nI m + 1 = nI (m + 1) := litA'
  have kn : nI (n + 1) - 1 = nI n := nI_pred n
  have j61 : X6_scan_j61 F (X6_scan_L18 F s1 g) s1 (nI k) (nI i) (nI k) 1 τ = X6_scan_L18 F s1 g (nI k) (nI (i + 1)) (up τ 201 n (nI (m + 1))) := by
    unfold X6_scan_j61 X6_scan_j111
    rw [if_neg n10, if_pos rfl, h, if_neg (nI_nle (by omega) (by omega)), kn, ald_nI (by omega) (by omega), hm, km, ast_nI (by omega) (by omega), kk]
  rw [L18_pre hF hXY hl hi, hk]
  unfold X6_scan_j56
  rcases h0 with rfl | rfl
  · rw [if_pos (show nI 1 = 1 from rfl), j61]
  · rw [if_neg (by decide), if_pos (show nI 2 = 2 from rfl), j61]
theorem scan_bl {F s1 l : Nat} {y : Nat → Nat} {τ : Tau} (hF : 5000 ≤ F) (hXY : XY y l τ) (hl : l ≤ 400) : ∀ (m i f : Nat) (a2 : Int32), i + m ≤ l → (∀ j, i ≤ j → j < i + m → tkd (y j) = 0) → m < f → X6_scan_L18 F s1 f a2 (nI i) τ = X6_scan_L18 F s1 (f - m) (if m = 0 then a2 else 0) (nI (i + m)) τ := by
  intro m
  induction m with
  | zero => intro i f a2 _ _ _; rw [if_pos rfl, Nat.sub_zero, Nat.add_zero]
  | succ m ih =>
    intro i f a2 hi hb hf
    obtain ⟨g, rfl, -⟩ := fuel hf
    rw [L18_0 hF hXY hl (by omega) (hb i (by omega) (by omega)), ih (i + 1) g 0 (by omega) (fun j h1 h2 => hb j (by omega) (by omega)) (by omega), if_neg (Nat.succ_ne_zero m), show g + 1 - (m + 1) = g - m from by omega, show i + 1 + m = i + (m + 1) from by omega]
    congr 1
    split <;> rfl
def SA (y : Nat → Nat) (l n : Nat) (τ0 τ : Tau) : Prop := τ 197 3 = nI n ∧ (∀ j, j < n → τ 199 j = nI (tkd (y (stt y l j))) ∧ τ 200 j = nI (stt y l j) ∧ τ 201 j = nI (pls y l (j + 1) - stt y l j)) ∧ ∀ c j, ¬ (c = 197 ∧ j = 3) → ¬ (199 ≤ c ∧ c ≤ 202) → τ c j = τ0 c j
def SP (y : Nat → Nat) (l n k s m : Nat) (τ0 τ : Tau) : Prop := τ 197 3 = nI (n + 1) ∧ (∀ j, j < n → τ 199 j = nI (tkd (y (stt y l j))) ∧ τ 200 j = nI (stt y l j) ∧ τ 201 j = nI (pls y l (j + 1) - stt y l j)) ∧ (τ 199 n = nI k ∧ τ 200 n = nI s ∧ τ 201 n = nI m) ∧ ∀ c j, ¬ (c = 197 ∧ j = 3) → ¬ (199 ≤ c ∧ c ≤ 202) → τ c j = τ0 c j
theorem SP_add {y : Nat → Nat} {l n k s : Nat} {τ0 τ : Tau} (h : SA y l n τ0 τ) : SP y l n k s 1 τ0 (addT τ n k s) := by
  obtain ⟨a, b, c⟩ := h
  unfold addT
  refine ⟨up_c, fun j hj => ?_, ⟨?_, ?_, ?_⟩, fun c' j h1 h2 => ?_⟩
  · obtain ⟨b1, b2, b3⟩ := b j hj
    refine ⟨?_, ?_, ?_⟩
    · rw [up_nc (by decide), up_nc (by decide), up_nc (by decide), up_nc (by decide), up_nj (by omega), b1]
    · rw [up_nc (by decide), up_nc (by decide), up_nc (by decide), up_nj (by omega), up_nc (by decide), b2]
    · rw [up_nc (by decide), up_nc (by decide), up_nj (by omega), up_nc (by decide), up_nc (by decide), b3]
  · rw [up_nc (by decide), up_nc (by decide), up_nc (by decide), up_nc (by decide), up_c]
  · rw [up_nc (by decide), up_nc (by decide), up_nc (by decide), up_c]
  · rw [up_nc (by decide), up_nc (by decide), up_c]; rfl
  · rw [up_if, if_neg h1, up_nc (by omega), up_nc (by omega), up_nc (by omega), up_nc (by omega)]
    exact c c' j h1 h2
theorem SP_run {y : Nat → Nat} {F s1 l n k s : Nat} {τ0 : Tau} (hF : 5000 ≤ F) (hl : l ≤ 400) (hk : k = 1 ∨ k = 2) (hn : n ≤ 400) (hXY : XY y l τ0) : ∀ (m q f : Nat) (τ : Tau), q + m ≤ l → s ≤ q → (∀ j, q ≤ j → j < q + m → tkd (y j) = k) → m < f → SP y l n k s (q - s) τ0 τ → ∃ τ', X6_scan_L18 F s1 f (nI k) (nI q) τ = X6_scan_L18 F s1 (f - m) (nI k) (nI (q + m)) τ' ∧ SP y l n k s (q + m - s) τ0 τ' := by
  intro m
  induction m with
  | zero => intro q f τ _ _ _ _ h; exact ⟨τ, rfl, h⟩
  | succ m ih =>
    intro q f τ hq hs hb hf h
    obtain ⟨g, rfl, -⟩ := fuel hf
    obtain ⟨a, b, ⟨c1, c2, c3⟩, d⟩ := h
    obtain ⟨τ', t1, t2⟩ := ih (q + 1) g (up τ 201 n (nI (q - s + 1))) (by omega) (by omega) (fun j h1 h2 => hb j (by omega) (by omega)) (by omega) ⟨by rw [up_nc (by decide)]; exact a, fun j hj => by
      obtain ⟨b1, b2, b3⟩ := b j hj
      exact ⟨by rw [up_nc (by decide)]; exact b1, by rw [up_nc (by decide)]; exact b2, by rw [up_nj (by omega)]; exact b3⟩, ⟨by rw [up_nc (by decide)]; exact c1, by rw [up_nc (by decide)]; exact c2, by rw [up_c, show q - s + 1 = q + 1 - s from by omega]⟩, fun c' j h1 h2 => by rw [up_nc (by omega)]; exact d c' j h1 h2⟩
    refine ⟨τ', ?_, by rw [show q + (m + 1) - s = q + 1 + m - s from by omega]; exact t2⟩
    rw [L18_ext hF (hXY.congr (d _ _ (by decide) (by decide)) (fun j => d _ _ (by omega) (by omega))) hl (by omega) (hb q (by omega) (by omega)) hk a hn c3, t1, show g + 1 - (m + 1) = g - m from by omega, show q + 1 + m = q + (m + 1) from by omega]
def cndA (y : Nat → Nat) (l : Nat) (a2 : Int32) (i : Nat) : Prop := i < l → tkd (y i) = 1 ∨ tkd (y i) = 2 → a2 ≠ nI (tkd (y i))
theorem scan_one {y : Nat → Nat} {F s1 l n f : Nat} {a2 : Int32} {τ0 τ : Tau} (hF : 5000 ≤ F) (hl : l ≤ 400) (hn : n ≤ 400) (hXY : XY y l τ0) (h : SA y l n τ0 τ) (hs : stt y l n < l) (hc : cndA y l a2 (pls y l n)) (hf : l - pls y l n < f) : ∃ τ' a2', X6_scan_L18 F s1 f a2 (nI (pls y l n)) τ = X6_scan_L18 F s1 (f - (pls y l (n + 1) - pls y l n)) a2' (nI (pls y l (n + 1))) τ' ∧ SA y l (n + 1) τ0 τ' ∧ cndA y l a2' (pls y l (n + 1)) := by
  obtain ⟨p1, p2, p3, p4⟩ := stt_b (y := y) (l := l) (j := n)
  have p5 := p4 hs
  have p6 := pls_b (y := y) (l := l) (n + 1)
  have p7 := pls_b (y := y) (l := l) n
  obtain ⟨b1, b2, b3, b4⟩ := trn_b (y := y) (l := l) (k := 0) (l - pls y l n) (pls y l n) (by omega)
  have hx : ∀ τ, SA y l n τ0 τ → XY y l τ := fun τ h => hXY.congr (h.2.2 _ _ (by decide) (by decide)) (fun j => h.2.2 _ _ (by omega) (by omega))
  have e1 := scan_bl (s1 := s1) hF (hx τ h) hl (stt y l n - pls y l n) (pls y l n) f a2 (by omega) (fun j h1 h2 => b3 j h1 (by show j < stt y l n; omega)) (by omega)
  rw [show pls y l n + (stt y l n - pls y l n) = stt y l n from by omega] at e1
  have hk0 : tkd (y (stt y l n)) ≠ 0 := b4 hs
  obtain ⟨g, hg, -⟩ := fuel (show l - stt y l n < f - (stt y l n - pls y l n) by omega)
  have e2 := L18_new (F := F) (s1 := s1) (g := g) (a2 := if stt y l n - pls y l n = 0 then a2 else 0) hF (hx τ h) hl hs rfl hk0 (by
    intro hz
    by_cases c : stt y l n - pls y l n = 0
    · rw [if_pos c]
      have := hc (by omega)
      rw [show pls y l n = stt y l n from by omega] at this
      exact this hz
    · rw [if_neg c]
      exact fun z => nI_ne0 (by omega) (by omega) z.symm) h.1 hn
  rw [e1, hg, e2]
  have hsp : SP y l n (tkd (y (stt y l n))) (stt y l n) 1 τ0 (addT τ n (tkd (y (stt y l n))) (stt y l n)) := SP_add h
  have hte : pls y l (n + 1) = ten y l (pls y l n) := rfl
  have fin : ∀ (m : Nat) (τ' : Tau), stt y l n + 1 + m = pls y l (n + 1) → SP y l n (tkd (y (stt y l n))) (stt y l n) (stt y l n + 1 + m - stt y l n) τ0 τ' → SA y l (n + 1) τ0 τ' := by
    intro m τ' hm hP
    obtain ⟨a, b, ⟨c1, c2, c3⟩, d⟩ := hP
    refine ⟨a, fun j hj => ?_, d⟩
    by_cases e : j = n
    · rw [e]
      exact ⟨c1, c2, by rw [c3, hm]⟩
    · exact b j (by omega)
  have run : ∀ k, k = 1 ∨ k = 2 → tkd (y (stt y l n)) = k → ten y l (pls y l n) = trn y l k (stt y l n) → ∃ τ' a2', X6_scan_L18 F s1 g (nI (tkd (y (stt y l n)))) (nI (stt y l n + 1)) (addT τ n (tkd (y (stt y l n))) (stt y l n)) = X6_scan_L18 F s1 (f - (pls y l (n + 1) - pls y l n)) a2' (nI (pls y l (n + 1))) τ' ∧ SA y l (n + 1) τ0 τ' ∧ cndA y l a2' (pls y l (n + 1)) := by
    intro k hk hkk hten
    obtain ⟨r1, r2, r3, r4⟩ := trn_b (y := y) (l := l) (k := k) (l - stt y l n) (stt y l n) (by omega)
    rw [← hten, ← hte] at r1 r2 r3 r4
    rw [hkk] at hsp fin ⊢
    obtain ⟨τ', t1, t2⟩ := SP_run (s1 := s1) (s := stt y l n) hF hl hk hn hXY (pls y l (n + 1) - (stt y l n + 1)) (stt y l n + 1) g _ (by omega) (by omega) (fun j h1 h2 => r3 j (by omega) (by omega)) (by omega) (by rw [show stt y l n + 1 - stt y l n = 1 from by omega]; exact hsp)
    rw [show stt y l n + 1 + (pls y l (n + 1) - (stt y l n + 1)) = pls y l (n + 1) from by omega] at t1
    refine ⟨τ', nI k, by rw [t1, show g - (pls y l (n + 1) - (stt y l n + 1)) = f - (pls y l (n + 1) - pls y l n) from by omega], fin (pls y l (n + 1) - (stt y l n + 1)) τ' (by omega) t2, fun h1 h2 z => ?_⟩
    have h5 := tkd_lt (b := y (pls y l (n + 1)))
    have hk5 : k < 5 := by omega
    exact r4 h1 ((nI_eq (by omega) (by omega)).mp z).symm
  by_cases c1 : tkd (y (stt y l n)) = 1
  · exact run 1 (.inl rfl) c1 (by unfold ten; exact (if_pos hs).trans (if_pos c1))
  · by_cases c2 : tkd (y (stt y l n)) = 2
    · exact run 2 (.inr rfl) c2 (by unfold ten; exact (if_pos hs).trans ((if_neg c1).trans (if_pos c2)))
    · have hten : pls y l (n + 1) = stt y l n + 1 := by rw [hte]; unfold ten; exact (if_pos hs).trans ((if_neg c1).trans (if_neg c2))
      refine ⟨_, nI (tkd (y (stt y l n))), by rw [hten, show g = f - (stt y l n + 1 - pls y l n) from by omega], fin 0 _ (by omega) (by rw [show stt y l n + 1 + 0 - stt y l n = 1 from by omega]; exact hsp), fun h1 h2 z => ?_⟩
      have h5 := tkd_lt (b := y (pls y l (n + 1)))
      have h6 := tkd_lt (b := y (stt y l n))
      have := (nI_eq (by omega) (by omega)).mp z
      omega
theorem scan_all {y : Nat → Nat} {F s1 l : Nat} {τ0 : Tau} (hF : 5000 ≤ F) (hl : l ≤ 400) (hXY : XY y l τ0) : ∀ (d n f : Nat) (a2 : Int32) (τ : Tau), l - pls y l n ≤ d → (∀ j, j < n → stt y l j < l) → SA y l n τ0 τ → cndA y l a2 (pls y l n) → l - pls y l n < f → ∃ N τ', X6_scan_L18 F s1 f a2 (nI (pls y l n)) τ = X6_scan_j120 F s1 τ' ∧ SA y l N τ0 τ' ∧ N ≤ 400 ∧ stt y l N = l ∧ ∀ j, j < N → stt y l j < l := by
  intro d
  induction d with
  | zero =>
    intro n f a2 τ hd hj h hc hf
    obtain ⟨g, rfl, -⟩ := fuel hf
    have p7 := pls_b (y := y) (l := l) n
    have p8 := pls_n n hj
    have p9 := stt_b (y := y) (l := l) (j := n)
    refine ⟨n, τ, ?_, h, by omega, by omega, hj⟩
    conv => lhs; unfold X6_scan_L18
    rw [show τ 197 0 = nI l from (h.2.2 _ _ (by decide) (by decide)).trans hXY.1, if_pos (nI_le (by omega) (by omega))]
  | succ d ih =>
    intro n f a2 τ hd hj h hc hf
    have p7 := pls_b (y := y) (l := l) n
    have p8 := pls_n n hj
    obtain ⟨p1, p2, p3, p4⟩ := stt_b (y := y) (l := l) (j := n)
    by_cases hs : stt y l n < l
    · obtain ⟨τ', a2', t1, t2, t3⟩ := scan_one (s1 := s1) hF hl (by omega) hXY h hs hc hf
      have p5 := p4 hs
      have p6 := pls_b (y := y) (l := l) (n + 1)
      obtain ⟨N, τ'', u1, u2⟩ := ih (n + 1) _ a2' τ' (by omega) (fun j h1 => by
        by_cases e : j = n
        · rw [e]; exact hs
        · exact hj j (by omega)) t2 t3 (show l - pls y l (n + 1) < f - (pls y l (n + 1) - pls y l n) by omega)
      exact ⟨N, τ'', t1.trans u1, u2⟩
    · obtain ⟨b1, b2, b3, b4⟩ := trn_b (y := y) (l := l) (k := 0) (l - pls y l n) (pls y l n) (by omega)
      have hx : XY y l τ := hXY.congr (h.2.2 _ _ (by decide) (by decide)) (fun j => h.2.2 _ _ (by omega) (by omega))
      have hsl : stt y l n = l := by omega
      have e1 := scan_bl (s1 := s1) hF hx hl (l - pls y l n) (pls y l n) f a2 (by omega) (fun j h1 h2 => b3 j h1 (by show j < stt y l n; omega)) (by omega)
      rw [show pls y l n + (l - pls y l n) = l from by omega] at e1
      obtain ⟨g, hg, -⟩ := fuel (show 0 < f - (l - pls y l n) by omega)
      refine ⟨n, τ, ?_, h, by omega, hsl, hj⟩
      rw [e1, hg]
      conv => lhs; unfold X6_scan_L18
      rw [hx.1, if_pos (nI_le (by omega) (by omega))]
