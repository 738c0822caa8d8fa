/-! PURE PART. Texts: rows told to the world -/
theorem ent_X {F j : Nat} {τ : Tau} (h : j < 128) : X10_entry F 210 (nI j) τ = some (τ 210 j, τ) := X10_entry_in (N := 128) (by decide +kernel) h (by decide)
theorem put_at {F c N j : Nat} {v : Int32} {τ : Tau} (hN : lnX c = N) (h : j < N) (h2 : N < 2 ^ 31) : X10_put F c (nI j) v 1 τ = some (1, up τ c j v) := X10_put_in hN h h2
theorem self_X {F : Nat} : ∀ (m i f : Nat) (τ : Tau), i + m = 120 → m < f → ∃ τ', X9_letThingsSayThemselves_L2 F 1 f (nI i) τ = some (0, τ') ∧ (∀ k, i ≤ k → k < 120 → τ' 48 k = nI (k % 12)) ∧ ∀ c j, ¬ (c = 48 ∧ i ≤ j) → τ' c j = τ c j := by
  intro m
  induction m with
  | zero =>
    intro i f τ hi hf
    obtain ⟨g, rfl, -⟩ := fuel hf
    refine ⟨τ, ?_, fun k h1 h2 => absurd h1 (by omega), fun _ _ _ => rfl⟩
    unfold X9_letThingsSayThemselves_L2
    rw [if_pos (show (120 : Int32) ≤ nI i from nI_le (a := 120) (by omega) (by omega))]
  | succ m ih =>
    intro i f τ hi hf
    obtain ⟨g, rfl, -⟩ := fuel hf
    have ki : nI i + 1 = nI (i + 1) := litA'
    obtain ⟨τ', t1, t2, t3⟩ := ih (i + 1) g (up τ 48 i (nI (i % 12))) (by omega) (by omega)
    refine ⟨τ', ?_, fun k h1 h2 => ?_, fun c j hc => by rw [t3 c j (by omega), up_if, if_neg (by omega)]⟩
    · unfold X9_letThingsSayThemselves_L2
      rw [if_neg (show ¬ (120 : Int32) ≤ nI i from nI_ge (b := 120) (by omega) (by decide)), show rmd (nI i) 12 = nI (i % 12) from nI_rmd (d := 12) (by omega) (by decide) (by decide), ast_nI (by omega) (by omega), ki]
      exact t1
    · by_cases e : k = i
      · rw [e, t3 _ _ (by omega), up_c]
      · exact t2 k (by omega) h2
theorem say_loop {F n nP : Nat} (hnP : nP ≤ 10) (hn : n ≤ 16) : ∀ (m i f : Nat) (τ : Tau), i + m = n → m < f → (∀ r, r < n → ∃ p t v, p < nP ∧ t < 12 ∧ v < 16 ∧ τ 210 (8 * r) = nI p ∧ τ 210 (8 * r + 1) = nI t ∧ τ 210 (8 * r + 2) = nI v) → (∀ k, k < 120 → τ 48 k = sayN (τ 210) i k) → ∃ τ', X9_tellTongues_L6 F 1 210 f (nI n) (nI i) τ = some (0, τ') ∧ (∀ k, k < 120 → τ' 48 k = sayN (τ 210) n k) ∧ ∀ c j, c ≠ 48 → τ' c j = τ c j := by
  intro m
  induction m with
  | zero =>
    intro i f τ hi hf hr hk
    obtain ⟨g, rfl, -⟩ := fuel hf
    refine ⟨τ, ?_, fun k h1 => by rw [hk k h1, show i = n from by omega], fun _ _ _ => rfl⟩
    unfold X9_tellTongues_L6
    rw [if_pos (nI_le (by omega) (by omega))]
  | succ m ih =>
    intro i f τ hi hf hr hk
    obtain ⟨g, rfl, -⟩ := fuel hf
    obtain ⟨p, t, v, hp, ht, hv, e0, e1, e2⟩ := hr i (by omega)
    have ki : nI i + 1 = nI (i + 1) := litA'
    have k8 : (8 : Int32) * nI i = nI (8 * i) := litM
    have k81 : nI (8 * i) + 1 = nI (8 * i + 1) := litA'
    have k82 : nI (8 * i) + 2 = nI (8 * i + 2) := litA'
    have k12 : (12 : Int32) * nI p = nI (12 * p) := litM
    have e210 : up τ 48 (12 * p + t) (nI v) 210 = τ 210 := funext fun j => up_nc (by decide)
    obtain ⟨τ', t1, t2, t3⟩ := ih (i + 1) g (up τ 48 (12 * p + t) (nI v)) (by omega) (by omega) (by rw [e210]; exact hr) (fun k hk2 => by
      rw [e210, show sayN (τ 210) (i + 1) k = if k = 12 * ix (τ 210 (8 * i)) + ix (τ 210 (8 * i + 1)) then τ 210 (8 * i + 2) else sayN (τ 210) i k from rfl, e0, e1, e2, ix_nI (by omega), ix_nI (by omega), up_if]
      by_cases z : k = 12 * p + t
      · rw [if_pos ⟨rfl, z⟩, if_pos z]
      · rw [if_neg (fun q => z q.2), if_neg z, hk k hk2])
    rw [e210] at t2
    refine ⟨τ', ?_, t2, fun c j hc => (t3 c j hc).trans (up_nc hc)⟩
    unfold X9_tellTongues_L6
    rw [if_neg (nI_ge (by omega) (by omega)), k8, k81, k82, ent_X (by omega), cal_some, ent_X (by omega), cal_some, ent_X (by omega), cal_some, e0, e1, e2, k12, nI_add, put_at (c := 1 + 47) (N := 120) (by decide +kernel) (by omega) (by decide), cal_some, ki]
    exact t1
theorem cou_loop {F n : Nat} (hF : 5000 ≤ F) (hn : n ≤ 16) : ∀ (m i f : Nat) (τ : Tau), i + m = n → m < f → ∃ τ', X9_tellCourt_L2 F 1 210 f (nI n) (nI i) τ = some (0, τ') ∧ (∀ r k, i ≤ r → r < n → k < 4 → τ' 49 (4 * r + k) = τ 210 (8 * r + k)) ∧ ∀ c j, ¬ (c = 49 ∧ 4 * i ≤ j) → τ' c j = τ c j := by
  intro m
  induction m with
  | zero =>
    intro i f τ hi hf
    obtain ⟨g, rfl, -⟩ := fuel hf
    refine ⟨τ, ?_, fun r k h1 h2 => absurd h1 (by omega), fun _ _ _ => rfl⟩
    unfold X9_tellCourt_L2
    rw [if_pos (nI_le (by omega) (by omega))]
  | succ m ih =>
    intro i f τ hi hf
    obtain ⟨g, rfl, -⟩ := fuel hf
    have ki : nI i + 1 = nI (i + 1) := litA'
    have k8 : (8 : Int32) * nI i = nI (8 * i) := litM
    have k4 : (4 : Int32) * nI i = nI (4 * i) := litM
    have inner : ∀ (m' k f' : Nat) (τ : Tau), k + m' = 4 → m' < f' → ∃ τ', X9_tellCourt_L10 F (X9_tellCourt_L2 F 1 210 g) 1 210 f' (nI n) (nI i) (nI k) τ = X9_tellCourt_L2 F 1 210 g (nI n) (nI (i + 1)) τ' ∧ (∀ k', k ≤ k' → k' < 4 → τ' 49 (4 * i + k') = τ 210 (8 * i + k')) ∧ ∀ c j, ¬ (c = 49 ∧ 4 * i + k ≤ j) → τ' c j = τ c j := by
      intro m'
      induction m' with
      | zero =>
        intro k f' τ hk hf'
        obtain ⟨g', rfl, -⟩ := fuel hf'
        refine ⟨τ, ?_, fun k' h1 h2 => absurd h1 (by omega), fun _ _ _ => rfl⟩
        conv => lhs; unfold X9_tellCourt_L10
        rw [if_pos (show (4 : Int32) ≤ nI k from nI_le (a := 4) (by omega) (by omega)), ki]
      | succ m' ih2 =>
        intro k f' τ hk hf'
        obtain ⟨g', rfl, -⟩ := fuel hf'
        have kk : nI k + 1 = nI (k + 1) := litA'
        obtain ⟨τ', t1, t2, t3⟩ := ih2 (k + 1) g' (up τ 49 (4 * i + k) (τ 210 (8 * i + k))) (by omega) (by omega)
        refine ⟨τ', ?_, fun k' h1 h2 => ?_, fun c j hc => by rw [t3 c j (by omega), up_if, if_neg (by omega)]⟩
        · conv => lhs; unfold X9_tellCourt_L10
          rw [if_neg (show ¬ (4 : Int32) ≤ nI k from nI_ge (b := 4) (by omega) (by decide)), k8, nI_add, ent_X (by omega), cal_some, k4, nI_add, put_at (c := 1 + 48) (N := 64) (by decide +kernel) (by omega) (by decide), cal_some, kk]
          exact t1
        · by_cases e : k' = k
          · rw [e, t3 _ _ (by omega), up_c]
          · rw [t2 k' (by omega) h2, up_nc (by decide)]
    obtain ⟨τ1, t1, t2, t3⟩ := inner 4 0 F τ (by omega) (by omega)
    obtain ⟨τ', u1, u2, u3⟩ := ih (i + 1) g τ1 (by omega) (by omega)
    refine ⟨τ', ?_, fun r k h1 h2 h4 => ?_, fun c j hc => (u3 c j (by omega)).trans (t3 c j (by omega))⟩
    · unfold X9_tellCourt_L2
      rw [if_neg (nI_ge (by omega) (by omega)), show X9_tellCourt_L10 F (X9_tellCourt_L2 F 1 210 g) 1 210 F (nI n) (nI i) 0 τ = _ from t1, u1]
    · by_cases e : r = i
      · rw [e, u3 _ _ (by omega)]; exact t2 k (Nat.zero_le _) h4
      · rw [u2 r k (by omega) h2 h4, t3 _ _ (by omega)]
theorem wan_loop {F n nP : Nat} (hF : 5000 ≤ F) (hnP : nP ≤ 10) (hn : n ≤ 16) : ∀ (m i f : Nat) (τ : Tau), i + m = n → m < f → (∀ r, r < n → ∃ p q, p < nP ∧ q ≤ 6 ∧ τ 210 (8 * r) = nI p ∧ τ 210 (8 * r + 1) = nI q) → (∀ p, p < 10 → τ 51 p = nI (cntN (τ 210) i p)) → (∀ p j, p < 10 → j < 6 → j < cntN (τ 210) i p → τ 50 (6 * p + j) = valN (τ 210) i p j) → ∃ τ', X9_tellWants_L21 F 1 210 f (nI n) (nI i) τ = some (0, τ') ∧ (∀ p, p < 10 → τ' 51 p = nI (cntN (τ 210) n p)) ∧ (∀ p j, p < 10 → j < 6 → j < cntN (τ 210) n p → τ' 50 (6 * p + j) = valN (τ 210) n p j) ∧ ∀ c j, c ≠ 50 → c ≠ 51 → τ' c j = τ c j := by
  intro m
  induction m with
  | zero =>
    intro i f τ hi hf hr h1 h2
    obtain ⟨g, rfl, -⟩ := fuel hf
    obtain rfl : i = n := by omega
    refine ⟨τ, ?_, h1, h2, fun _ _ _ _ => rfl⟩
    unfold X9_tellWants_L21
    rw [if_pos (nI_le (by omega) (by omega))]
  | succ m ih =>
    intro i f τ hi hf hr h1 h2
    obtain ⟨g, rfl, -⟩ := fuel hf
    obtain ⟨p, q, hp, hq, e0, e1⟩ := hr i (by omega)
    have ki : nI i + 1 = nI (i + 1) := litA'
    have k8 : (8 : Int32) * nI i = nI (8 * i) := litM
    have k81 : nI (8 * i) + 1 = nI (8 * i + 1) := litA'
    have k82 : nI (8 * i) + 2 = nI (8 * i + 2) := litA'
    have k6 : (6 : Int32) * nI p = nI (6 * p) := litM
    have inner : ∀ (m' k f' : Nat) (τ : Tau), k + m' = 6 → m' < f' → ∃ τ', X9_tellWants_L60 F (X9_tellWants_L21 F 1 210 g) 1 210 f' (nI n) (nI i) (nI p) (nI k) τ = X9_tellWants_L21 F 1 210 g (nI n) (nI (i + 1)) τ' ∧ (∀ k', k ≤ k' → k' < 6 → τ' 50 (6 * p + k') = τ 210 (8 * i + 2 + k')) ∧ ∀ c j, ¬ (c = 50 ∧ 6 * p + k ≤ j ∧ j < 6 * p + 6) → τ' c j = τ c j := by
      intro m'
      induction m' with
      | zero =>
        intro k f' τ hk hf'
        obtain ⟨g', rfl, -⟩ := fuel hf'
        refine ⟨τ, ?_, fun k' h1 h2 => absurd h1 (by omega), fun _ _ _ => rfl⟩
        conv => lhs; unfold X9_tellWants_L60
        rw [if_pos (show (6 : Int32) ≤ nI k from nI_le (a := 6) (by omega) (by omega)), ki]
      | succ m' ih2 =>
        intro k f' τ hk hf'
        obtain ⟨g', rfl, -⟩ := fuel hf'
        have kk : nI k + 1 = nI (k + 1) := litA'
        obtain ⟨τ', t1, t2, t3⟩ := ih2 (k + 1) g' (up τ 50 (6 * p + k) (τ 210 (8 * i + 2 + k))) (by omega) (by omega)
        refine ⟨τ', ?_, fun k' h1 h2 => ?_, fun c j hc => by rw [t3 c j (by omega), up_if, if_neg (by omega)]⟩
        · conv => lhs; unfold X9_tellWants_L60
          rw [if_neg (show ¬ (6 : Int32) ≤ nI k from nI_ge (b := 6) (by omega) (by decide)), k8, k82, nI_add, ent_X (by omega), cal_some, k6, nI_add, put_at (c := 1 + 49) (N := 60) (by decide +kernel) (by omega) (by decide), cal_some, kk]
          exact t1
        · by_cases e : k' = k
          · rw [e, t3 _ _ (by omega), up_c]
          · rw [t2 k' (by omega) h2, up_nc (by decide)]
    obtain ⟨τ1, t1, t2, t3⟩ := inner 6 0 F (up τ 51 p (nI q)) (by omega) (by omega)
    have e210 : τ1 210 = τ 210 := funext fun j => (t3 _ _ (by omega)).trans (up_nc (by decide))
    have hc : ∀ p', cntN (τ 210) (i + 1) p' = if p' = p then q else cntN (τ 210) i p' := fun p' => by
      rw [show cntN (τ 210) (i + 1) p' = if p' = ix (τ 210 (8 * i)) then ix (τ 210 (8 * i + 1)) else cntN (τ 210) i p' from rfl, e0, e1, ix_nI (by omega), ix_nI (by omega)]
    have hv : ∀ p' j, valN (τ 210) (i + 1) p' j = if p' = p then τ 210 (8 * i + 2 + j) else valN (τ 210) i p' j := fun p' j => by
      rw [show valN (τ 210) (i + 1) p' j = if p' = ix (τ 210 (8 * i)) then τ 210 (8 * i + 2 + j) else valN (τ 210) i p' j from rfl, e0, ix_nI (by omega)]
    obtain ⟨τ', u1, u2, u3, u4⟩ := ih (i + 1) g τ1 (by omega) (by omega) (by rw [e210]; exact hr) (fun p' hp' => by
      rw [e210, hc, t3 _ _ (by omega), up_if]
      by_cases z : p' = p
      · rw [if_pos ⟨rfl, z⟩, if_pos z]
      · rw [if_neg (fun w => z w.2), if_neg z, h1 p' hp']) (fun p' j hp' hj hj2 => by
      rw [e210] at hj2 ⊢
      rw [hc] at hj2
      rw [hv]
      by_cases z : p' = p
      · rw [if_pos z, z, t2 j (Nat.zero_le _) hj, up_nc (by decide)]
      · rw [if_neg z] at hj2 ⊢
        rw [t3 _ _ (by omega), up_nc (by decide)]
        exact h2 p' j hp' hj hj2)
    rw [e210] at u2 u3
    refine ⟨τ', ?_, u2, u3, fun c j h1 h2 => (u4 c j h1 h2).trans ((t3 _ _ (by omega)).trans (up_nc h2))⟩
    unfold X9_tellWants_L21
    rw [if_neg (nI_ge (by omega) (by omega)), k8, k81, ent_X (by omega), cal_some, ent_X (by omega), cal_some, e0, e1, put_at (c := 1 + 50) (N := 10) (by decide +kernel) (by omega) (by decide), cal_some, show X9_tellWants_L60 F (X9_tellWants_L21 F 1 210 g) 1 210 F (nI n) (nI i) (nI p) 0 (up τ (1 + 50) p (nI q)) = _ from t1, u1]
/-! the model puts rows -/
theorem puts_M {F A S L : Nat} (hA : A < 2244) (hS : S + L ≤ 2244) (hL : L ≤ 140) (hF : 5000 ≤ F) (hAS : A < S) (τ : Tau) : ∃ τ', X11_puts F (nI A) (nI S) (nI L) τ = some (τ 0 15, τ') ∧ τ' 1 A = τ 0 15 ∧ (∀ k, k < L → τ' 1 (S + k) = τ 7 k) ∧ ∀ c j, ¬ (c = 1 ∧ (j = A ∨ (S ≤ j ∧ j < S + L))) → τ' c j = τ c j := by
  have key : ∀ (m i f : Nat) (τ : Tau), i + m = L → m < f → ∃ τ', X11_puts_L13 F f (nI S) (nI L) (nI i) τ = some (τ 0 15, τ') ∧ (∀ k, i ≤ k → k < L → τ' 1 (S + k) = τ 7 k) ∧ ∀ c j, ¬ (c = 1 ∧ S + i ≤ j ∧ j < S + L) → τ' c j = τ c j := by
    intro m
    induction m with
    | zero =>
      intro i f τ hi hf
      obtain ⟨g, rfl, -⟩ := fuel hf
      refine ⟨τ, ?_, fun k h1 h2 => absurd h1 (by omega), fun _ _ _ => rfl⟩
      unfold X11_puts_L13
      rw [if_pos (nI_le (by omega) (by omega))]
    | succ m ih =>
      intro i f τ hi hf
      obtain ⟨g, rfl, -⟩ := fuel hf
      have ki : nI i + 1 = nI (i + 1) := litA'
      obtain ⟨τ', t1, t2, t3⟩ := ih (i + 1) g (up τ 1 (S + i) (τ 7 i)) (by omega) (by omega)
      refine ⟨τ', ?_, fun k h1 h2 => ?_, fun c j hc => by rw [t3 c j (by omega), up_if, if_neg (by omega)]⟩
      · unfold X11_puts_L13
        rw [if_neg (nI_ge (by omega) (by omega)), ald_nI (by omega) (by omega), nI_add, ast_nI (by omega) (by omega), ki, t1, up_nc (by decide)]
      · by_cases e : k = i
        · rw [e, t3 _ _ (by omega), up_c]
        · rw [t2 k (by omega) h2, up_nc (by decide)]
  obtain ⟨τ', t1, t2, t3⟩ := key L 0 F (up τ 1 A (τ 0 15)) (by omega) (by omega)
  refine ⟨τ', ?_, ?_, fun k hk => ?_, fun c j hc => ?_⟩
  · unfold X11_puts
    rw [ast_nI (by omega) (by omega), show X11_puts_L13 F F (nI S) (nI L) 0 (up τ 1 A (τ 0 15)) = _ from t1, up_nc (by decide)]
  · rw [t3 _ _ (by omega), up_c]
  · rw [t2 k (Nat.zero_le _) hk, up_nc (by decide)]
  · rw [t3 c j (by omega), up_if, if_neg (by omega)]
theorem steps_M {F : Nat} : ∀ (m i f : Nat) (τ : Tau), i + m = 10 → m < f → ∃ τ', X11_putsText_L20 F f 3 (nI i) τ = X11_putsText_j42 F 3 τ' ∧ (∀ k, i ≤ k → k < 10 → τ' 1 (15 + k) = 0) ∧ ∀ c j, ¬ (c = 1 ∧ 15 + i ≤ j ∧ j < 25) → τ' c j = τ c j := by
  intro m
  induction m with
  | zero =>
    intro i f τ hi hf
    obtain ⟨g, rfl, -⟩ := fuel hf
    refine ⟨τ, ?_, fun k h1 h2 => absurd h1 (by omega), fun _ _ _ => rfl⟩
    conv => lhs; unfold X11_putsText_L20
    rw [if_pos (show (10 : Int32) ≤ nI i from nI_le (a := 10) (by omega) (by omega))]
  | succ m ih =>
    intro i f τ hi hf
    obtain ⟨g, rfl, -⟩ := fuel hf
    have ki : nI i + 1 = nI (i + 1) := litA'
    have q0 : (15 : Int32) + nI i = nI (15 + i) := litA
    obtain ⟨τ', t1, t2, t3⟩ := ih (i + 1) g (up τ 1 (15 + i) 0) (by omega) (by omega)
    refine ⟨τ', ?_, fun k h1 h2 => ?_, fun c j hc => by rw [t3 c j (by omega), up_if, if_neg (by omega)]⟩
    · conv => lhs; unfold X11_putsText_L20
      rw [if_neg (show ¬ (10 : Int32) ≤ nI i from nI_ge (b := 10) (by omega) (by decide)), q0, ast_nI (by omega) (by omega), ki, t1]
    · by_cases e : k = i
      · rw [e, t3 _ _ (by omega), up_c]
      · exact t2 k (by omega) h2
