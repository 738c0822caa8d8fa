/-! PURE PART. Steps: map -/
theorem sk_ge {f : Nat → Nat} : ∀ n k, k < n → f k ≤ sk f n := by
  intro n
  induction n with
  | zero => intro k h; exact absurd h (Nat.not_lt_zero k)
  | succ n ih =>
    intro k h
    show f k ≤ sk f n + f n
    by_cases e : k = n
    · rw [e]; omega
    · have := ih k (by omega)
      omega
theorem ff_fin : ∀ q, q < 6 → ∀ k, k < 6 → (k ≤ q → 1 ≤ ff q k) ∧ (q < k → ff q k = 0) ∧ (1 ≤ k → k ≤ q → ff q k = ff q (k - 1) * (q - k + 1)) := by decide +kernel
theorem co0 (q k : Nat) : coF q 0 k = ff q k := by
  unfold coF
  rw [if_pos (Nat.zero_le _), Nat.sub_zero, Nat.sub_zero]
theorem wq_sk {s q : Nat} {a b : Nat → Nat} (hab : ∀ i, i < s → a i ≠ b i) (hq : q ≤ 5) : wq s a b q = sk (fun k => coF q 0 k * pX (okE s a b) k 8 []) 6 := by
  have := paint_id (okE s a b) okE_mono (okE_iff.mpr (fun i _ z => absurd (show false = true from z.1) (by decide))) (fun l => okE_iff.mpr (fun i hi z => by
    have one : ∀ x, insL noL l x = true → x = l := fun x hx => by
      by_cases e : x = l
      · exact e
      · rw [ins_ne e] at hx
        exact absurd (show false = true from hx) (by decide)
    exact hab i hi ((one _ z.1).trans (one _ z.2).symm))) hq 8 (Nat.le_refl _) [] (Nat.zero_le _) (fun c hc => absurd hc (List.not_mem_nil))
  exact this
theorem pX_00 (ok : (Nat → Bool) → Bool) : pX ok 0 8 [] = 0 := by
  show 0 + (if 0 < 5 then pX ok 0 7 [insL noL (7 - 7)] else 0) = 0
  rw [pX_lo ok 0 7 _ (by show 0 < 1; decide)]
  rfl
theorem step36 (F : Nat) (hF : 5000 ≤ F) : Step36 F Rl := by
  intro n tx tm a1 _ h
  obtain ⟨nP, nM, q, hP⟩ := h.pc
  obtain ⟨s, a, b, s14, x0, m0, hb⟩ := hP.bors
  have hab : ∀ i, i < s → a i ≠ b i := fun i hi => (hb i hi).2.2.1
  obtain ⟨x1, e1, e2, e3⟩ := all_paint (F := F) (tx := tx) hF s14 x0 (fun i hi => ⟨(hb i hi).1, (hb i hi).2.1, (hb i hi).2.2.1, (hb i hi).2.2.2.1⟩)
  have hend : ∀ m1, (∀ c j, c ≠ 15 → c ≠ 16 → m1 c j = tm c j) → Rl (n + 1) x1 m1 := fun m1 hm => Rl.same h (fun c j hc => e3 c j (by rcases hc with hc | hc; (unfold wnX at hc; omega); (unfold coX at hc; omega)) (by rcases hc with hc | hc; (unfold wnX at hc; omega); (unfold coX at hc; omega)) (by rcases hc with hc | hc; (unfold wnX at hc; omega); (unfold coX at hc; omega))) (fun c j hc => hm c j (by rcases hc with hc | hc; omega; (unfold coM at hc; omega)) (by rcases hc with hc | hc; omega; (unfold coM at hc; omega)))
  have hm4 : ∀ i, i < s → a i < 8 ∧ b i < 8 ∧ tm 1 (675 + 2 * i) = nI (a i) ∧ tm 1 (676 + 2 * i) = nI (b i) := fun i hi => ⟨(hb i hi).1, (hb i hi).2.1, (hb i hi).2.2.2.2.1, (hb i hi).2.2.2.2.2⟩
  have hP0 := pX_00 (okE s a b)
  unfold X10_map X11_map
  rw [X11_isIn_eq, cal_some]
  by_cases c1 : a1 = -1
  · -- the fewest
    have hex : ∃ N, N ≤ 5 ∧ wq s a b N ≠ 0 ∧ ∀ k, k < N → wq s a b k = 0 := by
      obtain ⟨N, h1, h2⟩ := pk_least (fun k => wq s a b k ≠ 0) ⟨5, by have := five_ways s14 (fun i hi => ⟨(hb i hi).1, (hb i hi).2.1, hab i hi⟩); show wq s a b 5 ≠ 0; unfold wq; omega⟩
      refine ⟨N, ?_, h1, fun k hk => Classical.byContradiction (h2 k hk)⟩
      apply Nat.le_of_not_lt
      intro hN
      refine h2 5 hN ?_
      have := five_ways s14 (fun i hi => ⟨(hb i hi).1, (hb i hi).2.1, hab i hi⟩)
      show wq s a b 5 ≠ 0
      unfold wq
      omega
    obtain ⟨N, N5, hN, hlt⟩ := hex
    obtain ⟨m1, f1, f2⟩ := map_M (F := F) (tm := tm) hF s14 m0 hm4 N5 (.inr ⟨c1, hN, hlt⟩)
    have hPk : ∀ k, k < N → pX (okE s a b) k 8 [] = 0 := by
      intro k hk
      have hw := hlt k hk
      rw [wq_sk hab (by omega)] at hw
      have hge := sk_ge (f := fun k' => coF k 0 k' * pX (okE s a b) k' 8 []) 6 k (by omega)
      rw [hw] at hge
      have h1 := (ff_fin k (by omega) k (by omega)).1 (Nat.le_refl _)
      have h0 : coF k 0 k * pX (okE s a b) k 8 [] = 0 := Nat.le_zero.mp hge
      rw [co0] at h0
      rcases Nat.mul_eq_zero.mp h0 with h0 | h0
      · omega
      · exact h0
    have hPN : pX (okE s a b) N 8 [] ≠ 0 := by
      intro z
      apply hN
      rw [wq_sk hab N5, sk_congr (g := fun _ => 0) 6 (fun k hk => ?_), sk_zero]
      show coF N 0 k * pX (okE s a b) k 8 [] = 0
      by_cases c : k < N
      · rw [hPk k c, Nat.mul_zero]
      · by_cases d : k = N
        · rw [d, z, Nat.mul_zero]
        · rw [co0, (ff_fin N (by omega) k (by omega)).2.1 (by omega), Nat.zero_mul]
    have hPlt : pX (okE s a b) N 8 [] < 2 ^ 31 := by
      have hw := wq_le (s := s) (a := a) (b := b) N5
      rw [wq_sk hab N5] at hw
      have hge := sk_ge (f := fun k' => coF N 0 k' * pX (okE s a b) k' 8 []) 6 N (by omega)
      have h1 := (ff_fin N (by omega) N (by omega)).1 (Nat.le_refl _)
      have h2 : 1 * pX (okE s a b) N 8 [] ≤ coF N 0 N * pX (okE s a b) N 8 [] := Nat.mul_le_mul_right _ (by rw [co0]; exact h1)
      replace hge : coF N 0 N * pX (okE s a b) N 8 [] ≤ sk (fun k' => coF N 0 k' * pX (okE s a b) k' 8 []) 6 := hge
      omega
    have hN1 : 1 ≤ N := by
      apply Nat.pos_of_ne_zero
      intro z
      rw [z] at hPN
      exact hPN hP0
    have hX : ∀ (m k f : Nat), k + m = N → 1 ≤ k → m < f → X4_fewestColours_L6 F f (nI k) x1 = some (nI N, x1) := by
      intro m
      induction m with
      | zero =>
        intro k f hk h1 hf
        obtain ⟨g, rfl, -⟩ := fuel hf
        have : k = N := by omega
        subst this
        unfold X4_fewestColours_L6
        rw [if_neg (by rw [lit_lt' (by decide) (by omega)]; omega), ald_nI (by omega) (by omega), e2 k (by omega), if_neg (show ¬ nI (pX (okE s a b) k 8 []) ≤ 0 by rw [show (0 : Int32) = nI 0 from rfl, nI_leI hPlt (by omega)]; omega)]
      | succ m ih =>
        intro k f hk h1 hf
        obtain ⟨g, rfl, -⟩ := fuel hf
        conv => lhs; unfold X4_fewestColours_L6
        rw [if_neg (by rw [lit_lt' (by decide) (by omega)]; omega), ald_nI (by omega) (by omega), e2 k (by omega), hPk k (by omega), if_pos (by decide), litA']
        exact ih (k + 1) g (by omega) (by omega) (by omega)
    unfold X4_fewestColours
    rw [if_pos c1, e1, cal_some, show X4_fewestColours_L6 F F 1 x1 = _ from hX (N - 1) 1 F (by omega) (by decide) (by omega), cal_some, bI_t (show (-1 : Int32) ≤ a1 ∧ a1 ≤ 5 by rw [c1]; decide), if_neg n10, f1, if_pos c1]
    exact ⟨_, x1, m1, rfl, rfl, hend m1 f2⟩
  · rw [if_neg c1, X10_within_eq, cal_some]
    by_cases p1 : (0 : Int32) ≤ a1 ∧ a1 ≤ 5
    · obtain ⟨N, -, N5, rfl⟩ := in_ex (lo := 0) (hi := 5) p1 (by decide) (by decide)
      obtain ⟨m1, f1, f2⟩ := map_M (F := F) (tm := tm) hF s14 m0 hm4 N5 (.inl rfl)
      have hX : ∀ (m k f : Nat), k + m = N + 1 → 1 ≤ k → m < f → X4_waysPainted_L11 F f (nI N) (nI (sk (fun k => coF N 0 k * pX (okE s a b) k 8 []) k)) (nI (ff N (k - 1))) (nI k) x1 = some (nI (sk (fun k => coF N 0 k * pX (okE s a b) k 8 []) (N + 1)), x1) := by
        intro m
        induction m with
        | zero =>
          intro k f hk h1 hf
          obtain ⟨g, rfl, -⟩ := fuel hf
          have : k = N + 1 := by omega
          subst this
          unfold X4_waysPainted_L11
          rw [if_pos (nI_lt (by omega) (by omega))]
        | succ m ih =>
          intro k f hk h1 hf
          obtain ⟨g, rfl, -⟩ := fuel hf
          have hff := (ff_fin N (by omega) k (by omega)).2.2 h1 (by omega)
          have hs : sk (fun k => coF N 0 k * pX (okE s a b) k 8 []) (k + 1) = sk (fun k => coF N 0 k * pX (okE s a b) k 8 []) k + coF N 0 k * pX (okE s a b) k 8 [] := rfl
          have go := ih (k + 1) g (by omega) (by omega) (by omega)
          rw [hs, co0, Nat.add_sub_cancel] at go
          conv => lhs; unfold X4_waysPainted_L11
          rw [if_neg (show ¬ nI N < nI k by rw [nI_ltI (by omega) (by omega)]; omega), if_neg (by rw [lit_lt' (by decide) (by omega)]; omega), ald_nI (by omega) (by omega), e2 k (by omega), nI_sub (by omega), litA', nI_mul, ← hff, nI_mul, nI_add, litA']
          exact go
      have h1 := hX N 1 F (by omega) (by decide) (by omega)
      have hs1 : sk (fun k => coF N 0 k * pX (okE s a b) k 8 []) 1 = 0 := by
        show 0 + coF N 0 0 * pX (okE s a b) 0 8 [] = 0
        rw [hP0, Nat.mul_zero]
      rw [hs1] at h1
      have hall : sk (fun k => coF N 0 k * pX (okE s a b) k 8 []) (N + 1) = wq s a b N := by
        rw [wq_sk hab N5]
        have ext : ∀ d, N + 1 + d ≤ 6 → sk (fun k => coF N 0 k * pX (okE s a b) k 8 []) (N + 1 + d) = sk (fun k => coF N 0 k * pX (okE s a b) k 8 []) (N + 1) := by
          intro d
          induction d with
          | zero => intro _; rfl
          | succ d ih =>
            intro hd
            show sk (fun k => coF N 0 k * pX (okE s a b) k 8 []) (N + 1 + d) + coF N 0 (N + 1 + d) * pX (okE s a b) (N + 1 + d) 8 [] = _
            rw [ih (by omega), co0, (ff_fin N (by omega) (N + 1 + d) (by omega)).2.1 (by omega), Nat.zero_mul, Nat.add_zero]
        have := ext (5 - N) (by omega)
        rw [show N + 1 + (5 - N) = 6 by omega] at this
        exact this.symm
      rw [hall] at h1
      have hin : (-1 : Int32) ≤ nI N ∧ nI N ≤ 5 := ⟨by rw [Int32.le_iff_toInt_le, nI_toInt (by omega), show (-1 : Int32).toInt = -1 by decide]; omega, p1.2⟩
      unfold X4_waysPainted
      rw [bI_t p1, if_neg n10, e1, cal_some, show X4_waysPainted_L11 F F (nI N) 0 1 1 x1 = some (nI (wq s a b N), x1) from h1, cal_some, bI_t hin, if_neg n10, f1, if_neg c1]
      exact ⟨_, x1, m1, rfl, rfl, hend m1 f2⟩
    · have hin : ¬ ((-1 : Int32) ≤ a1 ∧ a1 ≤ 5) := by
        rintro ⟨z1, z2⟩
        refine p1 ⟨?_, z2⟩
        rw [Int32.le_iff_toInt_le, show (-1 : Int32).toInt = -1 by decide] at z1
        rw [Int32.le_iff_toInt_le, show (0 : Int32).toInt = 0 by decide]
        have : a1.toInt ≠ -1 := fun z => c1 (Int32.toInt_inj.mp (z.trans (by decide)))
        omega
      rw [bI_f p1, if_pos rfl, bI_f hin, if_pos rfl]
      exact ⟨-1, tx, tm, rfl, rfl, Rl_mono n tx tm h⟩
