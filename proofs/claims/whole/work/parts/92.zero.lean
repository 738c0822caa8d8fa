/-! PURE PART. The relation at the start: it holds -/
theorem all_R {n : Nat} {f : Nat → Bool} (h : (List.range n).all f = true) : ∀ k, k < n → f k = true := fun k hk => List.all_eq_true.mp h k (List.mem_range.mpr hk)
theorem okX_some {f : Tau → Bool} {n : Nat} {rf : RF} {τ : Tau} : okX f (some (n, rf, τ)) = f τ := rfl
theorem rl_zero : ∀ rf τ, runU = some (243, rf, τ) → Rl 0 τ (fun a i => τ (a + 222) i) := by
  intro rf τ hr
  have hA := ok_A
  have hB := ok_B
  have hC := ok_C
  have hD := ok_D
  have hE := ok_E
  rw [hr] at hA hB hC hD hE
  rw [okX_some] at hA hB hC hD
  unfold chA at hA
  unfold chB at hB
  unfold chC at hC
  unfold chD at hD
  have A : ∀ k, k < 255 → τ 223 k = τ (2 + slo k) (sli k) := fun k hk => eq_of_beq (all_R hA k hk)
  have B : ∀ k, k < 120 → τ 223 (261 + k) = τ 48 k := fun k hk => eq_of_beq (all_R hB k hk)
  have C : ∀ k, k < 600 → τ 223 (760 + k) = τ 46 k := fun k hk => eq_of_beq (all_R hC k hk)
  have Z : ∀ c j, (c, j) ∈ zs0 → τ c j = 0 := fun c j hm => eq_of_beq (List.all_eq_true.mp hD (c, j) hm)
  replace hE : (τ 197 1 == τ 222 23 && τ 197 2 == τ 222 25 && (τ 222 26 == 0 || τ 222 26 == 1)) = true := hE
  rw [Bool.and_eq_true, Bool.and_eq_true, Bool.or_eq_true, beq_iff_eq, beq_iff_eq, beq_iff_eq, beq_iff_eq] at hE
  clear hA hB hC hD
  have zl : zs0 = (List.range 41).map (fun k => (223, 4 + k)) ++ (List.range 160).map (fun k => (223, 101 + k)) ++ (List.range 315).map (fun k => (223, 445 + k)) ++ (List.range 10).map (fun k => (51, k)) ++ (List.range 12).map (fun k => (34, k)) ++ (List.range 9).map (fun k => (35, k)) ++ (List.range 9).map (fun k => (36, k)) ++ (List.range 36).map (fun k => (37, k)) ++ (List.range 8).map (fun k => (38, k)) ++ [(2, 0), (2, 1), (47, 1), (47, 2), (47, 3), (39, 0), (39, 1), (16, 0), (18, 0), (20, 0), (22, 0), (24, 0), (26, 0), (28, 0), (30, 0), (32, 0), (116, 0), (116, 1), (222, 4), (0, 2), (222, 5), (197, 0), (222, 16), (213, 10)] := rfl
  have mr : ∀ (c b n k : Nat), k < n → (c, b + k) ∈ (List.range n).map (fun k => (c, b + k)) := fun c b n k hk => List.mem_map.mpr ⟨k, List.mem_range.mpr hk, rfl⟩
  have mr0 : ∀ (c n k : Nat), k < n → (c, k) ∈ (List.range n).map (fun k => (c, k)) := fun c n k hk => List.mem_map.mpr ⟨k, List.mem_range.mpr hk, rfl⟩
  have z1 : ∀ k, 4 ≤ k → k < 45 → τ 223 k = 0 := fun k h1 h2 => Z _ _ (by
    rw [zl]; simp only [List.mem_append]
    have := mr 223 4 41 (k - 4) (by omega)
    rw [show 4 + (k - 4) = k by omega] at this
    simp [this])
  have z2 : ∀ k, 101 ≤ k → k < 261 → τ 223 k = 0 := fun k h1 h2 => Z _ _ (by
    rw [zl]; simp only [List.mem_append]
    have := mr 223 101 160 (k - 101) (by omega)
    rw [show 101 + (k - 101) = k by omega] at this
    simp [this])
  have z3 : ∀ k, 445 ≤ k → k < 760 → τ 223 k = 0 := fun k h1 h2 => Z _ _ (by
    rw [zl]; simp only [List.mem_append]
    have := mr 223 445 315 (k - 445) (by omega)
    rw [show 445 + (k - 445) = k by omega] at this
    simp [this])
  have x51 : ∀ k, k < 10 → τ 51 k = 0 := fun k hk => Z _ _ (by rw [zl]; simp only [List.mem_append]; have := mr0 51 10 k hk; simp [this])
  have x34 : ∀ k, k < 12 → τ 34 k = 0 := fun k hk => Z _ _ (by rw [zl]; simp only [List.mem_append]; have := mr0 34 12 k hk; simp [this])
  have x35 : ∀ k, k < 9 → τ 35 k = 0 := fun k hk => Z _ _ (by rw [zl]; simp only [List.mem_append]; have := mr0 35 9 k hk; simp [this])
  have x36 : ∀ k, k < 9 → τ 36 k = 0 := fun k hk => Z _ _ (by rw [zl]; simp only [List.mem_append]; have := mr0 36 9 k hk; simp [this])
  have x37 : ∀ k, k < 36 → τ 37 k = 0 := fun k hk => Z _ _ (by rw [zl]; simp only [List.mem_append]; have := mr0 37 36 k hk; simp [this])
  have x38 : ∀ k, k < 8 → τ 38 k = 0 := fun k hk => Z _ _ (by rw [zl]; simp only [List.mem_append]; have := mr0 38 8 k hk; simp [this])
  have zz : ∀ c j, (c, j) ∈ [(2, 0), (2, 1), (47, 1), (47, 2), (47, 3), (39, 0), (39, 1), (16, 0), (18, 0), (20, 0), (22, 0), (24, 0), (26, 0), (28, 0), (30, 0), (32, 0), (116, 0), (116, 1), (222, 4), (0, 2), (222, 5), (197, 0), (222, 16), (213, 10)] → τ c j = 0 := fun c j hm => Z _ _ (by rw [zl]; exact List.mem_append_right _ hm)
  have row : ∀ (c a cap : Nat) (P : Int32 → Prop), 15 ≤ c → c + 1 ≤ 43 → 0 < lim c → 257 ≤ a → a + 1 + cap ≤ 760 → cap ≤ lim (c + 1) → τ (1 + c) 0 = 0 → τ 223 a = 0 → Rrow c a cap P (rsX c (c + 1) (vX 1 τ)) (rsM a (a + 1 + cap) (vM (τ 223))) := fun c a cap P h1 h2 h3 h4 h5 h6 hx hw => row_in ⟨h1, h2⟩ h3 h6 ⟨h4, h5⟩ ⟨0, Nat.zero_le _, hx, hw, fun i hi => absurd hi (Nat.not_lt_zero i)⟩
  refine ⟨0, 0, fun _ => 0, ⟨A, zz 2 0 (by simp), zz 2 1 (by simp), z2 255 (by decide) (by decide), z2 256 (by decide) (by decide), by decide, by decide, ?_, ?_, ⟨0, by decide, z1 4 (by decide) (by decide)⟩, fun i hi => C i hi⟩, ⟨0, 0, by decide, by decide, zz 116 0 (by simp), zz 116 1 (by simp), zz 222 4 (by simp), fun j hj => absurd hj (Nat.not_lt_zero j)⟩, .inl ⟨zz 0 2 (by simp), zz 222 5 (by simp)⟩, ⟨0, by decide, zz 197 0 (by simp), zz 222 16 (by simp), fun i hi => absurd hi (Nat.not_lt_zero i)⟩, ⟨hE.1.1, hE.1.2, hE.2⟩, .inl (zz 213 10 (by simp))⟩
  · refine ⟨fun m hm => absurd hm (Nat.not_lt_zero m), fun m hm => absurd hm (Nat.not_lt_zero m), fun m hm => absurd hm (Nat.not_lt_zero m), fun k hk => ⟨0, by decide, z2 _ (by omega) (by omega)⟩, fun m hm => .inl (z2 _ (by omega) (by omega)), fun p hp => ⟨0, by decide, z1 _ (by omega) (by omega), .inl rfl⟩, fun p hp => ⟨0, Nat.zero_le _, z1 _ (by omega) (by omega)⟩, fun m _ hm => ⟨z2 _ (by omega) (by omega), z2 _ (by omega) (by omega), z2 _ (by omega) (by omega)⟩, fun p _ hp => ⟨z1 _ (by omega) (by omega), z1 _ (by omega) (by omega), z1 _ (by omega) (by omega), z1 _ (by omega) (by omega)⟩⟩
  · have t223 : ∀ k, (fun a i => τ (a + 222) i) 1 k = τ 223 k := fun _ => rfl
    refine ⟨?_, fun k hk => ?_, ⟨0, by decide, ?_, ?_, fun i hi => absurd hi (Nat.not_lt_zero i)⟩, fun p hp => ⟨Nat.zero_le _, ?_, ?_, fun j hj => absurd hj (Nat.not_lt_zero j)⟩, ?_, row 15 515 8 _ (by decide) (by decide) (by decide) (by decide) (by decide) (by decide) (zz 16 0 (by simp)) (z3 _ (by decide) (by decide)), row 17 536 8 _ (by decide) (by decide) (by decide) (by decide) (by decide) (by decide) (zz 18 0 (by simp)) (z3 _ (by decide) (by decide)), row 19 545 8 _ (by decide) (by decide) (by decide) (by decide) (by decide) (by decide) (zz 20 0 (by simp)) (z3 _ (by decide) (by decide)), ?_, ?_, ?_, row 27 703 12 _ (by decide) (by decide) (by decide) (by decide) (by decide) (by decide) (zz 28 0 (by simp)) (z3 _ (by decide) (by decide)), row 29 716 12 _ (by decide) (by decide) (by decide) (by decide) (by decide) (by decide) (zz 30 0 (by simp)) (z3 _ (by decide) (by decide)), int_in ⟨0, by decide, zz 32 0 (by simp), z3 _ (by decide) (by decide), fun i hi => absurd hi (Nat.not_lt_zero i)⟩, cel_in (by decide) (by decide) (by decide) (fun k hk => ⟨0, by decide, x34 k hk, z3 _ (by omega) (by omega)⟩), tab_in (fun k hk => ?_), cel_in (by decide) (by decide) (by decide) (fun k hk => ⟨0, by decide, x37 k hk, z3 _ (by omega) (by omega)⟩), cel_in (by decide) (by decide) (by decide) (fun k hk => ⟨0, by decide, x38 k hk, z3 _ (by omega) (by omega)⟩)⟩
    · refine ⟨?_, ?_, ?_⟩
      · rw [rsM_at (by omega), vM_at (by omega), rsX_at (by omega), vX_at (by omega) (by decide)]
        exact (z2 258 (by decide) (by decide)).trans (zz 47 1 (by simp)).symm
      · rw [rsM_at (by omega), vM_at (by omega), rsX_at (by omega), vX_at (by omega) (by decide)]
        exact (z2 259 (by decide) (by decide)).trans (zz 47 2 (by simp)).symm
      · rw [rsM_at (by omega), vM_at (by omega), rsX_at (by omega), vX_at (by omega) (by decide)]
        exact (z2 260 (by decide) (by decide)).trans (zz 47 3 (by simp)).symm
    · rw [rsM_at (by omega), vM_at (by omega), rsX_at (by omega), vX_at (by omega) (by show k < 120; omega)]
      exact B k hk
    · rw [rsX_at (by omega), vX_at (by omega) (by decide)]
      exact zz 47 2 (by simp)
    · rw [rsM_at (by omega), vM_at (by omega)]
      exact z2 259 (by decide) (by decide)
    · rw [rsX_at (by omega), vX_at (by omega) (by show p < 10; omega)]
      exact x51 p hp
    · rw [rsM_at (by omega), vM_at (by omega)]
      exact z3 _ (by omega) (by omega)
    · refine ⟨[], 0, by decide, by decide, fun o ho => absurd ho (List.not_mem_nil), fun i o hi => (by cases hi), fun j v hj => (by cases hj), ?_, by decide, ?_, ?_, fun i hi => absurd hi (Nat.not_lt_zero i)⟩
      · rw [rsX_at (by omega), vX_at (by omega) (by decide)]
        exact zz 39 1 (by simp)
      · rw [rsX_at (by omega), vX_at (by omega) (by decide)]
        exact zz 39 0 (by simp)
      · rw [rsL_at (by omega), vM_at (by omega)]
        exact z2 257 (by decide) (by decide)
    · refine ⟨0, by decide, ?_, ?_, fun i hi => absurd hi (Nat.not_lt_zero i)⟩
      · rw [rsX_at (by omega), vX_at (by omega) (by decide)]
        exact zz 22 0 (by simp)
      · rw [rsM_at (by omega), vM_at (by omega)]
        exact z3 _ (by decide) (by decide)
    · refine ⟨0, by decide, ?_, ?_, fun i hi => absurd hi (Nat.not_lt_zero i)⟩
      · rw [rsX_at (by omega), vX_at (by omega) (by decide)]
        exact zz 24 0 (by simp)
      · rw [rsM_at (by omega), vM_at (by omega)]
        exact z3 _ (by decide) (by decide)
    · refine ⟨0, by decide, ?_, ?_, fun i hi => absurd hi (Nat.not_lt_zero i)⟩
      · rw [rsX_at (by omega), vX_at (by omega) (by decide)]
        exact zz 26 0 (by simp)
      · rw [rsM_at (by omega), vM_at (by omega)]
        exact z3 _ (by decide) (by decide)
    · rw [x35 k hk, x36 k hk]
      have a1 : τ 223 (554 + k) = 0 := z3 _ (by omega) (by omega)
      have a2 : τ 223 (563 + k) = 0 := z3 _ (by omega) (by omega)
      show (0 : Int32) = τ 223 (554 + k) ∧ (0 : Int32) = τ 223 (563 + k) ∧ -9 ≤ (τ 223 (554 + k)).toInt ∧ (τ 223 (554 + k)).toInt ≤ 9 ∧ -9 ≤ (τ 223 (563 + k)).toInt ∧ (τ 223 (563 + k)).toInt ≤ 9
      rw [a1, a2]
      decide
