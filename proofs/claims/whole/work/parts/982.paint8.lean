/-! PURE PART. Maps: the class's recursion -/
theorem getD_mid (pre cls : List Nat) (x c j : Nat) : (pre ++ x :: cls).getD j 0 = if j = pre.length then x else (pre ++ c :: cls).getD j 0 := by
  induction pre generalizing j with
  | nil => cases j <;> rfl
  | cons p pre ih =>
    cases j with
    | zero => rfl
    | succ j =>
      show (pre ++ x :: cls).getD j 0 = if j + 1 = pre.length + 1 then x else (pre ++ c :: cls).getD j 0
      rw [ih j]
      by_cases q : j = pre.length
      · rw [if_pos q, if_pos (by omega)]
      · rw [if_neg q, if_neg (by omega)]
theorem getD_end (ms : List Nat) (x j : Nat) : (ms ++ [x]).getD j 0 = if j = ms.length then x else ms.getD j 0 := by
  induction ms generalizing j with
  | nil => cases j <;> rfl
  | cons p ms ih =>
    cases j with
    | zero => rfl
    | succ j =>
      show (ms ++ [x]).getD j 0 = if j + 1 = ms.length + 1 then x else ms.getD j 0
      rw [ih j]
      by_cases q : j = ms.length
      · rw [if_pos q, if_pos (by omega)]
      · rw [if_neg q, if_neg (by omega)]
theorem getD_len (ms : List Nat) : ms.getD ms.length 0 = 0 := by
  induction ms with
  | nil => rfl
  | cons p ms ih => exact ih
theorem tbs_mid (pre cls : List Nat) (c l : Nat) : tbs (pre ++ (c ||| 2 ^ l) :: cls) = tbs pre ++ insL c.testBit l :: tbs cls := by
  unfold tbs
  rw [List.map_append, List.map_cons, or_ins]
theorem paint_L {F s m : Nat} {a b nb : Nat → Nat} {rc : Int32 → Int32 → Tau → Option (Int32 × Tau)} (hF : 5000 ≤ F) (hm : m < 8) (hab : ∀ i, i < s → a i ≠ b i) (hnb : ∀ l, l < 8 → nb l < 2 ^ 31 ∧ ∀ j, (nb l).testBit j = true ↔ NbL s a b l j)
    (IH : ∀ ms τ, ClsP ms τ → Low s a b (8 - m) ms → (∀ l, l < 8 → τ 217 l = nI (nb l)) → ∃ τ', rc (nI (8 - m)) (nI ms.length) τ = some (0, τ') ∧ Grow (fun k => pX (okE s a b) k m (tbs ms)) τ τ' ∧ (∀ i, i < 5 → τ' 218 i = τ 218 i) ∧ ∀ c j, c ≠ 218 → c ≠ 219 → τ' c j = τ c j) (ms : List Nat) (hlow : Low s a b (7 - m) ms) :
    ∀ (cls pre : List Nat) (f : Nat) (τ : Tau), pre ++ cls = ms → cls.length + 1 < f → ClsP ms τ → (∀ l, l < 8 → τ 217 l = nI (nb l)) → ∃ τ', X4_paint_L26 F rc 217 218 219 f (nI (7 - m)) (nI ms.length) (nI pre.length) τ = some (0, τ') ∧ Grow (fun k => sP (okE s a b) (pX (okE s a b) k m) (7 - m) (tbs pre) (tbs cls) + if ms.length < 5 then pX (okE s a b) k m (tbs ms ++ [insL noL (7 - m)]) else 0) τ τ' ∧ (∀ i, i < 5 → τ' 218 i = τ 218 i) ∧ ∀ c j, c ≠ 218 → c ≠ 219 → τ' c j = τ c j := by
  have hl : 7 - m < 8 := by omega
  obtain ⟨nb1, nb2⟩ := hnb (7 - m) hl
  have k8 : nI (7 - m) + 1 = nI (8 - m) := by rw [litA', show 7 - m + 1 = 8 - m by omega]
  have p128 : 2 ^ (7 - m) ≤ 128 := Nat.pow_le_pow_right (n := 2) (by decide) (show 7 - m ≤ 7 by omega)
  have p256 : 2 ^ (7 - m + 1) ≤ 256 := Nat.pow_le_pow_right (n := 2) (by decide) (show 7 - m + 1 ≤ 8 by omega)
  intro cls
  induction cls with
  | nil =>
    intro pre f τ hp hf hC hN
    rw [List.append_nil] at hp
    subst hp
    obtain ⟨g, rfl, -⟩ := fuel hf
    obtain ⟨c5, cc⟩ := id hC
    unfold X4_paint_L26
    rw [if_neg (show ¬ nI pre.length < nI pre.length from Int32.lt_irrefl), show lnX 218 = 5 from rfl, litN]
    by_cases h5 : pre.length < 5
    · have hv := cc pre.length h5
      rw [getD_len] at hv
      have hC' : ClsP (pre ++ [2 ^ (7 - m)]) (up τ 218 pre.length (nI (0 ||| 2 ^ (7 - m)))) := by
        refine ⟨by rw [List.length_append]; show pre.length + 1 ≤ 5; omega, fun i hi => ?_⟩
        rw [getD_end]
        by_cases q : i = pre.length
        · rw [if_pos q, q, up_c, Nat.zero_or]
        · rw [if_neg q, up_nj q]
          exact cc i hi
      obtain ⟨τ1, e1, e2, e3, e4⟩ := IH (pre ++ [2 ^ (7 - m)]) (up τ 218 pre.length (nI (0 ||| 2 ^ (7 - m)))) hC' (fun x hx => by
        rcases List.mem_append.mp hx with h | h
        · exact ⟨Nat.lt_of_lt_of_le (hlow x h).1 (Nat.pow_le_pow_right (by decide) (by omega)), (hlow x h).2⟩
        · rw [List.mem_singleton.mp h]
          refine ⟨Nat.pow_lt_pow_right (by decide) (by omega), okE_iff.mpr (fun i hi z => hab i hi ?_)⟩
          rw [Nat.testBit_two_pow, Nat.testBit_two_pow, decide_eq_true_eq, decide_eq_true_eq] at z
          exact z.1.symm.trans z.2) (fun l hl => (up_nc (by decide)).trans (hN l hl))
      have hle : List.length (pre ++ [2 ^ (7 - m)]) = pre.length + 1 := by
        rw [List.length_append]
        rfl
      rw [hle] at e1
      obtain ⟨g', rfl, -⟩ := fuel (show 0 < g by omega)
      refine ⟨up τ1 218 pre.length 0, ?_, fun k hk v hv2 => ?_, fun i hi => ?_, fun c j h1 h2 => ?_⟩
      · rw [if_neg (show ¬ nI 5 ≤ nI pre.length by rw [nI_leI (by omega) (by omega)]; omega), ald_nI h5 (by omega), X10_entry_in (N := 8) rfl hl (by decide), cal_some, hv, hN _ hl, nI_and, Nat.zero_and, if_pos (show nI 0 = (0 : Int32) from rfl), ald_nI h5 (by omega), hv, shl_p (by omega), nI_or, ast_nI h5 (by omega), k8, litA', nI_imax (by omega) (by omega), Nat.max_eq_right (by omega), e1, cal_some, ald_nI h5 (by omega), e3 _ h5, up_c, nI_dfN, or_back (Nat.two_pow_pos _), ast_nI h5 (by omega)]
        unfold X4_paint_j92 X4_paint_L26
        rw [litA', if_pos (nI_lt (by omega) (by omega))]
        rfl
      · rw [up_nc (by decide), e2 k hk v ((up_nc (by decide)).trans hv2)]
        congr 1
        show v + pX (okE s a b) k m (tbs (pre ++ [2 ^ (7 - m)])) = v + (0 + if pre.length < 5 then pX (okE s a b) k m (tbs pre ++ [insL noL (7 - m)]) else 0)
        rw [if_pos h5, Nat.zero_add]
        congr 2
        unfold tbs
        rw [List.map_append, List.map_cons, List.map_nil]
        congr 2
        have := or_ins 0 (7 - m)
        rw [Nat.zero_or] at this
        rw [this]
        congr 1
        funext j
        exact Nat.zero_testBit j
      · by_cases q : i = pre.length
        · rw [q, up_c, hv]; rfl
        · rw [up_nj q, e3 i hi, up_nj q]
      · rw [up_nc h1, e4 c j h1 h2, up_nc h1]
    · have h5' : pre.length = 5 := by omega
      rw [if_pos (by rw [h5']; decide)]
      refine ⟨τ, rfl, fun k hk v hv => ?_, fun _ _ => rfl, fun _ _ _ _ => rfl⟩
      show τ 219 k = nI (v + (0 + if pre.length < 5 then _ else 0))
      rw [if_neg h5]
      exact hv
  | cons c cls ih =>
    intro pre f τ hp hf hC hN
    obtain ⟨g, rfl, -⟩ := fuel hf
    obtain ⟨c5, cc⟩ := id hC
    have hlen : ms.length = pre.length + cls.length + 1 := by rw [← hp, List.length_append, List.length_cons]; omega
    have hi5 : pre.length < 5 := by omega
    have hcm := hlow c (by rw [← hp]; exact List.mem_append_right _ (List.mem_cons_self))
    have hg : ∀ j, ms.getD j 0 = if j = pre.length then c else ms.getD j 0 := fun j => by
      have := getD_mid pre cls c c j
      rw [hp] at this
      exact this
    have hv : τ 218 pre.length = nI c := by
      rw [cc _ hi5, hg, if_pos rfl]
    have hrest : ∀ τ1, ClsP ms τ1 → (∀ l, l < 8 → τ1 217 l = nI (nb l)) → _ := fun τ1 h1 h2 => ih (pre ++ [c]) g τ1 (by rw [List.append_assoc]; exact hp) (by rw [List.length_cons] at hf; omega) h1 h2
    have klen : (pre ++ [c]).length = pre.length + 1 := by rw [List.length_append]; rfl
    have kT : nI pre.length + 1 = nI (pre.length + 1) := litA'
    have htb : tbs (pre ++ [c]) = tbs pre ++ [c.testBit] := by unfold tbs; rw [List.map_append]; rfl
    have hcond : (nI c &&& nI (nb (7 - m)) = 0) ↔ okE s a b (insL c.testBit (7 - m)) = true := by
      have hle : c &&& nb (7 - m) ≤ c := Nat.and_le_left
      rw [nI_and, show (0 : Int32) = nI 0 from rfl, nI_eq (by omega) (by omega)]
      exact can_paint hab nb2 hcm.2
    conv => enter [1, τ', 1, 1]; unfold X4_paint_L26
    unfold X4_paint_j92
    rw [if_neg (show ¬ nI ms.length < nI pre.length by rw [nI_ltI (by omega) (by omega)]; omega), show lnX 218 = 5 from rfl, litN, if_neg (show ¬ nI 5 ≤ nI pre.length by rw [nI_leI (by omega) (by omega)]; omega), ald_nI hi5 (by omega), X10_entry_in (N := 8) rfl hl (by decide), cal_some, hv, hN _ hl, kT]
    by_cases e : okE s a b (insL c.testBit (7 - m)) = true
    · have hC' : ClsP (pre ++ (c ||| 2 ^ (7 - m)) :: cls) (up τ 218 pre.length (nI (c ||| 2 ^ (7 - m)))) := by
        refine ⟨by rw [List.length_append, List.length_cons]; omega, fun i hi => ?_⟩
        rw [getD_mid pre cls _ c i, hp]
        by_cases q : i = pre.length
        · rw [if_pos q, q, up_c]
        · rw [if_neg q, up_nj q]
          exact cc i hi
      obtain ⟨τ1, e1, e2, e3, e4⟩ := IH (pre ++ (c ||| 2 ^ (7 - m)) :: cls) (up τ 218 pre.length (nI (c ||| 2 ^ (7 - m)))) hC' (fun x hx => by
        have up1 : ∀ y, y ∈ ms → y < 2 ^ (8 - m) ∧ okE s a b y.testBit = true := fun y hy => ⟨Nat.lt_of_lt_of_le (hlow y hy).1 (Nat.pow_le_pow_right (by decide) (by omega)), (hlow y hy).2⟩
        rcases List.mem_append.mp hx with h | h
        · exact up1 x (by rw [← hp]; exact List.mem_append_left _ h)
        · rcases List.mem_cons.mp h with h | h
          · rw [h, or_ins]
            have := or_lt hcm.1
            rw [show 7 - m + 1 = 8 - m by omega] at this
            exact ⟨this, e⟩
          · exact up1 x (by rw [← hp]; exact List.mem_append_right _ (List.mem_cons_of_mem _ h))) (fun l hl => (up_nc (by decide)).trans (hN l hl))
      rw [show (pre ++ (c ||| 2 ^ (7 - m)) :: cls).length = ms.length by rw [List.length_append, List.length_cons]; omega] at e1
      have hback : ∀ i, i < 5 → up τ1 218 pre.length (nI c) 218 i = τ 218 i := fun i hi => by
        by_cases q : i = pre.length
        · rw [q, up_c, hv]
        · rw [up_nj q, e3 i hi, up_nj q]
      obtain ⟨τ2, f1, f2, f3, f4⟩ := hrest (up τ1 218 pre.length (nI c)) ⟨c5, fun i hi => (hback i hi).trans (cc i hi)⟩ (fun l hl => by rw [up_nc (by decide), e4 _ _ (by decide) (by decide), up_nc (by decide)]; exact hN l hl)
      rw [klen] at f1
      refine ⟨τ2, ?_, fun k hk v hv2 => ?_, fun i hi => (f3 i hi).trans (hback i hi), fun c' j h1 h2 => ?_⟩
      · rw [if_pos (hcond.mpr e), ald_nI hi5 (by omega), hv, shl_p (by omega), nI_or, ast_nI hi5 (by omega), k8, nI_imax (by omega) (by omega), Nat.max_eq_left (by omega), e1, cal_some, ald_nI hi5 (by omega), e3 _ hi5, up_c, nI_dfN, or_back hcm.1, ast_nI hi5 (by omega)]
        exact f1
      · rw [f2 k hk _ ((up_nc (by decide)).trans (e2 k hk v ((up_nc (by decide)).trans hv2))), tbs_mid, htb]
        congr 1
        show v + pX (okE s a b) k m (tbs pre ++ insL c.testBit (7 - m) :: tbs cls) + (sP (okE s a b) (pX (okE s a b) k m) (7 - m) (tbs pre ++ [c.testBit]) (tbs cls) + _) = v + (((if okE s a b (insL c.testBit (7 - m)) = true then pX (okE s a b) k m (tbs pre ++ insL c.testBit (7 - m) :: tbs cls) else 0) + sP (okE s a b) (pX (okE s a b) k m) (7 - m) (tbs pre ++ [c.testBit]) (tbs cls)) + _)
        rw [if_pos e]
        omega
      · rw [f4 c' j h1 h2, up_nc h1, e4 c' j h1 h2, up_nc h1]
    · obtain ⟨τ2, f1, f2, f3, f4⟩ := hrest τ hC hN
      rw [klen] at f1
      refine ⟨τ2, ?_, fun k hk v hv2 => ?_, f3, f4⟩
      · rw [if_neg (fun z => e (hcond.mp z))]
        exact f1
      · rw [f2 k hk v hv2, htb]
        congr 1
        show v + (sP (okE s a b) (pX (okE s a b) k m) (7 - m) (tbs pre ++ [c.testBit]) (tbs cls) + _) = v + (((if okE s a b (insL c.testBit (7 - m)) = true then pX (okE s a b) k m (tbs pre ++ insL c.testBit (7 - m) :: tbs cls) else 0) + sP (okE s a b) (pX (okE s a b) k m) (7 - m) (tbs pre ++ [c.testBit]) (tbs cls)) + _)
        rw [if_neg e, Nat.zero_add]
