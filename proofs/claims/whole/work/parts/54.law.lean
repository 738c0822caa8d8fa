/-! PURE PART. THE LAW at work: the two machines for its steps -/
theorem nI_dec {n : Nat} (h : 1 ≤ n) : nI n + (-1) = nI (n - 1) := by
  have e : nI n + (-1) = nI n - 1 := by rw [Int32.sub_eq_add_neg]
  rw [e, litS h]
def ebin (k : Nat) (a b : Int32) : Int32 := if k = 23 then a + b else if k = 24 then a - b else if k = 25 then a * b else if k = 27 then (if b ≤ a then 0 else 1) else if k = 28 then (if a = b then 1 else 0) else if k = 29 then (if a ≤ b then 0 else 1) else if k = 31 then a &&& b else a ||| b
def isBin (k : Nat) : Prop := (23 ≤ k ∧ k ≤ 25) ∨ (27 ≤ k ∧ k ≤ 29) ∨ k = 31 ∨ k = 32
def ecode (k : Nat) : Nat := if k < 30 then k - 13 else k - 14
theorem isBin_cases {k : Nat} (h : isBin k) : k = 23 ∨ k = 24 ∨ k = 25 ∨ k = 27 ∨ k = 28 ∨ k = 29 ∨ k = 31 ∨ k = 32 := by unfold isBin at h; omega
theorem some_ite {p : Prop} [Decidable p] {a b : Int32} {τ : Tau} : (if p then some (a, τ) else some (b, τ)) = some (if p then a else b, τ) := by split <;> rfl
theorem X2_join_bin {F k : Nat} {a b : Int32} {τ : Tau} (h : isBin k) : X2_join F (nI (ecode k)) a b τ = some (ebin k a b, τ) := by
  rcases isBin_cases h with rfl | rfl | rfl | rfl | rfl | rfl | rfl | rfl
  · show X2_join F 10 a b τ = some (a + b, τ)
    unfold X2_join
    rw [if_pos rfl]
  · show X2_join F 11 a b τ = some (a - b, τ)
    unfold X2_join
    rw [if_neg (by decide), if_pos rfl]
  · show X2_join F 12 a b τ = some (a * b, τ)
    unfold X2_join
    rw [if_neg (by decide), if_neg (by decide), if_pos rfl]
  · show X2_join F 14 a b τ = some (if b ≤ a then 0 else 1, τ)
    unfold X2_join
    rw [if_neg (by decide), if_neg (by decide), if_neg (by decide), if_neg (by decide), if_pos rfl, some_ite]
  · show X2_join F 15 a b τ = some (if a = b then 1 else 0, τ)
    unfold X2_join
    rw [if_neg (by decide), if_neg (by decide), if_neg (by decide), if_neg (by decide), if_neg (by decide), if_pos rfl, some_ite]
  · show X2_join F 16 a b τ = some (if a ≤ b then 0 else 1, τ)
    unfold X2_join
    rw [if_neg (by decide), if_neg (by decide), if_neg (by decide), if_neg (by decide), if_neg (by decide), if_neg (by decide), if_pos rfl, some_ite]
  · show X2_join F 17 a b τ = some (a &&& b, τ)
    unfold X2_join
    rw [if_neg (by decide), if_neg (by decide), if_neg (by decide), if_neg (by decide), if_neg (by decide), if_neg (by decide), if_neg (by decide), if_pos rfl]
  · show X2_join F 18 a b τ = some (a ||| b, τ)
    unfold X2_join
    rw [if_neg (by decide), if_neg (by decide), if_neg (by decide), if_neg (by decide), if_neg (by decide), if_neg (by decide), if_neg (by decide), if_neg (by decide), if_pos rfl]
theorem X11_both_bin {F k : Nat} {a b : Int32} {τ : Tau} (h : isBin k) : X11_both F (nI k) a b τ = some (ebin k a b, τ) := by
  rcases isBin_cases h with rfl | rfl | rfl | rfl | rfl | rfl | rfl | rfl
  · show X11_both F 23 a b τ = some (a + b, τ)
    unfold X11_both
    rw [if_pos rfl]
  · show X11_both F 24 a b τ = some (a - b, τ)
    unfold X11_both
    rw [if_neg (by decide), if_pos rfl]
  · show X11_both F 25 a b τ = some (a * b, τ)
    unfold X11_both
    rw [if_neg (by decide), if_neg (by decide), if_pos rfl]
  · show X11_both F 27 a b τ = some (if b ≤ a then 0 else 1, τ)
    unfold X11_both
    rw [if_neg (by decide), if_neg (by decide), if_neg (by decide), if_neg (by decide), if_pos rfl, some_ite]
  · show X11_both F 28 a b τ = some (if a = b then 1 else 0, τ)
    unfold X11_both
    rw [if_neg (by decide), if_neg (by decide), if_neg (by decide), if_neg (by decide), if_neg (by decide), if_pos rfl, some_ite]
  · show X11_both F 29 a b τ = some (if a ≤ b then 0 else 1, τ)
    unfold X11_both
    rw [if_neg (by decide), if_neg (by decide), if_neg (by decide), if_neg (by decide), if_neg (by decide), if_neg (by decide), if_pos rfl, some_ite]
  · show X11_both F 31 a b τ = some (a &&& b, τ)
    unfold X11_both
    rw [if_neg (by decide), if_neg (by decide), if_neg (by decide), if_neg (by decide), if_neg (by decide), if_neg (by decide), if_neg (by decide), if_neg (by decide), if_pos rfl]
  · show X11_both F 32 a b τ = some (a ||| b, τ)
    unfold X11_both X11_both_j101
    rw [if_neg (by decide), if_neg (by decide), if_neg (by decide), if_neg (by decide), if_neg (by decide), if_neg (by decide), if_neg (by decide), if_neg (by decide), if_neg (by decide)]
def estep (f : Nat → Int32) (o : Nat × Nat) (st : List Int32) : List Int32 :=
  if o.1 = 0 then nI o.2 :: st else if o.1 ≤ 10 then f (o.1 - 1) :: st else match st with
    | [] => []
    | a :: r => if o.1 = 26 then a / nI o.2 :: r else if o.1 = 30 then (1 - a) :: r else match r with
      | [] => []
      | b :: r => ebin o.1 b a :: r
def evs (f : Nat → Int32) : List (Nat × Nat) → List Int32 → List Int32
  | [], s => s
  | o :: l, s => evs f l (estep f o s)
def okv : List Bool → List Int32 → Prop
  | [], [] => True
  | b :: s, v :: r => (b = true → v = 0 ∨ v = 1) ∧ okv s r
  | _, _ => False
theorem okv_len {s : List Bool} : ∀ {st : List Int32}, okv s st → st.length = s.length := by
  induction s with
  | nil => intro st h; cases st with
    | nil => rfl
    | cons v r => exact h.elim
  | cons b s ih => intro st h; cases st with
    | nil => exact h.elim
    | cons v r => show r.length + 1 = s.length + 1; rw [ih h.2]
theorem b01 : ∀ a b : Int32, (a = 0 ∨ a = 1) → (b = 0 ∨ b = 1) → (a &&& b = 0 ∨ a &&& b = 1) ∧ (a ||| b = 0 ∨ a ||| b = 1) ∧ (1 - a = 0 ∨ 1 - a = 1) := by
  intro a b ha hb
  rcases ha with rfl | rfl <;> rcases hb with rfl | rfl <;> decide
/-- what a step needs of the stack, by its kind -/
theorem tstep_cases {o : Nat × Nat} {s s' : List Bool} (ho : okOp o) (h : tstep o s = some s') : (o.1 ≤ 10 ∧ s.length < 31 ∧ s' = false :: s) ∨ (o.1 = 26 ∧ ∃ r, s = false :: r ∧ r.length < 30 ∧ s' = false :: r) ∨ (o.1 = 30 ∧ ∃ r, s = true :: r ∧ s' = true :: r) ∨
    (isBin o.1 ∧ ∃ a b r, s = a :: b :: r ∧ ((o.1 ≤ 25 ∧ s' = false :: r) ∨ (25 < o.1 ∧ o.1 ≤ 29 ∧ s' = true :: r) ∨ (29 < o.1 ∧ a = true ∧ b = true ∧ s' = true :: r))) := by
  obtain ⟨h1, -, -⟩ := ho
  unfold tstep at h
  by_cases c1 : o.1 ≤ 10
  · rw [if_pos c1] at h
    by_cases c2 : s.length < 31
    · rw [if_pos c2] at h
      exact .inl ⟨c1, c2, (Option.some.inj h).symm⟩
    · rw [if_neg c2] at h; cases h
  · rw [if_neg c1] at h
    cases s with
    | nil => cases h
    | cons a r =>
      simp only at h
      by_cases c2 : o.1 = 26
      · rw [if_pos c2] at h
        by_cases c3 : a = false ∧ r.length < 30
        · rw [if_pos c3] at h
          exact .inr (.inl ⟨c2, r, by rw [c3.1], c3.2, (Option.some.inj h).symm⟩)
        · rw [if_neg c3] at h; cases h
      · rw [if_neg c2] at h
        by_cases c3 : o.1 = 30
        · rw [if_pos c3] at h
          by_cases c4 : a = true
          · rw [if_pos c4] at h
            exact .inr (.inr (.inl ⟨c3, r, by rw [c4], (Option.some.inj h).symm⟩))
          · rw [if_neg c4] at h; cases h
        · rw [if_neg c3] at h
          cases r with
          | nil => cases h
          | cons b r =>
            simp only at h
            refine .inr (.inr (.inr ⟨by unfold isBin; omega, a, b, r, rfl, ?_⟩))
            by_cases c4 : o.1 ≤ 25
            · rw [if_pos c4] at h
              by_cases c5 : a = false ∧ b = false
              · rw [if_pos c5] at h; exact .inl ⟨c4, (Option.some.inj h).symm⟩
              · rw [if_neg c5] at h; cases h
            · rw [if_neg c4] at h
              by_cases c6 : o.1 ≤ 29
              · rw [if_pos c6] at h
                by_cases c5 : a = false ∧ b = false
                · rw [if_pos c5] at h; exact .inr (.inl ⟨by omega, c6, (Option.some.inj h).symm⟩)
                · rw [if_neg c5] at h; cases h
              · rw [if_neg c6] at h
                by_cases c5 : a = true ∧ b = true
                · rw [if_pos c5] at h; exact .inr (.inr ⟨by omega, c5.1, c5.2, (Option.some.inj h).symm⟩)
                · rw [if_neg c5] at h; cases h
theorem estep_push {f : Nat → Int32} {o : Nat × Nat} {st : List Int32} (h : o.1 ≤ 10) : estep f o st = (if o.1 = 0 then nI o.2 else f (o.1 - 1)) :: st := by
  unfold estep
  by_cases c : o.1 = 0
  · rw [if_pos c, if_pos c]
  · rw [if_neg c, if_pos h, if_neg c]
theorem estep_part {f : Nat → Int32} {o : Nat × Nat} {a : Int32} {r : List Int32} (h : o.1 = 26) : estep f o (a :: r) = a / nI o.2 :: r := by
  unfold estep
  rw [if_neg (by omega), if_neg (by omega)]
  simp only
  rw [if_pos h]
theorem estep_not {f : Nat → Int32} {o : Nat × Nat} {a : Int32} {r : List Int32} (h : o.1 = 30) : estep f o (a :: r) = (1 - a) :: r := by
  unfold estep
  rw [if_neg (by omega), if_neg (by omega)]
  simp only
  rw [if_neg (by omega), if_pos h]
theorem estep_bin {f : Nat → Int32} {o : Nat × Nat} {a b : Int32} {r : List Int32} (h : isBin o.1) : estep f o (a :: b :: r) = ebin o.1 b a :: r := by
  have := isBin_cases h
  unfold estep
  rw [if_neg (by omega), if_neg (by omega)]
  simp only
  rw [if_neg (by omega), if_neg (by omega)]
theorem step_ok {f : Nat → Int32} {o : Nat × Nat} {s s' : List Bool} {st : List Int32} (ho : okOp o) (h : tstep o s = some s') (hv : okv s st) : okv s' (estep f o st) := by
  rcases tstep_cases ho h with ⟨c, -, rfl⟩ | ⟨c, r, rfl, -, rfl⟩ | ⟨c, r, rfl, rfl⟩ | ⟨c, a, b, r, rfl, hc⟩
  · rw [estep_push c]
    exact ⟨fun z => (by cases z), hv⟩
  · cases st with
    | nil => exact hv.elim
    | cons v st =>
      rw [estep_part c]
      exact ⟨fun z => (by cases z), hv.2⟩
  · cases st with
    | nil => exact hv.elim
    | cons v st =>
      rw [estep_not c]
      exact ⟨fun _ => (b01 v 0 (hv.1 rfl) (.inl rfl)).2.2, hv.2⟩
  · cases st with
    | nil => exact hv.elim
    | cons v st =>
      cases st with
      | nil => exact hv.2.elim
      | cons u st =>
        rw [estep_bin c]
        have hc2 := isBin_cases c
        rcases hc with ⟨-, rfl⟩ | ⟨c1, c2, rfl⟩ | ⟨c1, rfl, rfl, rfl⟩
        · exact ⟨fun z => (by cases z), hv.2.2⟩
        · refine ⟨fun _ => ?_, hv.2.2⟩
          have hk : o.1 = 27 ∨ o.1 = 28 ∨ o.1 = 29 := by omega
          unfold ebin
          rcases hk with e | e | e <;> rw [e]
          · show (if v ≤ u then (0 : Int32) else 1) = 0 ∨ (if v ≤ u then (0 : Int32) else 1) = 1
            split <;> simp
          · show (if u = v then (1 : Int32) else 0) = 0 ∨ (if u = v then (1 : Int32) else 0) = 1
            split <;> simp
          · show (if u ≤ v then (0 : Int32) else 1) = 0 ∨ (if u ≤ v then (0 : Int32) else 1) = 1
            split <;> simp
        · refine ⟨fun _ => ?_, hv.2.2⟩
          have hk : o.1 = 31 ∨ o.1 = 32 := by omega
          have hb := b01 u v (hv.2.1 rfl) (hv.1 rfl)
          unfold ebin
          rcases hk with e | e <;> rw [e]
          · exact hb.1
          · exact hb.2.1
/-- a stack in a row -/
def stk (c : Nat) (τ : Tau) : List Int32 → Prop
  | [] => True
  | v :: r => τ c r.length = v ∧ stk c τ r
theorem stk_ge {c j : Nat} {v : Int32} {τ : Tau} : ∀ {st : List Int32}, stk c τ st → st.length ≤ j → stk c (up τ c j v) st := by
  intro st
  induction st with
  | nil => intro _ _; trivial
  | cons a r ih =>
    intro h hj
    have hj' : r.length + 1 ≤ j := hj
    exact ⟨by rw [up_nj (by omega)]; exact h.1, ih h.2 (by omega)⟩
theorem stk_push {c : Nat} {v : Int32} {τ : Tau} {st : List Int32} (h : stk c τ st) : stk c (up τ c st.length v) (v :: st) := ⟨up_c, stk_ge h (Nat.le_refl _)⟩
theorem stk_of {c : Nat} {τ τ' : Tau} : ∀ {st : List Int32}, stk c τ st → (∀ j, τ' c j = τ c j) → stk c τ' st := by
  intro st
  induction st with
  | nil => intro _ _; trivial
  | cons a r ih => intro h e; exact ⟨by rw [e]; exact h.1, ih h.2 e⟩
theorem tstep_len {o : Nat × Nat} {s s' : List Bool} (ho : okOp o) (h : tstep o s = some s') (hb : s.length ≤ 31) : s'.length ≤ 31 := by
  rcases tstep_cases ho h with ⟨c, d, rfl⟩ | ⟨c, r, rfl, d, rfl⟩ | ⟨c, r, rfl, rfl⟩ | ⟨c, a, b, r, rfl, hc⟩
  · show s.length + 1 ≤ 31; omega
  · exact hb
  · exact hb
  · have hb2 : r.length + 1 + 1 ≤ 31 := hb
    rcases hc with ⟨-, rfl⟩ | ⟨-, -, rfl⟩ | ⟨-, -, -, rfl⟩ <;> (show r.length + 1 ≤ 31; omega)
/-! the reference's machine -/
theorem M_step {F n i e : Nat} {f : Nat → Int32} {o : Nat × Nat} {s s' : List Bool} {st : List Int32} {τ : Tau} (ho : okOp o) (h : tstep o s = some s') (hv : okv s st) (hb : s.length ≤ 31) (hi : i < e) (he : e ≤ 400) (h1 : τ 1 (1424 + 2 * i) = nI o.1) (h2 : o.1 = 0 ∨ o.1 = 26 → τ 1 (1425 + 2 * i) = nI o.2)
    (hf : ∀ k, k < 10 → τ 10 (k + 1) = f k) (hs : stk 9 τ st) : ∃ τ', X11_comesTo_L5 F (n + 1) (nI e) (nI st.length) (nI i) τ = X11_comesTo_L5 F n (nI e) (nI (estep f o st).length) (nI (i + 1)) τ' ∧ stk 9 τ' (estep f o st) ∧ ∀ c j, c ≠ 9 → τ' c j = τ c j := by
  have hl := okv_len hv
  have ho1 : o.1 < 33 := by have := ho.1; omega
  conv => arg 1; intro x; arg 1; lhs; unfold X11_comesTo_L5
  rw [if_neg (nI_ge hi (by omega)), litM, litA, litA', ald_nI (by omega) (by omega), ald_nI (by omega) (by omega), h1]
  rcases tstep_cases ho h with ⟨c, d, rfl⟩ | ⟨c, r, rfl, d, rfl⟩ | ⟨c, r, rfl, rfl⟩ | ⟨c, a, b, r, rfl, hc⟩
  · rw [if_neg (by rw [lit_le' (by decide) (by omega)]; omega), estep_push c]
    unfold X11_comesTo_j72 X11_comesTo_j160
    by_cases c0 : o.1 = 0
    · rw [if_pos (by rw [c0]; rfl), if_pos c0, ast_nI (by omega) (by omega), show 1424 + 2 * i + 1 = 1425 + 2 * i by omega, h2 (.inl c0), litA', litA']
      exact ⟨_, rfl, stk_push hs, fun c j hcj => up_nc hcj⟩
    · rw [if_neg (by rw [lit_eq (by decide) (by omega)]; exact c0), if_neg c0, ald_nI (by omega) (by omega), ast_nI (by omega) (by omega), litA', litA']
      have e1 : τ 10 o.1 = f (o.1 - 1) := by rw [← hf (o.1 - 1) (by omega), Nat.sub_add_cancel (by omega)]
      rw [e1]
      exact ⟨_, rfl, stk_push hs, fun c j hcj => up_nc hcj⟩
  · cases st with
    | nil => exact hv.elim
    | cons v st =>
      have hl2 : st.length = r.length := okv_len hv.2
      rw [if_pos (by rw [lit_le' (by decide) (by omega)]; omega), if_pos (by rw [c]; rfl), estep_part c]
      simp only [List.length_cons]
      rw [litS (by omega), Nat.add_sub_cancel, ald_nI (by omega) (by omega), show 1424 + 2 * i + 1 = 1425 + 2 * i by omega, h2 (.inr c), if_neg (by rw [lit_eq (by decide) (by have := ho.2.2 c; omega)]; have := ho.2.2 c; omega), ast_nI (by omega) (by omega)]
      unfold X11_comesTo_j160
      rw [litA', show τ 9 st.length = v from hs.1]
      exact ⟨_, rfl, stk_push hs.2, fun c j hcj => up_nc hcj⟩
  · cases st with
    | nil => exact hv.elim
    | cons v st =>
      have hl2 : st.length = r.length := okv_len hv.2
      have hb2 : r.length + 1 ≤ 31 := hb
      rw [if_pos (by rw [lit_le' (by decide) (by omega)]; omega), if_neg (by rw [lit_eq (by decide) (by omega)]; omega), if_pos (by rw [c]; rfl), estep_not c]
      simp only [List.length_cons]
      rw [litS (by omega), Nat.add_sub_cancel, ald_nI (by omega) (by omega), ast_nI (by omega) (by omega)]
      unfold X11_comesTo_j160
      rw [litA', show τ 9 st.length = v from hs.1]
      exact ⟨_, rfl, stk_push hs.2, fun c j hcj => up_nc hcj⟩
  · cases st with
    | nil => exact hv.elim
    | cons v st =>
      cases st with
      | nil => exact hv.2.elim
      | cons u st =>
        have hl2 : st.length = r.length := okv_len hv.2.2
        have hb2 : r.length + 1 + 1 ≤ 31 := hb
        have hk := isBin_cases c
        rw [if_pos (by rw [lit_le' (by decide) (by omega)]; omega), if_neg (by rw [lit_eq (by decide) (by omega)]; omega), if_neg (by rw [lit_eq (by decide) (by omega)]; omega), estep_bin c]
        simp only [List.length_cons]
        rw [nI_dec (by omega), litS (by omega), Nat.add_sub_cancel, Nat.add_sub_cancel, ald_nI (by omega) (by omega), ald_nI (by omega) (by omega), X11_both_bin c, cal_some, ast_nI (by omega) (by omega)]
        unfold X11_comesTo_j160
        rw [litA', show τ 9 (st.length + 1) = v from hs.1, show τ 9 st.length = u from hs.2.1]
        exact ⟨_, rfl, stk_push hs.2.2, fun c j hcj => up_nc hcj⟩
theorem M_seg {F e : Nat} {f : Nat → Int32} (he : e ≤ 400) : ∀ (seg : List (Nat × Nat)) (i : Nat) (s s' : List Bool) (st : List Int32) (τ : Tau), (∀ o ∈ seg, okOp o) → tyc seg s = some s' → okv s st → s.length ≤ 31 → i + seg.length ≤ e → (∀ k o, seg[k]? = some o → τ 1 (1424 + 2 * (i + k)) = nI o.1 ∧ (o.1 = 0 ∨ o.1 = 26 → τ 1 (1425 + 2 * (i + k)) = nI o.2)) →
    (∀ k, k < 10 → τ 10 (k + 1) = f k) → stk 9 τ st → ∀ n, ∃ τ', X11_comesTo_L5 F (n + seg.length) (nI e) (nI st.length) (nI i) τ = X11_comesTo_L5 F n (nI e) (nI (evs f seg st).length) (nI (i + seg.length)) τ' ∧ stk 9 τ' (evs f seg st) ∧ okv s' (evs f seg st) ∧ ∀ c j, c ≠ 9 → τ' c j = τ c j := by
  intro seg
  induction seg with
  | nil =>
    intro i s s' st τ _ ht hv _ _ _ _ hs n
    refine ⟨τ, rfl, hs, ?_, fun _ _ _ => rfl⟩
    rw [← Option.some.inj ht]; exact hv
  | cons o seg ih =>
    intro i s s' st τ ho ht hv hb hi hc hf hs n
    have hi2 : i + (seg.length + 1) ≤ e := hi
    have ht2 : (tstep o s).bind (tyc seg) = some s' := ht
    cases h : tstep o s with
    | none => rw [h] at ht2; cases ht2
    | some s1 =>
      rw [h] at ht2
      have ho1 := ho o List.mem_cons_self
      obtain ⟨c1, c2⟩ := hc 0 o rfl
      obtain ⟨τ1, e1, e2, e3⟩ := M_step (F := F) (n := n + seg.length) ho1 h hv hb (show i < e by omega) he c1 c2 hf hs
      obtain ⟨τ2, g1, g2, g3, g4⟩ := ih (i + 1) s1 s' (estep f o st) τ1 (fun o' h' => ho o' (List.mem_cons_of_mem _ h')) ht2 (step_ok ho1 h hv) (tstep_len ho1 h hb) (by omega) (fun k o' hk => by
        have := hc (k + 1) o' (by simpa using hk)
        rw [e3 _ _ (by decide), e3 _ _ (by decide), show i + 1 + k = i + (k + 1) by omega]
        exact this) (fun k hk => by rw [e3 _ _ (by decide)]; exact hf k hk) e2 n
      refine ⟨τ2, ?_, g2, g3, fun c j hcj => by rw [g4 c j hcj, e3 c j hcj]⟩
      show X11_comesTo_L5 F (n + seg.length + 1) (nI e) (nI st.length) (nI i) τ = X11_comesTo_L5 F n (nI e) (nI (evs f seg (estep f o st)).length) (nI (i + (seg.length + 1))) τ2
      rw [e1, g1, show i + 1 + seg.length = i + (seg.length + 1) by omega]
theorem M_run {F : Nat} {f : Nat → Int32} {τ : Tau} (hF : 400 < F) {ops : List (Nat × Nat)} {a m : Nat} {t : Bool} (ho : ∀ o ∈ ops, okOp o) (hl : ops.length ≤ 400) (ham : a ≤ m) (hm : m ≤ ops.length) (ht : tyc ((ops.take m).drop a) [] = some [t]) (hc : ∀ i o, ops[i]? = some o → τ 1 (1424 + 2 * i) = nI o.1 ∧ (o.1 = 0 ∨ o.1 = 26 → τ 1 (1425 + 2 * i) = nI o.2))
    (hf : ∀ k, k < 10 → τ 10 (k + 1) = f k) : ∃ v τ', evs f ((ops.take m).drop a) [] = [v] ∧ (t = true → v = 0 ∨ v = 1) ∧ X11_comesTo F (nI a) (nI m) τ = some (v, τ') ∧ ∀ c j, c ≠ 9 → τ' c j = τ c j := by
  have hlen : ((ops.take m).drop a).length = m - a := by rw [List.length_drop, List.length_take, Nat.min_eq_left hm]
  obtain ⟨τ', e1, e2, e3, e4⟩ := M_seg (F := F) (e := m) (f := f) (by omega) ((ops.take m).drop a) a [] [t] [] τ (fun o h => ho o (List.mem_of_mem_take (List.mem_of_mem_drop h))) ht trivial (by decide) (by omega) (fun k o hk => by
    rw [List.getElem?_drop] at hk
    have hlt : a + k < m := by
      rcases Nat.lt_or_ge (a + k) m with h | h
      · exact h
      · rw [List.getElem?_eq_none (by rw [List.length_take]; omega)] at hk; cases hk
    rw [List.getElem?_take_of_lt hlt] at hk
    exact hc (a + k) o hk) hf trivial (F - (m - a))
  have hev : ∃ v, evs f ((ops.take m).drop a) [] = [v] ∧ (t = true → v = 0 ∨ v = 1) := by
    cases hh : evs f ((ops.take m).drop a) [] with
    | nil => rw [hh] at e3; exact e3.elim
    | cons v r => cases r with
      | nil => rw [hh] at e3; exact ⟨v, rfl, e3.1⟩
      | cons u r => rw [hh] at e3; exact e3.2.elim
  obtain ⟨v, hv, hv2⟩ := hev
  rw [hv] at e1 e2
  refine ⟨v, τ', hv, hv2, ?_, e4⟩
  unfold X11_comesTo
  rw [hlen] at e1
  have e5 : F - (m - a) + (m - a) = F := by omega
  rw [e5] at e1
  show X11_comesTo_L5 F F (nI m) (nI ([] : List Int32).length) (nI a) τ = _
  rw [e1, show a + (m - a) = m by omega]
  obtain ⟨g, hg, -⟩ := fuel (show 0 < F - (m - a) by omega)
  rw [hg]
  unfold X11_comesTo_L5
  rw [if_pos (nI_le (Nat.le_refl _) (by omega)), ald_lit (by decide) (by decide)]
  rw [show τ' 9 0 = v from e2.1]
/-! the class's machine -/
theorem X_fetch {F t0 t3 n e j c len : Nat} {a4 : Int32} {τ : Tau} (hj : j < e) (he : e ≤ 400) (hlen : τ t0 1 = nI len) (hjl : j < len) (hl : len ≤ 400) (hc : τ (t0 + 5) j = nI c) (hcb : c < 2 ^ 31) :
    X2_run_L10 F t0 t3 (n + 1) (nI e) a4 (nI j) τ = X2_run_j53 F (X2_run_L10 F t0 t3 n) t0 t3 (nI e) a4 (nI j) (nI c) (if 32 ≤ c ∨ c < 10 then 1 else 0) τ := by
  conv => lhs; unfold X2_run_L10
  rw [if_neg (nI_ge hj (by omega)), hlen, if_neg (nI_ge hjl (by omega)), ald_nI (by omega) (by omega), hc]
  unfold X2_run_j48
  by_cases h1 : 32 ≤ c
  · rw [if_pos (by rw [lit_le' (by decide) hcb]; exact h1), if_pos (.inl h1)]
  · rw [if_neg (by rw [lit_le' (by decide) hcb]; exact h1)]
    by_cases h2 : 10 ≤ c
    · rw [if_pos (by rw [lit_le' (by decide) hcb]; exact h2), if_neg (by omega)]
    · rw [if_neg (by rw [lit_le' (by decide) hcb]; exact h2), if_pos (.inr (by omega))]
theorem X_push {F t0 e j c k : Nat} {L : Int32 → Int32 → Int32 → Tau → Option (Int32 × Tau)} {τ : Tau} (hk : k < 32) (hcb : c < 2 ^ 31) (h : 32 ≤ c ∨ c < 10) :
    X2_run_j53 F L t0 212 (nI e) (nI k) (nI j) (nI c) 1 τ = L (nI e) (nI (k + 1)) (nI (j + 1)) (up τ (t0 + 6) k (if 32 ≤ c then nI (c - 32) else τ 212 c)) := by
  unfold X2_run_j53 X2_run_j94 X2_run_j175
  rw [if_neg (by decide), if_neg (by rw [lit_le' (by decide) (by omega)]; omega)]
  by_cases h1 : 32 ≤ c
  · rw [if_neg (by rw [lit_lt (by decide) hcb]; omega), if_pos h1, litS h1, ast_nI (by omega) (by omega), litA', litA']
  · rw [if_pos (by rw [lit_lt (by decide) hcb]; omega), if_neg h1, X10_entry_in (N := 10) rfl (by omega) (by decide), cal_some, ast_nI (by omega) (by omega), litA', litA']
theorem X_not {F t0 e j k : Nat} {L : Int32 → Int32 → Int32 → Tau → Option (Int32 × Tau)} {τ : Tau} (hk : k < 32) :
    X2_run_j53 F L t0 212 (nI e) (nI (k + 1)) (nI j) (nI 19) 0 τ = L (nI e) (nI (k + 1)) (nI (j + 1)) (up τ (t0 + 6) k (1 - τ (t0 + 6) k)) := by
  unfold X2_run_j53 X2_run_j101 X2_run_j175
  rw [if_pos rfl, if_pos (show nI 19 = 19 from rfl), if_neg (by rw [lit_le (by decide) (by omega)]; omega), litS (by omega), Nat.add_sub_cancel, ald_nI (by omega) (by omega), ast_nI (by omega) (by omega), litA']
theorem X_bin {F t0 e j c k : Nat} {r : Int32} {L : Int32 → Int32 → Int32 → Tau → Option (Int32 × Tau)} {τ : Tau} (hk : k + 1 < 32) (hc : 10 ≤ c ∧ c < 19) (hj : X2_join F (nI c) (τ (t0 + 6) k) (τ (t0 + 6) (k + 1)) τ = some (r, τ)) :
    X2_run_j53 F L t0 212 (nI e) (nI (k + 1 + 1)) (nI j) (nI c) 0 τ = L (nI e) (nI (k + 1)) (nI (j + 1)) (up τ (t0 + 6) k r) := by
  unfold X2_run_j53 X2_run_j101 X2_run_j136 X2_run_j175
  rw [if_pos rfl, if_neg (by rw [lit_eq (by decide) (by omega)]; omega), if_neg (by rw [lit_le (by decide) (by omega)]; omega), nI_dec (by omega), litS (by omega), Nat.add_sub_cancel, Nat.add_sub_cancel, ald_nI (by omega) (by omega), ald_nI (by omega) (by omega), hj, cal_some, ast_nI (by omega) (by omega), litA']
theorem getElem?_app {l1 l2 l3 : List Nat} {k v : Nat} (h : l2[k]? = some v) : (l1 ++ (l2 ++ l3))[l1.length + k]? = some v := by
  rw [List.getElem?_append_right (by omega), Nat.add_sub_cancel_left, List.getElem?_append_left (List.getElem?_eq_some_iff.mp h).1, h]
theorem X_step {F t0 e n len j : Nat} {f : Nat → Int32} {o : Nat × Nat} {s s' : List Bool} {st : List Int32} {τ : Tau} (h6 : t0 + 6 ≠ 212) (ho : okOp o) (h : tstep o s = some s') (hv : okv s st) (hb : s.length ≤ 31) (hlen : τ t0 1 = nI len) (hll : len ≤ 400) (hel : e ≤ len) (hje : j + (enc o).length ≤ e) (hc : ∀ k v, (enc o)[k]? = some v → τ (t0 + 5) (j + k) = nI v)
    (hf : ∀ k, k < 10 → τ 212 k = f k) (hs : stk (t0 + 6) τ st) : ∃ τ', X2_run_L10 F t0 212 (n + (enc o).length) (nI e) (nI st.length) (nI j) τ = X2_run_L10 F t0 212 n (nI e) (nI (estep f o st).length) (nI (j + (enc o).length)) τ' ∧ stk (t0 + 6) τ' (estep f o st) ∧ ∀ c j, c ≠ t0 + 6 → τ' c j = τ c j := by
  have hl := okv_len hv
  have ho1 : o.1 < 33 := by have := ho.1; omega
  rcases tstep_cases ho h with ⟨c, d, rfl⟩ | ⟨c, r, rfl, d, rfl⟩ | ⟨c, r, rfl, rfl⟩ | ⟨c, a, b, r, rfl, hcc⟩
  · rw [estep_push c]
    by_cases c0 : o.1 = 0
    · have hen : enc o = [32 + o.2] := by unfold enc; rw [if_pos c0]
      have h9 := ho.2.1 c0
      rw [hen] at hc hje ⊢
      have hje2 : j + 1 ≤ e := hje
      refine ⟨up τ (t0 + 6) st.length (nI o.2), (X_fetch (by omega) (by omega) hlen (by omega) hll (hc 0 _ rfl) (by omega)).trans ?_, ?_, ?_⟩
      · rw [if_pos (.inl (by omega)), X_push (by omega) (by omega) (.inl (by omega)), if_pos (by omega), Nat.add_sub_cancel_left]
        rfl
      · rw [if_pos c0]; exact stk_push hs
      · exact fun c j hcj => up_nc hcj
    · have hen : enc o = [o.1 - 1] := by unfold enc; rw [if_neg c0, if_pos (by omega)]
      rw [hen] at hc hje ⊢
      have hje2 : j + 1 ≤ e := hje
      refine ⟨up τ (t0 + 6) st.length (f (o.1 - 1)), (X_fetch (by omega) (by omega) hlen (by omega) hll (hc 0 _ rfl) (by omega)).trans ?_, ?_, ?_⟩
      · rw [if_pos (.inr (by omega)), X_push (by omega) (by omega) (.inr (by omega)), if_neg (by omega), hf _ (by omega)]
        rfl
      · rw [if_neg c0]; exact stk_push hs
      · exact fun c j hcj => up_nc hcj
  · cases st with
    | nil => exact hv.elim
    | cons v st =>
      have hl2 : st.length = r.length := okv_len hv.2
      have hen : enc o = [32 + o.2, 13] := by unfold enc; rw [if_neg (by omega), if_neg (by omega), if_pos c]
      have h9 := ho.2.2 c
      rw [hen] at hc hje ⊢
      have hje2 : j + 2 ≤ e := hje
      rw [estep_part c]
      have c1 := hc 1 13 rfl
      refine ⟨up (up τ (t0 + 6) (st.length + 1) (nI o.2)) (t0 + 6) st.length (v / nI o.2), (X_fetch (by omega) (by omega) hlen (by omega) hll (hc 0 _ rfl) (by omega)).trans ?_, ?_, ?_⟩
      · show X2_run_j53 F (X2_run_L10 F t0 212 (n + 1)) t0 212 (nI e) (nI (st.length + 1)) (nI j) _ _ τ = _
        rw [if_pos (.inl (by omega)), X_push (by omega) (by omega) (.inl (by omega)), if_pos (by omega), Nat.add_sub_cancel_left]
        rw [X_fetch (c := 13) (by omega) (by omega) (by rw [up_nc (by omega)]; exact hlen) (by omega) hll (by rw [up_nc (by omega)]; exact c1) (by decide), if_neg (by decide)]
        rw [X_bin (r := v / nI o.2) (by omega) (by omega)]
        · rfl
        · rw [up_c, up_nj (by omega), show τ (t0 + 6) st.length = v from hs.1]
          show X2_join F 13 v (nI o.2) _ = _
          unfold X2_join
          rw [if_neg (by decide), if_neg (by decide), if_neg (by decide), if_pos rfl, if_neg, if_neg]
          · rw [lit_eq (by decide) (by omega)]; omega
          · rw [lit_eq (by decide) (by omega)]; omega
      · exact ⟨up_c, stk_ge (stk_ge hs.2 (by omega)) (Nat.le_refl _)⟩
      · exact fun c j hcj => by rw [up_nc hcj, up_nc hcj]
  · cases st with
    | nil => exact hv.elim
    | cons v st =>
      have hl2 : st.length = r.length := okv_len hv.2
      have hb2 : r.length + 1 ≤ 31 := hb
      have hen : enc o = [19] := by unfold enc; rw [if_neg (by omega), if_neg (by omega), if_neg (by omega), if_neg (by omega), if_pos c]
      rw [hen] at hc hje ⊢
      have hje2 : j + 1 ≤ e := hje
      rw [estep_not c]
      refine ⟨up τ (t0 + 6) st.length (1 - v), (X_fetch (by omega) (by omega) hlen (by omega) hll (hc 0 _ rfl) (by omega)).trans ?_, ?_, ?_⟩
      · rw [if_neg (by decide)]
        show X2_run_j53 F (X2_run_L10 F t0 212 n) t0 212 (nI e) (nI (st.length + 1)) (nI j) _ _ τ = _
        rw [X_not (by omega), show τ (t0 + 6) st.length = v from hs.1]
        rfl
      · exact stk_push hs.2
      · exact fun c j hcj => up_nc hcj
  · cases st with
    | nil => exact hv.elim
    | cons v st =>
      cases st with
      | nil => exact hv.2.elim
      | cons u st =>
        have hl2 : st.length = r.length := okv_len hv.2.2
        have hb2 : r.length + 1 + 1 ≤ 31 := hb
        have hk := isBin_cases c
        have hen : enc o = [ecode o.1] := by
          unfold enc ecode
          rw [if_neg (by omega), if_neg (by omega), if_neg (by omega)]
          by_cases c3 : o.1 < 30
          · rw [if_pos c3, if_pos c3]
          · rw [if_neg c3, if_neg c3, if_neg (by omega)]
        have hec : 10 ≤ ecode o.1 ∧ ecode o.1 < 19 := by unfold ecode; split <;> omega
        rw [hen] at hc hje ⊢
        have hje2 : j + 1 ≤ e := hje
        rw [estep_bin c]
        refine ⟨up τ (t0 + 6) st.length (ebin o.1 u v), (X_fetch (by omega) (by omega) hlen (by omega) hll (hc 0 _ rfl) (by omega)).trans ?_, ?_, ?_⟩
        · rw [if_neg (by omega)]
          show X2_run_j53 F (X2_run_L10 F t0 212 n) t0 212 (nI e) (nI (st.length + 1 + 1)) (nI j) _ _ τ = _
          rw [X_bin (by omega) hec (by rw [show τ (t0 + 6) (st.length + 1) = v from hs.1, show τ (t0 + 6) st.length = u from hs.2.1]; exact X2_join_bin c)]
          rfl
        · exact stk_push hs.2.2
        · exact fun c j hcj => up_nc hcj
theorem encs_cons (o : Nat × Nat) (l : List (Nat × Nat)) : encs (o :: l) = enc o ++ encs l := rfl
theorem encs_app (l l' : List (Nat × Nat)) : encs (l ++ l') = encs l ++ encs l' := List.flatMap_append
theorem X_seg {F t0 e len : Nat} {f : Nat → Int32} (h6 : t0 + 6 ≠ 212) (hll : len ≤ 400) (hel : e ≤ len) : ∀ (seg : List (Nat × Nat)) (j : Nat) (s s' : List Bool) (st : List Int32) (τ : Tau), (∀ o ∈ seg, okOp o) → tyc seg s = some s' → okv s st → s.length ≤ 31 → j + (encs seg).length ≤ e → τ t0 1 = nI len → (∀ k v, (encs seg)[k]? = some v → τ (t0 + 5) (j + k) = nI v) →
    (∀ k, k < 10 → τ 212 k = f k) → stk (t0 + 6) τ st → ∀ n, ∃ τ', X2_run_L10 F t0 212 (n + (encs seg).length) (nI e) (nI st.length) (nI j) τ = X2_run_L10 F t0 212 n (nI e) (nI (evs f seg st).length) (nI (j + (encs seg).length)) τ' ∧ stk (t0 + 6) τ' (evs f seg st) ∧ okv s' (evs f seg st) ∧ ∀ c j, c ≠ t0 + 6 → τ' c j = τ c j := by
  intro seg
  induction seg with
  | nil =>
    intro i s s' st τ _ ht hv _ _ _ _ _ hs n
    refine ⟨τ, rfl, hs, ?_, fun _ _ _ => rfl⟩
    rw [← Option.some.inj ht]; exact hv
  | cons o seg ih =>
    intro j s s' st τ ho ht hv hb hi hlen hc hf hs n
    rw [encs_cons, List.length_append] at hi ⊢
    rw [encs_cons] at hc
    have ht2 : (tstep o s).bind (tyc seg) = some s' := ht
    cases h : tstep o s with
    | none => rw [h] at ht2; cases ht2
    | some s1 =>
      rw [h] at ht2
      have ho1 := ho o List.mem_cons_self
      obtain ⟨τ1, e1, e2, e3⟩ := X_step (F := F) (n := n + (encs seg).length) h6 ho1 h hv hb hlen hll hel (by omega) (fun k v hk => hc k v (by rw [List.getElem?_append_left (List.getElem?_eq_some_iff.mp hk).1, hk])) hf hs
      obtain ⟨τ2, g1, g2, g3, g4⟩ := ih (j + (enc o).length) s1 s' (estep f o st) τ1 (fun o' h' => ho o' (List.mem_cons_of_mem _ h')) ht2 (step_ok ho1 h hv) (tstep_len ho1 h hb) (by omega) (by rw [e3 _ _ (by omega)]; exact hlen) (fun k v hk => by
        rw [e3 _ _ (by omega), Nat.add_assoc]
        exact hc _ _ (by rw [List.getElem?_append_right (by omega), Nat.add_sub_cancel_left, hk])) (fun k hk => by rw [e3 _ _ (Ne.symm h6)]; exact hf k hk) e2 n
      refine ⟨τ2, ?_, g2, g3, fun c j hcj => by rw [g4 c j hcj, e3 c j hcj]⟩
      rw [show n + ((enc o).length + (encs seg).length) = n + (encs seg).length + (enc o).length by omega, e1, g1, Nat.add_assoc]
      rfl
theorem take_split {ops : List (Nat × Nat)} {a m : Nat} (ham : a ≤ m) : ops.take m = ops.take a ++ (ops.take m).drop a := by
  conv => lhs; rw [← List.take_append_drop a (ops.take m)]
  rw [List.take_take, Nat.min_eq_left ham]
theorem X_run {F t0 : Nat} {f : Nat → Int32} {τ : Tau} (hF : 400 < F) (h6 : t0 + 6 ≠ 212) {ops : List (Nat × Nat)} {a m : Nat} {t : Bool} (ho : ∀ o ∈ ops, okOp o) (hl : (encs ops).length ≤ 400) (ham : a ≤ m) (hm : m ≤ ops.length) (ht : tyc ((ops.take m).drop a) [] = some [t]) (hc : ∀ j v, (encs ops)[j]? = some v → τ (t0 + 5) j = nI v) (hlen : τ t0 1 = nI (encs ops).length)
    (hf : ∀ k, k < 10 → τ 212 k = f k) : ∃ v τ', evs f ((ops.take m).drop a) [] = [v] ∧ X2_run F t0 212 (nI (encs (ops.take a)).length) (nI (encs (ops.take m)).length) τ = some (v, τ') ∧ ∀ c j, c ≠ t0 + 6 → τ' c j = τ c j := by
  have hsp := take_split (ops := ops) ham
  have hop : encs ops = encs (ops.take a) ++ (encs ((ops.take m).drop a) ++ encs (ops.drop m)) := by
    conv => lhs; rw [← List.take_append_drop m ops, hsp]
    rw [encs_app, encs_app, List.append_assoc]
  have hem : (encs (ops.take m)).length = (encs (ops.take a)).length + (encs ((ops.take m).drop a)).length := by
    conv => lhs; rw [hsp]
    rw [encs_app, List.length_append]
  have hle : (encs (ops.take m)).length ≤ (encs ops).length := by
    rw [hop, List.length_append, List.length_append]; omega
  obtain ⟨τ', e1, e2, e3, e4⟩ := X_seg (F := F) (e := (encs (ops.take m)).length) (f := f) h6 hl hle ((ops.take m).drop a) (encs (ops.take a)).length [] [t] [] τ (fun o h => ho o (List.mem_of_mem_take (List.mem_of_mem_drop h))) ht trivial (by decide) (by omega) hlen (fun k v hk => hc _ _ (by rw [hop]; exact getElem?_app hk)) hf trivial (F - (encs ((ops.take m).drop a)).length)
  have hev : ∃ v, evs f ((ops.take m).drop a) [] = [v] := by
    cases hh : evs f ((ops.take m).drop a) [] with
    | nil => rw [hh] at e3; exact e3.elim
    | cons v r => cases r with
      | nil => exact ⟨v, rfl⟩
      | cons u r => rw [hh] at e3; exact e3.2.elim
  obtain ⟨v, hv⟩ := hev
  rw [hv] at e1 e2
  refine ⟨v, τ', hv, ?_, e4⟩
  unfold X2_run
  rw [Nat.sub_add_cancel (by omega)] at e1
  have h0 : imax 0 (nI (encs (ops.take a)).length) = nI (encs (ops.take a)).length := by
    show imax (nI 0) _ = _
    rw [nI_imax (by decide) (by omega), Nat.max_eq_right (Nat.zero_le _)]
  rw [h0]
  show X2_run_L10 F t0 212 F (nI (encs (ops.take m)).length) (nI ([] : List Int32).length) _ τ = _
  rw [e1, ← hem]
  obtain ⟨g, hg, -⟩ := fuel (show 0 < F - (encs ((ops.take m).drop a)).length by omega)
  rw [hg]
  unfold X2_run_L10 X2_run_j181
  rw [if_pos (nI_le (Nat.le_refl _) (by omega))]
  show (if nI 1 ≤ 0 then _ else ald τ' (t0 + 6) 32 (nI 1 - 1) _) = _
  rw [if_neg (by decide), litS (by decide), ald_nI (by decide) (by decide)]
  show some (τ' (t0 + 6) 0, τ') = _
  rw [show τ' (t0 + 6) 0 = v from e2.1]
