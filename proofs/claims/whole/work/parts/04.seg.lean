/-! a stretch of instructions, by computation -/
section Sg
variable {K : Ctx} {y : Sys} {nL d : Nat} {Q : State → Prop} {own : String} {cc : ByteArray} {τ : Tau}
theorem lk_int {L : List (Nat × Value)} {k : Nat} {S : List Value} {r : List (Nat × Value) × List Value} (h : (match lk L k with | some (.int x) => some (L, Value.int x :: S) | _ => none) = some r) : ∃ x, lk L k = some (.int x) ∧ r = (L, Value.int x :: S) := by
  split at h
  · rename_i x e
    exact ⟨x, e, (Option.some.inj h).symm⟩
  · cases h
theorem lk_ref {L : List (Nat × Value)} {k : Nat} {S : List Value} {r : List (Nat × Value) × List Value} (h : (match lk L k with | some (.ref x) => some (L, Value.ref x :: S) | _ => none) = some r) : ∃ x, lk L k = some (.ref x) ∧ r = (L, Value.ref x :: S) := by
  split at h
  · rename_i x e
    exact ⟨x, e, (Option.some.inj h).symm⟩
  · cases h
theorem lk_long {L : List (Nat × Value)} {k : Nat} {S : List Value} {r : List (Nat × Value) × List Value} (h : (match lk L k with | some (.long x) => some (L, Value.long x :: S) | _ => none) = some r) : ∃ x, lk L k = some (.long x) ∧ r = (L, Value.long x :: S) := by
  split at h
  · rename_i x e
    exact ⟨x, e, (Option.some.inj h).symm⟩
  · cases h
theorem at_run1 (C : Cx K y own cc nL d) {i : Instr} {v : Int32} {pc : Nat} {L L' : List (Nat × Value)} {S S' : List Value} (hd : decode cc pc = .ok (i, ilen i)) (hl : lit i v pc = true) (hr : run1 nL i v L S = some (L', S')) (k : At K y nL Q (nxt i pc) L' S' τ) : At K y nL Q pc L S τ := by
  cases i with
  | iconst n => simp only [run1, Option.some.injEq, Prod.mk.injEq] at hr; obtain ⟨rfl, rfl⟩ := hr; exact at_iconst C hd (of_decide_eq_true hl) k
  | bipush n => simp only [run1, Option.some.injEq, Prod.mk.injEq] at hr; obtain ⟨rfl, rfl⟩ := hr; exact at_bipush C hd (of_decide_eq_true hl) k
  | sipush n => simp only [run1, Option.some.injEq, Prod.mk.injEq] at hr; obtain ⟨rfl, rfl⟩ := hr; exact at_sipush C hd (of_decide_eq_true hl) k
  | lconst n => simp only [run1, Option.some.injEq, Prod.mk.injEq] at hr; obtain ⟨rfl, rfl⟩ := hr; exact at_lconst C hd k
  | goto off => simp only [run1, Option.some.injEq, Prod.mk.injEq] at hr; obtain ⟨rfl, rfl⟩ := hr; exact at_goto C hd (of_decide_eq_true hl) k
  | iload j => obtain ⟨x, e, h⟩ := lk_int hr; cases h; exact at_iload C hd e k
  | iload_n j => obtain ⟨x, e, h⟩ := lk_int hr; cases h; exact at_iload_n C hd e k
  | aload j => obtain ⟨x, e, h⟩ := lk_ref hr; cases h; exact at_aload C hd e k
  | aload_n j => obtain ⟨x, e, h⟩ := lk_ref hr; cases h; exact at_aload_n C hd e k
  | lload j => obtain ⟨x, e, h⟩ := lk_long hr; cases h; exact at_lload C hd e k
  | lload_n j => obtain ⟨x, e, h⟩ := lk_long hr; cases h; exact at_lload_n C hd e k
  | iinc j n =>
    simp only [run1] at hr
    split at hr
    · rename_i x e
      split at hr
      · rename_i hn
        cases hr
        exact at_iinc C hd (of_decide_eq_true hl) e hn k
      · cases hr
    · cases hr
  | istore j => 
    simp only [run1] at hr
    split at hr
    · split at hr
      · rename_i hn
        cases hr
        exact at_istore C hd hn k
      · cases hr
    · cases hr
  | istore_n j => 
    simp only [run1] at hr
    split at hr
    · split at hr
      · rename_i hn
        cases hr
        exact at_istore_n C hd hn k
      · cases hr
    · cases hr
  | astore j => 
    simp only [run1] at hr
    split at hr
    · split at hr
      · rename_i hn
        cases hr
        exact at_astore C hd hn k
      · cases hr
    · cases hr
  | astore_n j => 
    simp only [run1] at hr
    split at hr
    · split at hr
      · rename_i hn
        cases hr
        exact at_astore_n C hd hn k
      · cases hr
    · cases hr
  | lstore j => 
    simp only [run1] at hr
    split at hr
    · split at hr
      · rename_i hn
        cases hr
        exact at_lstore C hd hn k
      · cases hr
    · cases hr
  | lstore_n j => 
    simp only [run1] at hr
    split at hr
    · split at hr
      · rename_i hn
        cases hr
        exact at_lstore_n C hd hn k
      · cases hr
    · cases hr
  | iadd => simp only [run1] at hr; split at hr <;> cases hr; exact at_iadd C hd k
  | isub => simp only [run1] at hr; split at hr <;> cases hr; exact at_isub C hd k
  | imul => simp only [run1] at hr; split at hr <;> cases hr; exact at_imul C hd k
  | iand => simp only [run1] at hr; split at hr <;> cases hr; exact at_iand C hd k
  | ior => simp only [run1] at hr; split at hr <;> cases hr; exact at_ior C hd k
  | ixor => simp only [run1] at hr; split at hr <;> cases hr; exact at_ixor C hd k
  | ishl => simp only [run1] at hr; split at hr <;> cases hr; exact at_ishl C hd k
  | ishr => simp only [run1] at hr; split at hr <;> cases hr; exact at_ishr C hd k
  | iushr => simp only [run1] at hr; split at hr <;> cases hr; exact at_iushr C hd k
  | lmul => simp only [run1] at hr; split at hr <;> cases hr; exact at_lmul C hd k
  | i2l => simp only [run1] at hr; split at hr <;> cases hr; exact at_i2l C hd k
  | l2i => simp only [run1] at hr; split at hr <;> cases hr; exact at_l2i C hd k
  | i2c => simp only [run1] at hr; split at hr <;> cases hr; exact at_i2c C hd k
  | dup => simp only [run1] at hr; split at hr <;> cases hr <;> exact at_dup C hd rfl k
  | pop => simp only [run1] at hr; split at hr <;> cases hr <;> exact at_pop C hd rfl k
  | dup2 => simp only [run1] at hr; split at hr <;> cases hr <;> exact at_dup2 C hd rfl rfl k
  | dup_x1 => simp only [run1] at hr; split at hr <;> cases hr; exact at_dup_x1 C hd rfl rfl k
  | dup_x2 => simp only [run1] at hr; split at hr <;> cases hr; exact at_dup_x2 C hd rfl rfl rfl k
  | _ => simp [run1] at hr
theorem at_seg (C : Cx K y own cc nL d) {pc' : Nat} {L' : List (Nat × Value)} {S' : List Value} (k : At K y nL Q pc' L' S' τ) : ∀ (sg : Seg) (pc : Nat) (L : List (Nat × Value)) (S : List Value), chk cc pc sg pc' = true → run nL sg L S = some (L', S') → At K y nL Q pc L S τ := by
  intro sg
  induction sg with
  | nil =>
    intro pc L S hc hr
    cases hr
    have e : pc = pc' := by simpa [chk] using hc
    rw [e]
    exact k
  | cons q r ih =>
    obtain ⟨i, v⟩ := q
    intro pc L S hc hr
    simp only [chk, Bool.and_eq_true] at hc
    obtain ⟨⟨h1, h2⟩, h3⟩ := hc
    simp only [run] at hr
    split at hr
    · rename_i L1 S1 e
      refine at_run1 C ?_ h2 e (ih _ _ _ h3 hr)
      split at h1
      · rename_i z ez
        rw [ez, of_decide_eq_true h1]
      · cases h1
    · cases hr
/-- fewer locals, in any order: by their places -/
theorem at_sub {pc : Nat} {L L' : List (Nat × Value)} {S : List Value} (ks : List Nat) (h : ks.filterMap (fun k => L[k]?) = L') (k : At K y nL Q pc L' S τ) : At K y nL Q pc L S τ := by
  intro H locs ls hL hP hS
  refine k H locs ls (lv_sub hL ks ?_) hP hS
  rw [← h]
  clear h hL k
  induction ks with
  | nil => rfl
  | cons a r ih =>
    unfold lv_pick at ih ⊢
    rw [List.filterMap_cons, List.filterMap_cons, List.getElem?_map]
    cases L[a]? with
    | none => simpa using ih
    | some q => simpa using ih
end Sg
/-! the walk that belongs to an answer -/
def Sm (K : Ctx) (y : Sys) (nL : Nat) (Qf : Int32 → Tau → State → Prop) (x : Option (Int32 × Tau)) (pc : Nat) (L : List (Nat × Value)) (S : List Value) (τ : Tau) : Prop :=
  ∀ r τ', x = some (r, τ') → At K y nL (Qf r τ') pc L S τ
section Sg2
variable {K : Ctx} {y : Sys} {nL d : Nat} {Qf : Int32 → Tau → State → Prop} {own : String} {cc : ByteArray} {τ : Tau} {x : Option (Int32 × Tau)}
theorem sm_seg (C : Cx K y own cc nL d) {pc pc' : Nat} {L L' : List (Nat × Value)} {S S' : List Value} (sg : Seg) (hc : chk cc pc sg pc' = true) (hr : run nL sg L S = some (L', S')) (k : Sm K y nL Qf x pc' L' S' τ) : Sm K y nL Qf x pc L S τ :=
  fun r τ' h => at_seg C (k r τ' h) sg pc L S hc hr
theorem sm_sub {pc : Nat} {L L' : List (Nat × Value)} {S : List Value} (ks : List Nat) (h : ks.filterMap (fun k => L[k]?) = L') (k : Sm K y nL Qf x pc L' S τ) : Sm K y nL Qf x pc L S τ :=
  fun r τ' hx => at_sub ks h (k r τ' hx)
theorem sm_none {pc : Nat} {L : List (Nat × Value)} {S : List Value} : Sm K y nL Qf none pc L S τ := fun _ _ h => by cases h
theorem sm_ite {c : Prop} [Decidable c] {a b : Option (Int32 × Tau)} {pc : Nat} {L : List (Nat × Value)} {S : List Value} (ha : c → Sm K y nL Qf a pc L S τ) (hb : ¬ c → Sm K y nL Qf b pc L S τ) : Sm K y nL Qf (if c then a else b) pc L S τ := by
  by_cases h : c
  · rw [if_pos h]; exact ha h
  · rw [if_neg h]; exact hb h
end Sg2
