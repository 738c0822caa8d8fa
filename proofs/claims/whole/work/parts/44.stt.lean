/-! Stt at the law's start -/
theorem ls_cs : Cond.laysStatic "java/lang/String" "COMPACT_STRINGS" "Z" ∈ lw_tbl := List.mem_append_right _ (List.mem_append_right _ (List.mem_append_right _ (List.mem_append_right _ (List.mem_append_left _ (List.mem_of_getElem? (i := 23) rfl)))))
theorem ls_si : Cond.laysStatic "jdk/internal/util/Preconditions" "SIOOBE_FORMATTER" "Ljava/util/function/BiFunction;" ∈ lw_tbl := List.mem_append_right _ (List.mem_append_right _ (List.mem_append_right _ (List.mem_append_right _ (List.mem_append_left _ (List.mem_of_getElem? (i := 62) rfl)))))
theorem ii_str : Cond.initialized "java/lang/String" ∈ lw_tbl := List.mem_append_right _ (List.mem_append_left _ (List.mem_of_getElem? (i := 15) rfl))
theorem ii_pre : Cond.initialized "jdk/internal/util/Preconditions" ∈ lw_tbl := List.mem_append_right _ (List.mem_append_left _ (List.mem_of_getElem? (i := 18) rfl))
def asStr : Cond → Option (String × Nat × String)
  | .stringRef a b c => some (a, b, c)
  | _ => none
theorem strs_tbl : lw_tbl.filterMap asStr = strW.map (fun q => (q.1, q.2.1, q.2.2.1)) := by decide +kernel
theorem str_in {q : StrT} (hq : q ∈ strW) : Cond.stringRef q.1 q.2.1 q.2.2.1 ∈ lw_tbl := by
  have h1 : (q.1, q.2.1, q.2.2.1) ∈ lw_tbl.filterMap asStr := by
    rw [strs_tbl]
    exact List.mem_map.mpr ⟨q, hq, rfl⟩
  obtain ⟨w, hw, e⟩ := List.mem_filterMap.mp h1
  cases w <;> first | (simp only [asStr, Option.some.injEq, Prod.mk.injEq] at e; obtain ⟨rfl, rfl, rfl⟩ := e; exact hw) | (simp [asStr] at e)
theorem strW_at : ∀ q ∈ strW, strW[q.2.2.2]? = some q := by decide +kernel
theorem narrow_cs : Cond.eq (.static "java/lang/String" "COMPACT_STRINGS" "Z") (.int 1) ∈ flatC (Jvm.Cond.and given_1 narrow_1) := List.mem_append_right _ (List.mem_of_getElem? (i := 2) rfl)
theorem narrow_si : Cond.isRef (.static "jdk/internal/util/Preconditions" "SIOOBE_FORMATTER" "Ljava/util/function/BiFunction;") ∈ flatC (Jvm.Cond.and given_1 narrow_1) := List.mem_append_right _ (List.mem_of_getElem? (i := 3) rfl)
theorem Stt_start {args : Array Value} {s : State} {D : va_G} {cA : Nat → ClassId} (hts : ∀ w ∈ lw_tbl, w.before args s = true) (hs : ∀ c ∈ flatC (Jvm.Cond.and given_1 narrow_1), c.before args s = true) (hK : va_K D vwCl (tysL cA) s) (bs : Nat) : ∃ (fz : Nat) (adK adV : Nat → Nat), Stt D cA (rhoU s.heap.size bs fz adK adV) sysU s s.heap := by
  have hA0 : ∀ a : Nat, a < s.heap.size → ¬ (fun q : Nat => s.heap.size ≤ q) a := fun a h => Nat.not_le.mpr h
  have h0 : ∀ i : Nat, ∃ z : Nat × Nat, ∀ q : StrT, strW[i]? = some q → (strT q).eval args s none [] s = some (.ref z.1) ∧ va_O "java/lang/String" z.1 (fun q => s.heap.size ≤ q) s s.heap ∧ va_OF "java/lang/String" "coder" "B" (.int 0) z.1 (fun q => s.heap.size ≤ q) s s.heap ∧ va_OF "java/lang/String" "value" "[B" (.ref z.2) z.1 (fun q => s.heap.size ≤ q) s s.heap ∧ va_T .byte z.2 (sL q.2.2.2) (fun j => .int (sC q.2.2.2 j)) (fun q => s.heap.size ≤ q) s s.heap := by
    intro i
    cases hq : strW[i]? with
    | none => exact ⟨(0, 0), fun q h => by cases h⟩
    | some q =>
      obtain ⟨a, t, f⟩ := str_facts (A := fun q => s.heap.size ≤ q) hs hA0 (List.mem_of_getElem? hq)
      exact ⟨(a, t), fun q' h => by cases h; exact f⟩
  obtain ⟨ad, had⟩ := Classical.axiomOfChoice h0
  obtain ⟨fz, hfz⟩ : ∃ fz : Nat, va_Z "jdk/internal/util/Preconditions" "SIOOBE_FORMATTER" "Ljava/util/function/BiFunction;" .null (fun q => s.heap.size ≤ q) s s.heap ∨ va_Z "jdk/internal/util/Preconditions" "SIOOBE_FORMATTER" "Ljava/util/function/BiFunction;" (.ref fz) (fun q => s.heap.size ≤ q) s s.heap := by
    rcases va_Zqof (hts _ ls_si) (hts _ ii_pre) (hs _ narrow_si) hA0 with h | ⟨t, h⟩
    · exact ⟨0, Or.inl h⟩
    · exact ⟨t, Or.inr h⟩
  refine ⟨fz, fun i => (ad i).1, fun i => (ad i).2, ?_⟩
  have hf : ∀ q, fr (rhoU s.heap.size bs fz (fun i => (ad i).1) (fun i => (ad i).2)) sysU q → s.heap.size ≤ q := by
    rintro q ⟨k, hk, rfl⟩
    have hk' : k < 243 := hk
    unfold rhoU
    rw [if_pos (by omega)]
    omega
  have eK : ∀ i, i < 30 → rhoU s.heap.size bs fz (fun i => (ad i).1) (fun i => (ad i).2) (100000 + i) = (ad i).1 := fun i hi => by
    unfold rhoU
    rw [if_neg (by omega), if_pos (by omega), Nat.add_sub_cancel_left]
  have eV : ∀ i, i < 30 → rhoU s.heap.size bs fz (fun i => (ad i).1) (fun i => (ad i).2) (200000 + i) = (ad i).2 := fun i hi => by
    unfold rhoU
    rw [if_neg (by omega), if_neg (by omega), if_pos (by omega), Nat.add_sub_cancel_left]
  refine ⟨hK, fun i j hi hj e => ?_, fun w hw => ?_, fun q hq => ?_, fun q hq => ?_, ?_, ?_⟩
  · have hi' : i < 243 := hi
    have hj' : j < 243 := hj
    unfold rhoU at e
    rw [if_pos (by omega), if_pos (by omega)] at e
    omega
  · have g := (List.mem_filter.mp hw).2
    have h1 := hts w (List.mem_filter.mp hw).1
    cases w <;> first | exact va_Nw.of rfl h1 | cases g
  · rw [eK _ (strW_lt q hq)]
    exact vk_R.of (A := args) (hts _ (str_in hq)) (had _ q (strW_at q hq)).1
  · rw [eK _ (strW_lt q hq), eV _ (strW_lt q hq)]
    obtain ⟨-, f1, f2, f3, f4⟩ := had _ q (strW_at q hq)
    exact ⟨va_O.narrow f1 hf, va_OF.narrow f2 hf, va_OF.narrow f3 hf, va_T.narrow f4 hf⟩
  · exact va_Z.narrow (va_Zof (hts _ ls_cs) (hts _ ii_str) (va_eqi (hs _ narrow_cs)) hA0) hf
  · have e3 : rhoU s.heap.size bs fz (fun i => (ad i).1) (fun i => (ad i).2) 300000 = fz := by
      unfold rhoU
      rw [if_neg (by decide), if_neg (by decide), if_neg (by decide), if_pos rfl]
    rw [e3]
    exact hfz.imp (fun z => va_Z.narrow z hf) (fun z => va_Z.narrow z hf)
