/-! the surroundings at the law's start -/
theorem ao_in : Cond.arrayOver (.object "BasketEnvoys$Town") ∈ lw_tbl := List.mem_append_right _ (List.mem_append_right _ (List.mem_append_left _ (List.mem_of_getElem? (i := 79) rfl)))
theorem g_tbl {w : Cond} (h : w ∈ lw_g) : w ∈ lw_tbl := (List.mem_filter.mp h).1
theorem cls_known {args : Array Value} {s : State} (hts : ∀ w ∈ lw_tbl, w.before args s = true) {ci N : Nat} {Cn : String} {T : u_T} {ty : Nat → FieldType} (hC : Cls ci Cn T ty N) (hi : Cond.instantiable Cn N ∈ lw_g) : ∃ (cC : ClassId) (iS : Nat → Nat), u_Kn s Cn T N cC iS :=
  u_known (n := N) hts (fun w hw => g_tbl (hC.2.1 w hw)) (hts _ (g_tbl hi))
theorem arr_known {args : Array Value} {s : State} {ty : FieldType} (h : (Cond.arrayClass ty).before args s = true) (hty : ∀ C, ty ≠ .object C) : ∃ cA : ClassId, ArrOfT s cA ty ∧ va_RA s cA ty := by
  obtain ⟨c, k, comp, h1, h2, h3⟩ := Cond.arrayClass_spec (idx := []) h
  refine ⟨c, fun n z => ⟨fun q h => (by cases h), k, h2, comp, h3⟩, ?_⟩
  cases ty <;> first | exact h1 | exact absurd rfl (hty _)
theorem town_known {args : Array Value} {s : State} (h : (Cond.arrayOver (.object "BasketEnvoys$Town")).before args s = true) : ∃ cA : ClassId, ArrOfT s cA (.object "BasketEnvoys$Town") ∧ va_RA s cA (.object "BasketEnvoys$Town") := by
  obtain ⟨comp, c, k, h1, h2, h3, h4, h5⟩ := Cond.arrayOver_spec (idx := []) h
  exact ⟨c, fun n z => ⟨fun q h => (by cases h), k, h3, comp, h4⟩, k, comp, h3, h4, h1, h5⟩
theorem K_known {args : Array Value} {s : State} (hts : ∀ w ∈ lw_tbl, w.before args s = true) : ∃ (D : va_G) (cA : Nat → ClassId), va_K D vwCl (tysL cA) s := by
  obtain ⟨c0, i0, k0⟩ := cls_known hts cls0 in_0
  obtain ⟨c1, i1, k1⟩ := cls_known hts cls1 in_1
  obtain ⟨c2, i2, k2⟩ := cls_known hts cls2 in_2
  obtain ⟨c3, i3, k3⟩ := cls_known hts cls3 in_3
  obtain ⟨c4, i4, k4⟩ := cls_known hts cls4 in_4
  obtain ⟨c5, i5, k5⟩ := cls_known hts cls5 in_5
  obtain ⟨c6, i6, k6⟩ := cls_known hts cls6 in_6
  obtain ⟨c7, i7, k7⟩ := cls_known hts cls7 in_7
  obtain ⟨c8, i8, k8⟩ := cls_known hts cls8 in_8
  obtain ⟨c9, i9, k9⟩ := cls_known hts cls9 in_9
  obtain ⟨c10, i10, k10⟩ := cls_known hts cls10 in_10
  obtain ⟨c11, i11, k11⟩ := cls_known hts cls11 in_11
  obtain ⟨a0, b0, r0⟩ := arr_known (hts _ (g_tbl aw_int)) (fun C h => by cases h)
  obtain ⟨a1, b1, r1⟩ := arr_known (hts _ (g_tbl aw_boolean)) (fun C h => by cases h)
  obtain ⟨a2, b2, r2⟩ := arr_known (hts _ (g_tbl aw_char)) (fun C h => by cases h)
  obtain ⟨a3, b3, r3⟩ := town_known (hts _ ao_in)
  refine ⟨(fun k => [c0, c1, c2, c3, c4, c5, c6, c7, c8, c9, c10, c11].getD k c0, fun k => [i0, i1, i2, i3, i4, i5, i6, i7, i8, i9, i10, i11].getD k i0), fun k => [a0, a1, a2, a3].getD (k - 20) a0, ?_, ?_⟩
  · intro k q hq
    match k, hq with
    | 0, hq => cases hq; exact k0
    | 1, hq => cases hq; exact k1
    | 2, hq => cases hq; exact k2
    | 3, hq => cases hq; exact k3
    | 4, hq => cases hq; exact k4
    | 5, hq => cases hq; exact k5
    | 6, hq => cases hq; exact k6
    | 7, hq => cases hq; exact k7
    | 8, hq => cases hq; exact k8
    | 9, hq => cases hq; exact k9
    | 10, hq => cases hq; exact k10
    | 11, hq => cases hq; exact k11
    | k + 12, hq => simp [vwCl] at hq
  · intro k q hq
    match k, hq with
    | 0, hq => cases hq; exact ⟨b0, r0⟩
    | 1, hq => cases hq; exact ⟨b1, r1⟩
    | 2, hq => cases hq; exact ⟨b2, r2⟩
    | 3, hq => cases hq; exact ⟨b3, r3⟩
    | k + 4, hq => simp [tysL] at hq
