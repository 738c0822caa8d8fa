/-! what the start says of the String constants and the statics -/
def strT (q : StrT) : Term := .string q.1 q.2.1
def strLv (q : StrT) : List Cond :=
  [.exactly (strT q) "java/lang/String", .eq (.field (strT q) "java/lang/String" "coder" "B") (.int 0), .arrayOf (.field (strT q) "java/lang/String" "value" "[B") .byte, .eq (.length (.field (strT q) "java/lang/String" "value" "[B")) (.int (Int32.ofNat (sL q.2.2.2)))] ++
  (List.range (sL q.2.2.2)).map (fun j => .eq (.elem (.field (strT q) "java/lang/String" "value" "[B") (.int (Int32.ofNat j))) (.int (sC q.2.2.2 j)))
theorem narrow_strs : (flatC narrow_1).drop 7 = strW.flatMap strLv := by decide +kernel
theorem in_narrow {q : StrT} (hq : q ∈ strW) {c : Cond} (hc : c ∈ strLv q) : c ∈ flatC (Jvm.Cond.and given_1 narrow_1) := by
  have h1 : c ∈ strW.flatMap strLv := List.mem_flatMap.mpr ⟨q, hq, hc⟩
  rw [← narrow_strs] at h1
  exact List.mem_append_right _ (List.mem_of_mem_drop h1)
theorem sL_small : ∀ i, i < 30 → sL i < 2 ^ 31 := by decide +kernel
theorem strW_lt : ∀ q ∈ strW, q.2.2.2 < 30 := by decide +kernel
theorem str_facts {args : Array Value} {s : State} {A : Nat → Prop} (hs : ∀ c ∈ flatC (Jvm.Cond.and given_1 narrow_1), c.before args s = true) (hA : ∀ a : Nat, a < s.heap.size → ¬ A a) {q : StrT} (hq : q ∈ strW) :
    ∃ a t : Nat, (strT q).eval args s none [] s = some (.ref a) ∧ va_O "java/lang/String" a A s s.heap ∧ va_OF "java/lang/String" "coder" "B" (.int 0) a A s s.heap ∧ va_OF "java/lang/String" "value" "[B" (.ref t) a A s s.heap ∧ va_T .byte t (sL q.2.2.2) (fun j => .int (sC q.2.2.2 j)) A s s.heap := by
  have hex := hs _ (in_narrow hq (c := .exactly (strT q) "java/lang/String") (by simp [strLv]))
  have hco := hs _ (in_narrow hq (c := .eq (.field (strT q) "java/lang/String" "coder" "B") (.int 0)) (by simp [strLv]))
  have har := hs _ (in_narrow hq (c := .arrayOf (.field (strT q) "java/lang/String" "value" "[B") .byte) (by simp [strLv]))
  have hle := hs _ (in_narrow hq (c := .eq (.length (.field (strT q) "java/lang/String" "value" "[B")) (.int (Int32.ofNat (sL q.2.2.2)))) (by simp [strLv]))
  have hel : ∀ j : Nat, j < sL q.2.2.2 → (Cond.eq (.elem (.field (strT q) "java/lang/String" "value" "[B") (.int (Int32.ofNat j))) (.int (sC q.2.2.2 j))).before args s = true := fun j hj => hs _ (in_narrow hq (List.mem_append_right _ (List.mem_map.mpr ⟨j, List.mem_range.mpr hj, rfl⟩)))
  obtain ⟨a, c, cA, kA, q1, q2, q3, q4, q5, q6, -⟩ := Cond.exactly_spec (args := args) (first := s) (o := none) (s := s) (idx := []) (t := strT q) (cls := "java/lang/String") hex
  obtain ⟨t, ht, hT⟩ := va_Tof (f := fun j => .int (sC q.2.2.2 j)) (A := A) (sL_small _ (strW_lt q hq)) har (va_eqt hle) (fun j hj => va_eqt (hel j hj)) hA
  exact ⟨a, t, q1, ⟨cA, q3, q5, by rw [q6]; exact q2, hA a (Array.getElem?_eq_some_iff.mp q3).1⟩, vk_OFof q1 (va_eqt hco) hA, vk_OFof q1 ht hA, hT⟩
theorem strW_nth : ∀ i, i < 30 → ∃ q, strW[i]? = some q ∧ q.2.2.2 = i := by decide +kernel
