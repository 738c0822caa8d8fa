/-! branches, heap, calls, answers -/
abbrev ix (i : Int32) : Nat := i.toNatClampNeg
def inb (i : Int32) (n : Nat) : Bool := decide (0 ≤ i) && decide (i.toNatClampNeg < n)
theorem inb_in {i : Int32} {n : Nat} (h : inb i n = true) : vp_in i n := by
  simp only [inb, Bool.and_eq_true, decide_eq_true_eq] at h
  rintro (h1 | h1)
  · exact absurd h.1 (Int32.not_le.mpr h1)
  · omega
section Br
variable {K : Ctx} {y : Sys} {nL d : Nat} {Qf : Int32 → Tau → State → Prop} {own : String} {cc : ByteArray} {τ : Tau} {a b x : Option (Int32 × Tau)} {pc : Nat} {L : List (Nat × Value)} {S : List Value} {u v : Int32} {off : Int}
theorem sm_ifeq (tgt : Nat) (C : Cx K y own cc nL d) (hd : decode cc pc = .ok (.ifCond .eq off, 3)) (ht : (pc : Int) + off = (tgt : Int)) (ka : u = 0 → Sm K y nL Qf a tgt L S τ) (kb : ¬ u = 0 → Sm K y nL Qf b (pc + 3) L S τ) : Sm K y nL Qf (if u = 0 then a else b) pc L (.int u :: S) τ := by
  intro r τ' h H locs ls hL hP hS
  exact lv_if_eq C.1 C.2.1 hd ht (fun q => ka q r τ' (by rw [if_pos q] at h; exact h) H locs ls hL hP hS) (fun q => kb q r τ' (by rw [if_neg q] at h; exact h) H locs ls hL hP hS)
theorem sm_ifne (tgt : Nat) (C : Cx K y own cc nL d) (hd : decode cc pc = .ok (.ifCond .ne off, 3)) (ht : (pc : Int) + off = (tgt : Int)) (ka : u = 0 → Sm K y nL Qf a (pc + 3) L S τ) (kb : ¬ u = 0 → Sm K y nL Qf b tgt L S τ) : Sm K y nL Qf (if u = 0 then a else b) pc L (.int u :: S) τ := by
  intro r τ' h H locs ls hL hP hS
  exact lv_if_ne C.1 C.2.1 hd ht (fun q => kb q r τ' (by rw [if_neg q] at h; exact h) H locs ls hL hP hS) (fun q => ka q r τ' (by rw [if_pos q] at h; exact h) H locs ls hL hP hS)
theorem sm_iflt (tgt : Nat) (C : Cx K y own cc nL d) (hd : decode cc pc = .ok (.ifCond .lt off, 3)) (ht : (pc : Int) + off = (tgt : Int)) (ka : u < 0 → Sm K y nL Qf a tgt L S τ) (kb : ¬ u < 0 → Sm K y nL Qf b (pc + 3) L S τ) : Sm K y nL Qf (if u < 0 then a else b) pc L (.int u :: S) τ := by
  intro r τ' h H locs ls hL hP hS
  exact lv_if_lt C.1 C.2.1 hd ht (fun q => ka q r τ' (by rw [if_pos q] at h; exact h) H locs ls hL hP hS) (fun q => kb q r τ' (by rw [if_neg q] at h; exact h) H locs ls hL hP hS)
theorem sm_ifge (tgt : Nat) (C : Cx K y own cc nL d) (hd : decode cc pc = .ok (.ifCond .ge off, 3)) (ht : (pc : Int) + off = (tgt : Int)) (ka : 0 ≤ u → Sm K y nL Qf a tgt L S τ) (kb : ¬ 0 ≤ u → Sm K y nL Qf b (pc + 3) L S τ) : Sm K y nL Qf (if 0 ≤ u then a else b) pc L (.int u :: S) τ := by
  intro r τ' h H locs ls hL hP hS
  exact lv_if_ge C.1 C.2.1 hd ht (fun q => ka q r τ' (by rw [if_pos q] at h; exact h) H locs ls hL hP hS) (fun q => kb q r τ' (by rw [if_neg q] at h; exact h) H locs ls hL hP hS)
theorem sm_ifgt (tgt : Nat) (C : Cx K y own cc nL d) (hd : decode cc pc = .ok (.ifCond .gt off, 3)) (ht : (pc : Int) + off = (tgt : Int)) (ka : 0 < u → Sm K y nL Qf a tgt L S τ) (kb : ¬ 0 < u → Sm K y nL Qf b (pc + 3) L S τ) : Sm K y nL Qf (if 0 < u then a else b) pc L (.int u :: S) τ := by
  intro r τ' h H locs ls hL hP hS
  exact lv_if_gt C.1 C.2.1 hd ht (fun q => ka q r τ' (by rw [if_pos q] at h; exact h) H locs ls hL hP hS) (fun q => kb q r τ' (by rw [if_neg q] at h; exact h) H locs ls hL hP hS)
theorem sm_ifle (tgt : Nat) (C : Cx K y own cc nL d) (hd : decode cc pc = .ok (.ifCond .le off, 3)) (ht : (pc : Int) + off = (tgt : Int)) (ka : u ≤ 0 → Sm K y nL Qf a tgt L S τ) (kb : ¬ u ≤ 0 → Sm K y nL Qf b (pc + 3) L S τ) : Sm K y nL Qf (if u ≤ 0 then a else b) pc L (.int u :: S) τ := by
  intro r τ' h H locs ls hL hP hS
  exact lv_if_le C.1 C.2.1 hd ht (fun q => ka q r τ' (by rw [if_pos q] at h; exact h) H locs ls hL hP hS) (fun q => kb q r τ' (by rw [if_neg q] at h; exact h) H locs ls hL hP hS)
theorem sm_icmpeq (tgt : Nat) (C : Cx K y own cc nL d) (hd : decode cc pc = .ok (.if_icmp .eq off, 3)) (ht : (pc : Int) + off = (tgt : Int)) (ka : u = v → Sm K y nL Qf a tgt L S τ) (kb : ¬ u = v → Sm K y nL Qf b (pc + 3) L S τ) : Sm K y nL Qf (if u = v then a else b) pc L (.int v :: .int u :: S) τ := by
  intro r τ' h H locs ls hL hP hS
  exact lv_icmp_eq C.1 C.2.1 hd ht (fun q => ka q r τ' (by rw [if_pos q] at h; exact h) H locs ls hL hP hS) (fun q => kb q r τ' (by rw [if_neg q] at h; exact h) H locs ls hL hP hS)
theorem sm_icmpne (tgt : Nat) (C : Cx K y own cc nL d) (hd : decode cc pc = .ok (.if_icmp .ne off, 3)) (ht : (pc : Int) + off = (tgt : Int)) (ka : u = v → Sm K y nL Qf a (pc + 3) L S τ) (kb : ¬ u = v → Sm K y nL Qf b tgt L S τ) : Sm K y nL Qf (if u = v then a else b) pc L (.int v :: .int u :: S) τ := by
  intro r τ' h H locs ls hL hP hS
  exact lv_icmp_ne C.1 C.2.1 hd ht (fun q => kb q r τ' (by rw [if_neg q] at h; exact h) H locs ls hL hP hS) (fun q => ka q r τ' (by rw [if_pos q] at h; exact h) H locs ls hL hP hS)
theorem sm_icmplt (tgt : Nat) (C : Cx K y own cc nL d) (hd : decode cc pc = .ok (.if_icmp .lt off, 3)) (ht : (pc : Int) + off = (tgt : Int)) (ka : u < v → Sm K y nL Qf a tgt L S τ) (kb : ¬ u < v → Sm K y nL Qf b (pc + 3) L S τ) : Sm K y nL Qf (if u < v then a else b) pc L (.int v :: .int u :: S) τ := by
  intro r τ' h H locs ls hL hP hS
  exact lv_icmp_lt C.1 C.2.1 hd ht (fun q => ka q r τ' (by rw [if_pos q] at h; exact h) H locs ls hL hP hS) (fun q => kb q r τ' (by rw [if_neg q] at h; exact h) H locs ls hL hP hS)
theorem sm_icmpge (tgt : Nat) (C : Cx K y own cc nL d) (hd : decode cc pc = .ok (.if_icmp .ge off, 3)) (ht : (pc : Int) + off = (tgt : Int)) (ka : v ≤ u → Sm K y nL Qf a tgt L S τ) (kb : ¬ v ≤ u → Sm K y nL Qf b (pc + 3) L S τ) : Sm K y nL Qf (if v ≤ u then a else b) pc L (.int v :: .int u :: S) τ := by
  intro r τ' h H locs ls hL hP hS
  exact lv_icmp_ge C.1 C.2.1 hd ht (fun q => ka q r τ' (by rw [if_pos q] at h; exact h) H locs ls hL hP hS) (fun q => kb q r τ' (by rw [if_neg q] at h; exact h) H locs ls hL hP hS)
theorem sm_icmpgt (tgt : Nat) (C : Cx K y own cc nL d) (hd : decode cc pc = .ok (.if_icmp .gt off, 3)) (ht : (pc : Int) + off = (tgt : Int)) (ka : v < u → Sm K y nL Qf a tgt L S τ) (kb : ¬ v < u → Sm K y nL Qf b (pc + 3) L S τ) : Sm K y nL Qf (if v < u then a else b) pc L (.int v :: .int u :: S) τ := by
  intro r τ' h H locs ls hL hP hS
  exact lv_icmp_gt C.1 C.2.1 hd ht (fun q => ka q r τ' (by rw [if_pos q] at h; exact h) H locs ls hL hP hS) (fun q => kb q r τ' (by rw [if_neg q] at h; exact h) H locs ls hL hP hS)
theorem sm_icmple (tgt : Nat) (C : Cx K y own cc nL d) (hd : decode cc pc = .ok (.if_icmp .le off, 3)) (ht : (pc : Int) + off = (tgt : Int)) (ka : u ≤ v → Sm K y nL Qf a tgt L S τ) (kb : ¬ u ≤ v → Sm K y nL Qf b (pc + 3) L S τ) : Sm K y nL Qf (if u ≤ v then a else b) pc L (.int v :: .int u :: S) τ := by
  intro r τ' h H locs ls hL hP hS
  exact lv_icmp_le C.1 C.2.1 hd ht (fun q => ka q r τ' (by rw [if_pos q] at h; exact h) H locs ls hL hP hS) (fun q => kb q r τ' (by rw [if_neg q] at h; exact h) H locs ls hL hP hS)
theorem sm_ifnull {c : Nat} (C : Cx K y own cc nL d) (hd : decode cc pc = .ok (.ifnull off, 3)) (k : Sm K y nL Qf x (pc + 3) L S τ) : Sm K y nL Qf x pc L (.ref c :: S) τ :=
  fun r τ' h H locs ls hL hP hS => lv_ifnull C.1 C.2.1 hd (k r τ' h H locs ls hL hP hS)
theorem sm_ifnonnull {c : Nat} (tgt : Nat) (C : Cx K y own cc nL d) (hd : decode cc pc = .ok (.ifnonnull off, 3)) (ht : (pc : Int) + off = (tgt : Int)) (k : Sm K y nL Qf x tgt L S τ) : Sm K y nL Qf x pc L (.ref c :: S) τ :=
  fun r τ' h H locs ls hL hP hS => lv_ifnonnull C.1 C.2.1 hd ht (k r τ' h H locs ls hL hP hS)
theorem sm_idiv (C : Cx K y own cc nL d) (hd : decode cc pc = .ok (.idiv, 1)) (hz : ¬ v = 0) (k : Sm K y nL Qf x (pc + 1) L (.int (u / v) :: S) τ) : Sm K y nL Qf x pc L (.int v :: .int u :: S) τ :=
  fun r τ' h H locs ls hL hP hS => lv_idiv C.1 C.2.1 hd hz (k r τ' h H locs ls hL hP hS)
theorem sm_irem (C : Cx K y own cc nL d) (hd : decode cc pc = .ok (.irem, 1)) (hz : ¬ v = 0) (k : Sm K y nL Qf x (pc + 1) L (.int (u - u / v * v) :: S) τ) : Sm K y nL Qf x pc L (.int v :: .int u :: S) τ :=
  fun r τ' h H locs ls hL hP hS => lv_irem C.1 C.2.1 hd hz (k r τ' h H locs ls hL hP hS)
theorem sm_lrem {u v : Int64} (C : Cx K y own cc nL d) (hd : decode cc pc = .ok (.lrem, 1)) (hz : ¬ v = 0) (k : Sm K y nL Qf x (pc + 1) L (.long (u - u / v * v) :: S) τ) : Sm K y nL Qf x pc L (.long v :: .long u :: S) τ :=
  fun r τ' h H locs ls hL hP hS => lv_lrem C.1 C.2.1 hd hz (k r τ' h H locs ls hL hP hS)
theorem sm_ldc {index : Nat} (C : Cx K y own cc nL d) (hw : Jvm.Cond.constant own index v ∈ lw_g) (hd : decode cc pc = .ok (.ldc index, 2)) (k : Sm K y nL Qf x (pc + 2) L (.int v :: S) τ) : Sm K y nL Qf x pc L S τ :=
  fun r τ' h H locs ls hL hP hS => lv_ldc C.1 C.2.1 C.2.2.2.1 (C.2.2.2.2.1 _ hw) hd (k r τ' h H locs ls hL hP hS)
theorem sm_ldcw {index : Nat} (C : Cx K y own cc nL d) (hw : Jvm.Cond.constant own index v ∈ lw_g) (hd : decode cc pc = .ok (.ldc_w index, 3)) (k : Sm K y nL Qf x (pc + 3) L (.int v :: S) τ) : Sm K y nL Qf x pc L S τ :=
  fun r τ' h H locs ls hL hP hS => lv_ldcw C.1 C.2.1 C.2.2.2.1 (C.2.2.2.2.1 _ hw) hd (k r τ' h H locs ls hL hP hS)
theorem sm_ldc2 {index : Nat} {v : Int64} (C : Cx K y own cc nL d) (hw : Jvm.Cond.constantLong own index v ∈ lw_g) (hd : decode cc pc = .ok (.ldc2_w index, 3)) (k : Sm K y nL Qf x (pc + 3) L (.long v :: S) τ) : Sm K y nL Qf x pc L S τ :=
  fun r τ' h H locs ls hL hP hS => lv_ldc2 C.1 C.2.1 C.2.2.2.1 (C.2.2.2.2.1 _ hw) hd (k r τ' h H locs ls hL hP hS)
theorem sm_ldcS {index i : Nat} {tx : String} (C : Cx K y own cc nL d) (hw : (own, index, tx, i) ∈ strW) (hd : decode cc pc = .ok (.ldc index, 2)) (k : Sm K y nL Qf x (pc + 2) L (.ref (100000 + i) :: S) τ) : Sm K y nL Qf x pc L S τ :=
  fun r τ' h H locs ls hL hP hS => va_ldcS C.1 C.2.1 C.2.2.2.1 (C.2.2.2.2.2.2.1.2.2.2.1 _ hw) hd (k r τ' h H locs ls hL hP hS)
end Br
section Hp
variable {K : Ctx} {y : Sys} {nL d : Nat} {Qf : Int32 → Tau → State → Prop} {own : String} {cc : ByteArray} {τ : Tau} {x : Option (Int32 × Tau)} {pc : Nat} {L : List (Nat × Value)} {S : List Value} {i v : Int32} {c n : Nat}
/-- a class of the table, with its words -/
def Cls (ci : Nat) (Cn : String) (T : u_T) (ty : Nat → FieldType) (N : Nat) : Prop :=
  vwCl[ci]? = some (Cn, T, N) ∧ (∀ w ∈ u_ws Cn T N, w ∈ lw_g) ∧ (∀ k, k < N → parseFieldDescriptor (T k).2.2.1 = some (ty k)) ∧ (∀ a, a < N → ∀ b, b < N → a ≠ b → (T a).2.1 ≠ (T b).2.1) ∧ ci < 20
theorem sm_get {ci j N index : Nat} {Cn : String} {T : u_T} {ty : Nat → FieldType} {w : Value} (hC : Cls ci Cn T ty N) (C : Cx K y own cc nL d) (hc : c < y.1) (hk : y.2.1 c = ci) (hN : y.2.2.1 c = N) (hj : j < N)
    (hv : ∀ ρ : Nat → Nat, fv ρ (y.2.2.2 c j) (τ c j) = cv ρ w)
    (hw : Jvm.Cond.fieldLink own index (T j).1 (T j).2.1 (T j).2.2.1 ∈ lw_g) (hd : decode cc pc = .ok (.getfield index, 3)) (k : Sm K y nL Qf x (pc + 3) L (w :: S) τ) : Sm K y nL Qf x pc L (.ref c :: S) τ := by
  intro r τ' h H locs ls hL hP hS
  obtain ⟨h1, h2, h3, h4, h5⟩ := hC
  refine va_get (k := j) C.1 C.2.1 C.2.2.2.2.1 h2 C.2.2.2.1 C.2.2.2.2.2.2.1.1 hP c (by rw [wl_at hc, en_obj hk h5]) h1 hj (C.2.2.2.2.1 _ hw) (fun _ q => q) (v := cv _ w) ?_ hd (k r τ' h H locs ls hL hP hS)
  rw [List.getElem?_map, List.getElem?_range (by rw [hN]; exact hj), Option.map_some, hv]
theorem sm_getI (ci j : Nat) {N index : Nat} {Cn : String} {T : u_T} {ty : Nat → FieldType} (hC : Cls ci Cn T ty N) (C : Cx K y own cc nL d) (hc : c < y.1) (hk : y.2.1 c = ci) (hN : y.2.2.1 c = N) (hj : j < N) (hv : y.2.2.2 c j = none)
    (hw : Jvm.Cond.fieldLink own index (T j).1 (T j).2.1 (T j).2.2.1 ∈ lw_g) (hd : decode cc pc = .ok (.getfield index, 3)) (k : Sm K y nL Qf x (pc + 3) L (.int (τ c j) :: S) τ) : Sm K y nL Qf x pc L (.ref c :: S) τ :=
  sm_get hC C hc hk hN hj (fun ρ => by rw [hv]; rfl) hw hd k
theorem sm_getR (ci j q : Nat) {N index : Nat} {Cn : String} {T : u_T} {ty : Nat → FieldType} (hC : Cls ci Cn T ty N) (C : Cx K y own cc nL d) (hc : c < y.1) (hk : y.2.1 c = ci) (hN : y.2.2.1 c = N) (hj : j < N) (hv : y.2.2.2 c j = some q)
    (hw : Jvm.Cond.fieldLink own index (T j).1 (T j).2.1 (T j).2.2.1 ∈ lw_g) (hd : decode cc pc = .ok (.getfield index, 3)) (k : Sm K y nL Qf x (pc + 3) L (.ref q :: S) τ) : Sm K y nL Qf x pc L (.ref c :: S) τ :=
  sm_get hC C hc hk hN hj (fun ρ => by rw [hv]; rfl) hw hd k
theorem map_set_obj {y : Sys} {ρ : Nat → Nat} {τ : Tau} {c j N : Nat} {v : Int32} (hj : j < N) (hv : y.2.2.2 c j = none) :
    ((List.range N).map (fun j => fv ρ (y.2.2.2 c j) (τ c j))).set j (.int v) = (List.range N).map (fun k => fv ρ (y.2.2.2 c k) (up τ c j v c k)) := by
  apply List.ext_getElem?
  intro k
  rw [List.getElem?_set]
  by_cases e : j = k
  · subst e
    rw [if_pos rfl, if_pos (by simpa using hj), List.getElem?_map, List.getElem?_range hj, Option.map_some, hv]
    simp [up, fv]
  · rw [if_neg e, List.getElem?_map, List.getElem?_map]
    by_cases hk : k < N
    · rw [List.getElem?_range hk, Option.map_some, Option.map_some]
      have : up τ c j v c k = τ c k := by simp [up, Ne.symm e]
      rw [this]
    · rw [List.getElem?_eq_none (by simpa using hk)]
      rfl
theorem sm_putI (ci j : Nat) {N index : Nat} {Cn : String} {T : u_T} {ty : Nat → FieldType} (hC : Cls ci Cn T ty N) (C : Cx K y own cc nL d) (hc : c < y.1) (hk : y.2.1 c = ci) (hN : y.2.2.1 c = N) (hj : j < N) (hv : y.2.2.2 c j = none) (hf : (T j).2.2.2 = false) (hn : narrow (ty j) (.int v) = .int v) (hfit : fits (ty j) (.int v) = true)
    (hw : Jvm.Cond.fieldLink own index (T j).1 (T j).2.1 (T j).2.2.1 ∈ lw_g) (hd : decode cc pc = .ok (.putfield index, 3)) (k : Sm K y nL Qf x (pc + 3) L S (up τ c j v)) : Sm K y nL Qf x pc L (.int v :: .ref c :: S) τ := by
  intro r τ' h H locs ls hL hP hS
  obtain ⟨h1, h2, h3, h4, h5⟩ := hC
  refine va_put (k := j) (v := .int v) C.1 C.2.1 C.2.2.2.2.1 h2 ty h3 h4 C.2.2.2.1 C.2.2.2.2.2.2.1.1 hP (wl_D C.2.2.2.2.2.2.1.2.1) hS c (by rw [wl_at hc, en_obj hk h5]) h1 hj (C.2.2.2.2.1 _ hw) (fun _ q => q) hf (h3 j hj) hn hfit (by simpa [hN] using hj) hd (fun H1 locs1 hP1 _ hS1 => ?_)
  rw [wl_set (j := j) (v := v) hc (by rw [en_obj hk h5, hN, map_set_obj hj hv])] at hP1
  exact k r τ' h H1 locs1 ls hL hP1 hS1
theorem sm_iald (n : Nat) (C : Cx K y own cc nL d) (hc : c < y.1) (hk : y.2.1 c = 20) (hn : y.2.2.1 c = n) (hd : decode cc pc = .ok (.iaload, 1)) (k : Sm K y nL Qf x (pc + 1) L (.int (τ c (ix i)) :: S) τ) : Sm K y nL Qf (if inb i n = true then x else none) pc L (.int i :: .ref c :: S) τ :=
  sm_ite (fun q r τ' h H locs ls hL hP hS => va_iald (f := τ c) C.1 C.2.1 C.2.2.2.2.2.2.1.1 hP c 0 (by rw [wl_at hc, en_arr hk (by decide) (by decide) hn]) rfl (inb_in q) hd (k r τ' h H locs ls hL hP hS)) (fun _ => sm_none)
theorem sm_zald (n : Nat) (C : Cx K y own cc nL d) (hc : c < y.1) (hk : y.2.1 c = 21) (hn : y.2.2.1 c = n) (hd : decode cc pc = .ok (.baload, 1)) (k : Sm K y nL Qf x (pc + 1) L (.int (τ c (ix i)) :: S) τ) : Sm K y nL Qf (if inb i n = true then x else none) pc L (.int i :: .ref c :: S) τ :=
  sm_ite (fun q r τ' h H locs ls hL hP hS => va_zald (f := τ c) C.1 C.2.1 C.2.2.2.2.2.2.1.1 hP c 1 (by rw [wl_at hc, en_arr hk (by decide) (by decide) hn]) rfl (inb_in q) hd (k r τ' h H locs ls hL hP hS)) (fun _ => sm_none)
theorem sm_cald (n : Nat) (C : Cx K y own cc nL d) (hc : c < y.1) (hk : y.2.1 c = 22) (hn : y.2.2.1 c = n) (hd : decode cc pc = .ok (.caload, 1)) (k : Sm K y nL Qf x (pc + 1) L (.int (τ c (ix i)) :: S) τ) : Sm K y nL Qf (if inb i n = true then x else none) pc L (.int i :: .ref c :: S) τ :=
  sm_ite (fun q r τ' h H locs ls hL hP hS => va_cald (f := τ c) C.1 C.2.1 C.2.2.2.2.2.2.1.1 hP c 2 (by rw [wl_at hc, en_arr hk (by decide) (by decide) hn]) rfl (inb_in q) hd (k r τ' h H locs ls hL hP hS)) (fun _ => sm_none)
theorem sm_iast (n : Nat) (C : Cx K y own cc nL d) (hc : c < y.1) (hk : y.2.1 c = 20) (hn : y.2.2.1 c = n) (hd : decode cc pc = .ok (.iastore, 1)) (k : Sm K y nL Qf x (pc + 1) L S (up τ c (ix i) v)) : Sm K y nL Qf (if inb i n = true then x else none) pc L (.int v :: .int i :: .ref c :: S) τ :=
  sm_ite (fun q r τ' h H locs ls hL hP hS => va_iast (f := τ c) C.1 C.2.1 C.2.2.2.2.2.2.1.1 hP (wl_D C.2.2.2.2.2.2.1.2.1) hS c 0 (by rw [wl_at hc, en_arr hk (by decide) (by decide) hn]) rfl (inb_in q) hd (fun H1 locs1 hP1 _ hS1 => k r τ' h H1 locs1 ls hL (by
    rw [wl_set (j := ix i) (v := v) hc (by rw [en_arr hk (by decide) (by decide) hn, up_eq])] at hP1
    exact hP1) hS1)) (fun _ => sm_none)
theorem sm_zast (n : Nat) (C : Cx K y own cc nL d) (hc : c < y.1) (hk : y.2.1 c = 21) (hn : y.2.2.1 c = n) (hd : decode cc pc = .ok (.bastore, 1)) (k : Sm K y nL Qf x (pc + 1) L S (up τ c (ix i) (vp_nar .boolean v))) : Sm K y nL Qf (if inb i n = true then x else none) pc L (.int v :: .int i :: .ref c :: S) τ :=
  sm_ite (fun q r τ' h H locs ls hL hP hS => va_zast (f := τ c) C.1 C.2.1 C.2.2.2.2.2.2.1.1 hP (wl_D C.2.2.2.2.2.2.1.2.1) hS c 1 (by rw [wl_at hc, en_arr hk (by decide) (by decide) hn]) rfl (inb_in q) hd (fun H1 locs1 hP1 _ hS1 => k r τ' h H1 locs1 ls hL (by
    rw [wl_set (j := ix i) (v := vp_nar .boolean v) hc (by rw [en_arr hk (by decide) (by decide) hn, up_eq])] at hP1
    exact hP1) hS1)) (fun _ => sm_none)
theorem sm_cast (n : Nat) (C : Cx K y own cc nL d) (hc : c < y.1) (hk : y.2.1 c = 22) (hn : y.2.2.1 c = n) (hd : decode cc pc = .ok (.castore, 1)) (k : Sm K y nL Qf x (pc + 1) L S (up τ c (ix i) (vp_nar .char v))) : Sm K y nL Qf (if inb i n = true then x else none) pc L (.int v :: .int i :: .ref c :: S) τ :=
  sm_ite (fun q r τ' h H locs ls hL hP hS => va_cast (f := τ c) C.1 C.2.1 C.2.2.2.2.2.2.1.1 hP (wl_D C.2.2.2.2.2.2.1.2.1) hS c 2 (by rw [wl_at hc, en_arr hk (by decide) (by decide) hn]) rfl (inb_in q) hd (fun H1 locs1 hP1 _ hS1 => k r τ' h H1 locs1 ls hL (by
    rw [wl_set (j := ix i) (v := vp_nar .char v) hc (by rw [en_arr hk (by decide) (by decide) hn, up_eq])] at hP1
    exact hP1) hS1)) (fun _ => sm_none)
theorem sm_alen (ty t0 n : Nat) {ft : FieldType} (ht : ∀ cA, (tysL cA)[t0]? = some (cA ty, ft)) (C : Cx K y own cc nL d) (hc : c < y.1) (hk : y.2.1 c = ty) (h20 : ¬ ty < 20) (h23 : ¬ ty = 23) (hn : y.2.2.1 c = n) (hv : Int32.ofNat n = v) (hd : decode cc pc = .ok (.arraylength, 1)) (k : Sm K y nL Qf x (pc + 1) L (.int v :: S) τ) : Sm K y nL Qf x pc L (.ref c :: S) τ :=
  fun r τ' h H locs ls hL hP hS => va_alen (x := (n, .inl (τ c))) (cA := K.2.2.2.2.2.2.2.2.2.2.2.2.2.1 ty) C.1 C.2.1 C.2.2.2.2.2.2.1.1 hP c t0 (by rw [wl_at hc, en_arr hk h20 h23 hn]) (ht _) hv hd (k r τ' h H locs ls hL hP hS)
theorem sm_aald (n q : Nat) (C : Cx K y own cc nL d) (hc : c < y.1) (hk : y.2.1 c = 23) (hn : y.2.2.1 c = n) (hq : inb i n = true → y.2.2.2 c (ix i) = some q) (hd : decode cc pc = .ok (.aaload, 1)) (k : inb i n = true → Sm K y nL Qf x (pc + 1) L (.ref q :: S) τ) : Sm K y nL Qf (if inb i n = true then x else none) pc L (.int i :: .ref c :: S) τ :=
  sm_ite (fun g r τ' h H locs ls hL hP hS => va_aldq (f := fun j => (y.2.2.2 c j).map K.2.2.2.2.2.2.2.2.2.2.2.2.2.2) C.1 C.2.1 C.2.2.2.2.2.2.1.1 hP c 3 (by rw [wl_at hc, en_rarr hk hn]) rfl (inb_in g) hd (by
    show W _ _ _ _ _ _ _ _ _ _ _ _ _ _ _ (F0 _ _ _ (va_rf ((y.2.2.2 c (ix i)).map _) :: _))
    rw [hq g]
    exact k g r τ' h H locs ls hL hP hS)) (fun _ => sm_none)
end Hp
