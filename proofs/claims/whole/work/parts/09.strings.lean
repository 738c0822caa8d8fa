/-! String constants and the members of the JDK that read them -/
theorem st_all : ∀ s, s < 30 → ∃ q ∈ strW, q.2.2.2 = s := by decide +kernel
def pCheck (i n : Int32) (τ : Tau) : Option (Int32 × Tau) := if i < 0 then none else if i < n then some (i, τ) else none
def sCheck (i n : Int32) (τ : Tau) : Option (Int32 × Tau) := cal (pCheck i n τ) fun _ τ1 => some (0, τ1)
section St
variable {K : Ctx} {y : Sys} {nL d : Nat} {Qf : Int32 → Tau → State → Prop} {own : String} {cc : ByteArray} {τ : Tau} {pc : Nat} {L : List (Nat × Value)} {S : List Value} {nm : MethodName} {bytes : ByteArray} {n np d' index : Nat} {ret : Option FieldType} {f x : Option (Int32 × Tau)} {k : Int32 → Tau → Option (Int32 × Tau)} {s : Nat} {i v : Int32}
theorem sm_vstr (as rest : List Value) (hS : as.reverse ++ .ref (100000 + s) :: rest = S) (C : Cx K y own cc nL d) (hs : s < 30) (hw : MWv nm bytes n ret np) (hcl : nm.cls = "java/lang/String") (hl : Cond.methodLink own index nm ∈ lw_g) (hnp : as.length = np) (hd' : d' + 1 ≤ d ∧ 19 + n + 64 * d' ≤ 64 * d) (hrest : (rest.map fun v => v.category).sum ≤ 8) (hd : decode cc pc = .ok (.invokevirtual index, 3))
    (hM : ∀ r τ', f = some (r, τ') → MCi y nm bytes n ret d' (.ref (100000 + s) :: as) τ r τ') (hk2 : ∀ r τ', Sm K y nL Qf (k r τ') (pc + 3) L (.int r :: rest) τ') : Sm K y nL Qf (cal f k) pc L S τ := by
  subst hS
  intro r τ' h H locs ls hL hP hSt
  obtain ⟨⟨r1, τ1⟩, h1, h2⟩ := Option.bind_eq_some_iff.mp h
  obtain ⟨w1, w2, w3, w4, w5, w6, w7⟩ := hw
  have hM1 := hM r1 τ1 h1 K.2.1 K.2.2.2.2.2.2.2.2.2.2.2.2.1 K.2.2.2.2.2.2.2.2.2.2.2.2.2.1 K.2.2.2.2.2.2.2.2.2.2.2.2.2.2
  obtain ⟨hx, hb1, hml, hown, hts, hR, hst, hlk⟩ := C
  obtain ⟨q, hq, rfl⟩ := st_all s hs
  obtain ⟨cell, g1, g2, g3, -⟩ := va_O.kept (hst.2.2.2.2.1 q hq).1 hSt.2.1
  rw [cv_rev]
  refine va_calli (va_runV (As := as.map (cv _)) (rest := rest.map (cv _)) ⟨hx, hb1, hml, hown, hts⟩ hM1 (cwV (bytes := bytes) (maxL := n) (ret := ret) (ws' := lw_g) np hts ?_ rfl rfl rfl ⟨rfl, w5, w6, w7⟩ ?_) ⟨Pp.blind, ⟨cell, g1, g2, by rw [hcl]; exact g3⟩, fun U hU hW => ⟨rfl, by rw [hU]; exact hP, ?_⟩⟩ rfl (by simpa using hnp) hL.1 rfl ?_ hd ⟨by have := hR.2.2.1; omega, by have := hR.2.2.2; omega⟩) hSt (fun q _ h => h) (fun q h => h) (fun r2 u t H1 locs1 ht hvm hw9 hB hz1 hk1 hS1 => ?_)
  · intro w hw
    unfold wsV at hw
    rcases List.mem_append.mp hw with hw | hw
    · simp only [List.mem_cons, List.not_mem_nil, or_false] at hw
      rcases hw with rfl | rfl | rfl | rfl
      · exact ⟨hl, good_g hl⟩
      · exact ⟨w3, good_g w3⟩
      · exact ⟨w4, good_g w4⟩
      · exact ⟨w2, good_g w2⟩
    · exact goodIn_l rfl w1 w hw
  · exact ⟨Nat.le_trans hd'.1 hR.1, by have h1 := hR.2.1; have h2 := hd'.2; show 8 + (n + 11) + 64 * d' ≤ _; omega⟩
  · rw [hU]
    exact Stt.warm hW (fun a ha hn => hSt.2.1 a ha hn) hst
  · show 2 * 0 + _ ≤ 8
    rw [cv_sum]
    omega
  · obtain ⟨rfl, rfl⟩ := hw9
    have hP1 := hB
    unfold Bp at hP1
    rw [ht] at hP1
    exact hk2 r2 u r τ' h2 H1 locs1 ls hL hP1 hS1
theorem sm_strV (C : Cx K y own cc nL d) (hs : s < 30) (hw : Jvm.Cond.fieldLink own index "java/lang/String" "value" "[B" ∈ lw_g) (hd : decode cc pc = .ok (.getfield index, 3)) (k : Sm K y nL Qf x (pc + 3) L (.ref (200000 + s) :: S) τ) : Sm K y nL Qf x pc L (.ref (100000 + s) :: S) τ := by
  intro r τ' h H locs ls hL hP hSt
  obtain ⟨q, hq, rfl⟩ := st_all s hs
  obtain ⟨cf, kk, fi, f, cell, h1, h2, h3, h4, h5, h6⟩ := va_OF.kept (C.2.2.2.2.2.2.1.2.2.2.2.1 q hq).2.2.1 hSt.2.1
  exact W.getf C.1 C.2.1 C.2.2.2.1 (C.2.2.2.2.1 _ hw) h1 h2 h3 h4 h5 rfl rfl hd (k r τ' h H locs ls hL hP hSt)
theorem sm_strC (C : Cx K y own cc nL d) (hs : s < 30) (hw : Jvm.Cond.fieldLink own index "java/lang/String" "coder" "B" ∈ lw_g) (hd : decode cc pc = .ok (.getfield index, 3)) (k : Sm K y nL Qf x (pc + 3) L (.int 0 :: S) τ) : Sm K y nL Qf x pc L (.ref (100000 + s) :: S) τ := by
  intro r τ' h H locs ls hL hP hSt
  obtain ⟨q, hq, rfl⟩ := st_all s hs
  obtain ⟨cf, kk, fi, f, cell, h1, h2, h3, h4, h5, h6⟩ := va_OF.kept (C.2.2.2.2.2.2.1.2.2.2.2.1 q hq).2.1 hSt.2.1
  exact W.getf C.1 C.2.1 C.2.2.2.1 (C.2.2.2.2.1 _ hw) h1 h2 h3 h4 h5 rfl rfl hd (k r τ' h H locs ls hL hP hSt)
theorem sm_blen (C : Cx K y own cc nL d) (hs : s < 30) (hd : decode cc pc = .ok (.arraylength, 1)) (k : Sm K y nL Qf x (pc + 1) L (.int (Int32.ofNat (sL s)) :: S) τ) : Sm K y nL Qf x pc L (.ref (200000 + s) :: S) τ := by
  intro r τ' h H locs ls hL hP hSt
  obtain ⟨q, hq, rfl⟩ := st_all s hs
  exact va_tlen C.1 C.2.1 (C.2.2.2.2.2.2.1.2.2.2.2.1 q hq).2.2.2 hSt rfl hd (k r τ' h H locs ls hL hP hSt)
theorem sm_bald (C : Cx K y own cc nL d) (hs : s < 30) (hd : decode cc pc = .ok (.baload, 1)) (k : Sm K y nL Qf x (pc + 1) L (.int (sC s (ix i)) :: S) τ) : Sm K y nL Qf (gd i (sL s) x) pc L (.int i :: .ref (200000 + s) :: S) τ :=
  sm_ite (fun g r τ' h H locs ls hL hP hSt => by
    obtain ⟨q, hq, rfl⟩ := st_all s hs
    exact va_tb C.1 C.2.1 (C.2.2.2.2.2.2.1.2.2.2.2.1 q hq).2.2.2 hSt (inb_in g) rfl hd (k r τ' h H locs ls hL hP hSt)) (fun _ => sm_none)
theorem sm_compact (C : Cx K y own cc nL d) (hw : Jvm.Cond.fieldLink own index "java/lang/String" "COMPACT_STRINGS" "Z" ∈ lw_g) (hd : decode cc pc = .ok (.getstatic index, 3)) (k : Sm K y nL Qf x (pc + 3) L (.int 1 :: S) τ) : Sm K y nL Qf x pc L S τ :=
  fun r τ' h H locs ls hL hP hSt => va_gets C.1 C.2.1 C.2.2.2.2.2.2.1.2.2.2.2.2.1 hSt C.2.2.2.1 (C.2.2.2.2.1 _ hw) (fun _ q => q) hd (k r τ' h H locs ls hL hP hSt)
theorem sm_sioobe (C : Cx K y own cc nL d) (hw : Jvm.Cond.fieldLink own index "jdk/internal/util/Preconditions" "SIOOBE_FORMATTER" "Ljava/util/function/BiFunction;" ∈ lw_g) (hd : decode cc pc = .ok (.getstatic index, 3)) (k : ∀ w : Value, (w = .null ∨ w = .ref 300000) → Sm K y nL Qf x (pc + 3) L (w :: S) τ) : Sm K y nL Qf x pc L S τ := by
  intro r τ' h H locs ls hL hP hSt
  rcases C.2.2.2.2.2.2.1.2.2.2.2.2.2 with hz | hz
  · exact va_gets C.1 C.2.1 hz hSt C.2.2.2.1 (C.2.2.2.2.1 _ hw) (fun _ q => q) hd (k .null (Or.inl rfl) r τ' h H locs ls hL hP hSt)
  · exact va_gets C.1 C.2.1 hz hSt C.2.2.2.1 (C.2.2.2.2.1 _ hw) (fun _ q => q) hd (k (.ref 300000) (Or.inr rfl) r τ' h H locs ls hL hP hSt)
theorem sm_i2b (C : Cx K y own cc nL d) (hd : decode cc pc = .ok (.i2b, 1)) (k : Sm K y nL Qf x (pc + 1) L (.int v.toInt8.toInt32 :: S) τ) : Sm K y nL Qf x pc L (.int v :: S) τ :=
  fun r τ' h H locs ls hL hP hSt => lv_i2b C.1 C.2.1 hd rfl (k r τ' h H locs ls hL hP hSt)
end St
theorem fs_9 : Jvm.Cond.fieldLink "java/lang/String" 9 "java/lang/String" "value" "[B" ∈ lw_g := in_c9 176 rfl rfl
theorem fs_15 : Jvm.Cond.fieldLink "java/lang/String" 15 "java/lang/String" "coder" "B" ∈ lw_g := in_c9 175 rfl rfl
theorem fs_38 : Jvm.Cond.fieldLink "java/lang/String" 38 "java/lang/String" "COMPACT_STRINGS" "Z" ∈ lw_g := in_c4 22 rfl rfl
theorem fs_1053 : Jvm.Cond.fieldLink "java/lang/String" 1053 "jdk/internal/util/Preconditions" "SIOOBE_FORMATTER" "Ljava/util/function/BiFunction;" ∈ lw_g := in_c4 61 rfl rfl
theorem c_pCheck {y : Sys} (i n : Int32) (w : Value) (hw : w = .null ∨ w = .ref 300000) (τ : Tau) (r : Int32) (τ' : Tau) (h : pCheck i n τ = some (r, τ')) : MCi y ⟨"jdk/internal/util/Preconditions", "checkIndex", "(IILjava/util/function/BiFunction;)I"⟩ prog_22_method_11_code 3 (some .int) 1 [.int i, .int n, w] τ r τ' :=
  mci_of (by decide +kernel) (by rcases hw with rfl | rfl <;> exact Nat.le_of_ble_eq_true rfl) (fun K C hr => by
    show Sm K y 3 (Qi K y) (pCheck i n τ) 0 [(0, .int i), (1, .int n), (2, w)] [] τ
    unfold pCheck
    refine sm_seg C [(.iload_n 0, 0)] (pc' := 1) (L' := [(0, .int i), (1, .int n), (2, w)]) (S' := [.int i]) (by decide +kernel) rfl ?_
    refine sm_iflt 9 (off := 8) C (by decide +kernel) (by decide) (fun _ => sm_none) (fun _ => ?_)
    refine sm_seg C [(.iload_n 0, 0), (.iload_n 1, 0)] (pc' := 6) (L' := [(0, .int i), (1, .int n), (2, w)]) (S' := [.int n, .int i]) (by decide +kernel) rfl ?_
    refine sm_icmplt 16 (off := 10) C (by decide +kernel) (by decide) (fun _ => ?_) (fun _ => sm_none)
    refine sm_seg C [(.iload_n 0, 0)] (pc' := 17) (L' := [(0, .int i), (1, .int n), (2, w)]) (S' := [.int i]) (by decide +kernel) rfl ?_
    exact sm_iret C hr rfl (by decide +kernel)) h
theorem c_sCheck {y : Sys} (i n : Int32) (τ : Tau) (r : Int32) (τ' : Tau) (h : sCheck i n τ = some (r, τ')) : MCv y ⟨"java/lang/String", "checkIndex", "(II)V"⟩ prog_17_method_155_code 2 2 [.int i, .int n] τ τ' :=
  mcv_of (by decide +kernel) (Nat.le_of_ble_eq_true rfl) (fun K C hr => by
    show Sm K y 2 (Qv K y) (sCheck i n τ) 0 [(0, .int i), (1, .int n)] [] τ
    unfold sCheck
    refine sm_seg C [(.iload_n 0, 0), (.iload_n 1, 0)] (pc' := 2) (L' := [(0, .int i), (1, .int n)]) (S' := [.int n, .int i]) (by decide +kernel) rfl ?_
    refine sm_sioobe C fs_1053 (by decide +kernel) (fun w hw => ?_)
    refine sm_scal [.int i, .int n, w] [] rfl C mw_Preconditions_checkIndex__IILjava_util_function_BiFunction__I ml_String_1059 rfl ⟨by decide, by decide⟩ (Nat.le_of_ble_eq_true rfl) (by decide +kernel) (c_pCheck i n w hw τ) (fun r τ1 => ?_)
    refine sm_seg C [(.pop, 0)] (pc' := 9) (L' := [(0, .int i), (1, .int n)]) (S' := []) (by decide +kernel) rfl ?_
    exact sm_vret C hr (by decide +kernel)) h
