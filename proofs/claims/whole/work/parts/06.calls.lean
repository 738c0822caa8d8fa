/-! calls, answers, methods -/
/-- the world behind a method -/
def Bp (D : va_G) (cA : Nat → ClassId) (ρ : Nat → Nat) (y : Sys) : Tau → State → Prop := fun τ t => va_P D vwCl (wl cA ρ y τ) t.heap
def Pp (D : va_G) (cA : Nat → ClassId) (ρ : Nat → Nat) (y : Sys) (τ : Tau) : State → Prop := fun U => va_P D vwCl (wl cA ρ y τ) U.heap ∧ Stt D cA ρ y U U.heap
/-- a method's contract: from these arguments and this table it answers r, and leaves the table τ' -/
def MCi (y : Sys) (nm : MethodName) (bytes : ByteArray) (n : Nat) (ret : Option FieldType) (d : Nat) (as : List Value) (τ : Tau) (r : Int32) (τ' : Tau) : Prop :=
  ∀ (l : Launch) (D : va_G) (cA : Nat → ClassId) (ρ : Nat → Nat), Met l nm (.code nm bytes n ret :: lw_g) (rmD d) (va_Pc (as.map (cv ρ)) (Pp D cA ρ y τ)) (va_Qi (S := Tau) (fun r1 t1 => r1 = r ∧ t1 = τ') (Bp D cA ρ y) (fr ρ y)) 0 0 (fr ρ y)
def MCv (y : Sys) (nm : MethodName) (bytes : ByteArray) (n : Nat) (d : Nat) (as : List Value) (τ τ' : Tau) : Prop :=
  ∀ (l : Launch) (D : va_G) (cA : Nat → ClassId) (ρ : Nat → Nat), Met l nm (.code nm bytes n none :: lw_g) (rmD d) (va_Pc (as.map (cv ρ)) (Pp D cA ρ y τ)) (va_Qv (S := Tau) (fun t1 => t1 = τ') (Bp D cA ρ y) (fr ρ y)) 0 0 (fr ρ y)
/-- what a method's end must show, in its own frame -/
def Qi (K : Ctx) (y : Sys) (r : Int32) (τ' : Tau) : State → Prop := MQ K.2.2.2.2.2.2.2.1 (va_Qi (S := Tau) (fun r1 t1 => r1 = r ∧ t1 = τ') (Bp K.2.2.2.2.2.2.2.2.2.2.2.2.1 K.2.2.2.2.2.2.2.2.2.2.2.2.2.1 K.2.2.2.2.2.2.2.2.2.2.2.2.2.2 y) (fr K.2.2.2.2.2.2.2.2.2.2.2.2.2.2 y)) K.2.2.2.2.2.2.1 K.2.2.2.2.1 K.2.2.2.2.2.2.2.2.2.2.1 K.2.2.2.2.2.2.2.2.2.2.2.1 (fr K.2.2.2.2.2.2.2.2.2.2.2.2.2.2 y)
def Qv (K : Ctx) (y : Sys) (_ : Int32) (τ' : Tau) : State → Prop := MQ K.2.2.2.2.2.2.2.1 (va_Qv (S := Tau) (fun t1 => t1 = τ') (Bp K.2.2.2.2.2.2.2.2.2.2.2.2.1 K.2.2.2.2.2.2.2.2.2.2.2.2.2.1 K.2.2.2.2.2.2.2.2.2.2.2.2.2.2 y) (fr K.2.2.2.2.2.2.2.2.2.2.2.2.2.2 y)) K.2.2.2.2.2.2.1 K.2.2.2.2.1 K.2.2.2.2.2.2.2.2.2.2.1 K.2.2.2.2.2.2.2.2.2.2.2.1 (fr K.2.2.2.2.2.2.2.2.2.2.2.2.2.2 y)
theorem Stt.calling {D : va_G} {cA : Nat → ClassId} {ρ : Nat → Nat} {y : Sys} {U U' : State} {H : Heap} (hv : U.vm = U'.vm) (h : Stt D cA ρ y U H) : Stt D cA ρ y U' H := by
  obtain ⟨h1, h2, h3, h4, h5, h6, h7⟩ := h
  have ha : U.vm.Alike U'.vm := by rw [hv]; exact Vm.Alike.refl _
  refine ⟨va_K.moved ha h1, h2, fun w hw => ?_, fun q hq => vk_R.same hv.symm (h4 q hq), fun q hq => ?_, va_Z.moved ha h6, h7.imp (va_Z.moved ha) (va_Z.moved ha)⟩
  · exact va_Nw.same (by
      have := (List.mem_filter.mp hw).2
      cases w <;> first | rfl | cases this) hv (h3 w hw)
  · obtain ⟨a1, a2, a3, a4⟩ := h5 q hq
    exact ⟨va_O.moved ha a1, va_OF.moved ha a2, va_OF.moved ha a3, va_T.moved ha a4⟩
theorem Stt.warm {D : va_G} {cA : Nat → ClassId} {ρ : Nat → Nat} {y : Sys} {s U : State} {H H' : Heap} (hW : s.WarmedH U.vm) (hq : ∀ a : Nat, a < H.size → ¬ fr ρ y a → H'[a]? = H[a]?) (h : Stt D cA ρ y s H) : Stt D cA ρ y U H' := by
  obtain ⟨h1, h2, h3, h4, h5, h6, h7⟩ := h
  refine ⟨va_K.moved hW.alike h1, h2, fun w hw => ?_, fun q hq => vk_R.warm hW (h4 q hq), fun q hq2 => ?_, (va_Z.moved hW.alike h6).kept hq, h7.imp (fun z => (va_Z.moved hW.alike z).kept hq) (fun z => (va_Z.moved hW.alike z).kept hq)⟩
  · have g := (List.mem_filter.mp hw).2
    have h9 := h3 w hw
    cases w <;> first | exact va_Nw.warmM hW h9 | cases g
  · obtain ⟨a1, a2, a3, a4⟩ := h5 q hq2
    exact ⟨(va_O.moved hW.alike a1).kept hq, (va_OF.moved hW.alike a2).kept hq, (va_OF.moved hW.alike a3).kept hq, (va_T.moved hW.alike a4).kept hq⟩
theorem Pp.blind {D : va_G} {cA : Nat → ClassId} {ρ : Nat → Nat} {y : Sys} {τ : Tau} {as : List Value} : FrameBlind (va_Pc (as.map (cv ρ)) (Pp D cA ρ y τ)) :=
  fun a U g mk q => ⟨q.1, q.2.1, Stt.calling (U := U) (U' := U.calling g mk a) rfl q.2.2⟩
/-- a method's words: its code, its kind, its class -/
def MWv (nm : MethodName) (bytes : ByteArray) (n : Nat) (ret : Option FieldType) (np : Nat) : Prop :=
  Cond.code nm bytes n ret ∈ lw_g ∧ Cond.initialized nm.cls ∈ lw_g ∧ Cond.instanceMethod nm ∈ lw_g ∧ Cond.selects nm.cls nm nm ∈ lw_g ∧ nm.cls ≠ "java/lang/invoke/MethodHandle" ∧ nm.cls ≠ "java/lang/invoke/VarHandle" ∧ (parseMethodDescriptor nm.desc).map (fun d => d.parameters.length) = some np
def MWs (nm : MethodName) (bytes : ByteArray) (n : Nat) (ret : Option FieldType) (np : Nat) : Prop :=
  Cond.code nm bytes n ret ∈ lw_g ∧ Cond.initialized nm.cls ∈ lw_g ∧ Cond.static nm ∈ lw_g ∧ nm.cls ≠ "java/lang/invoke/MethodHandle" ∧ nm.cls ≠ "java/lang/invoke/VarHandle" ∧ (parseMethodDescriptor nm.desc).map (fun d => d.parameters.length) = some np
section Cl
variable {K : Ctx} {y : Sys} {nL d : Nat} {Qf : Int32 → Tau → State → Prop} {own : String} {cc : ByteArray} {τ : Tau} {pc : Nat} {L : List (Nat × Value)} {S : List Value} {nm : MethodName} {bytes : ByteArray} {n np d' index : Nat} {ret : Option FieldType} {f : Option (Int32 × Tau)} {k : Int32 × Tau → Option (Int32 × Tau)} {b ci : Nat} {Cn : String} {T : u_T} {ty : Nat → FieldType} {N : Nat}
theorem goodIn_l {w : Cond} {Ts : List Cond} (h : Ts = lw_g) (hw : w ∈ lw_g) : GoodIn Ts (w :: lw_g) := by
  subst h
  intro v hv
  rcases List.mem_cons.mp hv with rfl | hv
  · exact ⟨hw, good_g hw⟩
  · exact ⟨hv, good_g hv⟩
theorem cv_rev (ρ : Nat → Nat) (as rest : List Value) (b : Nat) : (as.reverse ++ .ref b :: rest).map (cv ρ) = (as.map (cv ρ)).reverse ++ .ref (ρ b) :: rest.map (cv ρ) := by
  simp [cv]
theorem cv_rev0 (ρ : Nat → Nat) (as rest : List Value) : (as.reverse ++ rest).map (cv ρ) = (as.map (cv ρ)).reverse ++ rest.map (cv ρ) := by
  simp
theorem cv_sum (ρ : Nat → Nat) (rest : List Value) : ((rest.map (cv ρ)).map fun v => v.category).sum = (rest.map fun v => v.category).sum := by
  rw [List.map_map]
  congr 2
  funext v
  exact cv_cat ρ v
theorem sm_virt (as rest : List Value) (hS : as.reverse ++ .ref b :: rest = S) (C : Cx K y own cc nL d) (hw : MWv nm bytes n ret np) (hl : Cond.methodLink own index nm ∈ lw_g) (hnp : as.length = np) (hci : vwCl[ci]? = some (nm.cls, T, N)) (hb : b < y.1) (hk : y.2.1 b = ci) (h20 : ci < 20) (hd' : d' + 1 ≤ d ∧ 19 + n + 64 * d' ≤ 64 * d) (hrest : (rest.map fun v => v.category).sum ≤ 8) (hd : decode cc pc = .ok (.invokevirtual index, 3))
    (hM : ∀ r τ', f = some (r, τ') → MCi y nm bytes n ret d' (.ref b :: as) τ r τ') (hk2 : ∀ r τ', f = some (r, τ') → Sm K y nL Qf (k (r, τ')) (pc + 3) L (.int r :: rest) τ') : Sm K y nL Qf (f.bind k) pc L S τ := by
  subst hS
  intro r τ' h H locs ls hL hP hSt
  obtain ⟨⟨r1, τ1⟩, h1, h2⟩ := Option.bind_eq_some_iff.mp h
  obtain ⟨w1, w2, w3, w4, w5, w6, w7⟩ := hw
  have hM1 := hM r1 τ1 h1 K.2.1 K.2.2.2.2.2.2.2.2.2.2.2.2.1 K.2.2.2.2.2.2.2.2.2.2.2.2.2.1 K.2.2.2.2.2.2.2.2.2.2.2.2.2.2
  have hC := C
  obtain ⟨hx, hb1, hml, hown, hts, hR, hst, hlk⟩ := C
  rw [cv_rev]
  refine va_calli (va_runV (As := as.map (cv _)) (rest := rest.map (cv _)) ⟨hx, hb1, hml, hown, hts⟩ hM1 (cwV (bytes := bytes) (maxL := n) (ret := ret) (ws' := lw_g) np hts ?_ rfl rfl rfl ⟨rfl, w5, w6, w7⟩ ?_) ⟨Pp.blind, va_recv hst.1 hP hci (wl_at hb |>.trans (by rw [en_obj hk h20])), fun U hU hW => ⟨rfl, by rw [hU]; exact hP, ?_⟩⟩ rfl (by simpa using hnp) hL.1 rfl ?_ hd ⟨by have := hR.2.2.1; omega, by have := hR.2.2.2; omega⟩) hSt (fun q _ h => h) (fun q h => h) (fun r2 u t H1 locs1 ht hvm hw9 hB hz1 hk1 hS1 => ?_)
  · intro w hw
    unfold wsV at hw
    rcases List.mem_append.mp hw with hw | hw
    · simp only [List.mem_cons, List.not_mem_nil, or_false] at hw
      rcases hw with rfl | rfl | rfl | rfl
      · exact ⟨hl, good_g hl⟩
      · exact ⟨w3, good_g w3⟩
      · exact ⟨w4, good_g w4⟩
      · exact ⟨w2, good_g w2⟩
    · exact goodIn_l rfl w1 w hw
  · exact ⟨Nat.le_trans hd'.1 hR.1, by have h1 := hR.2.1; have h2 := hd'.2; show 8 + (n + 11) + 64 * d' ≤ _; omega⟩
  · rw [hU]
    exact Stt.warm hW (fun a ha hn => hSt.2.1 a ha hn) hst
  · show 2 * 0 + _ ≤ 8
    rw [cv_sum]
    omega
  · obtain ⟨rfl, rfl⟩ := hw9
    have hP1 := hB
    unfold Bp at hP1
    rw [ht] at hP1
    exact hk2 r2 u h1 r τ' h2 H1 locs1 ls hL hP1 hS1
theorem sm_virtv (as rest : List Value) (hS : as.reverse ++ .ref b :: rest = S) (C : Cx K y own cc nL d) (hw : MWv nm bytes n none np) (hl : Cond.methodLink own index nm ∈ lw_g) (hnp : as.length = np) (hci : vwCl[ci]? = some (nm.cls, T, N)) (hb : b < y.1) (hk : y.2.1 b = ci) (h20 : ci < 20) (hd' : d' + 1 ≤ d ∧ 19 + n + 64 * d' ≤ 64 * d) (hrest : (rest.map fun v => v.category).sum ≤ 8) (hd : decode cc pc = .ok (.invokevirtual index, 3))
    (hM : ∀ r τ', f = some (r, τ') → MCv y nm bytes n d' (.ref b :: as) τ τ') (hk2 : ∀ r τ', f = some (r, τ') → Sm K y nL Qf (k (r, τ')) (pc + 3) L rest τ') : Sm K y nL Qf (f.bind k) pc L S τ := by
  subst hS
  intro r τ' h H locs ls hL hP hSt
  obtain ⟨⟨r1, τ1⟩, h1, h2⟩ := Option.bind_eq_some_iff.mp h
  obtain ⟨w1, w2, w3, w4, w5, w6, w7⟩ := hw
  have hM1 := hM r1 τ1 h1 K.2.1 K.2.2.2.2.2.2.2.2.2.2.2.2.1 K.2.2.2.2.2.2.2.2.2.2.2.2.2.1 K.2.2.2.2.2.2.2.2.2.2.2.2.2.2
  obtain ⟨hx, hb1, hml, hown, hts, hR, hst, hlk⟩ := C
  rw [cv_rev]
  refine va_callv (va_runV (As := as.map (cv _)) (rest := rest.map (cv _)) ⟨hx, hb1, hml, hown, hts⟩ hM1 (cwV (bytes := bytes) (maxL := n) (ret := none) (ws' := lw_g) np hts ?_ rfl rfl rfl ⟨rfl, w5, w6, w7⟩ ?_) ⟨Pp.blind, va_recv hst.1 hP hci (wl_at hb |>.trans (by rw [en_obj hk h20])), fun U hU hW => ⟨rfl, by rw [hU]; exact hP, ?_⟩⟩ rfl (by simpa using hnp) hL.1 rfl ?_ hd ⟨by have := hR.2.2.1; omega, by have := hR.2.2.2; omega⟩) hSt (fun q _ h => h) (fun q h => h) (fun u t H1 locs1 ht hvm hw9 hB hz1 hk1 hS1 => ?_)
  · intro w hw
    unfold wsV at hw
    rcases List.mem_append.mp hw with hw | hw
    · simp only [List.mem_cons, List.not_mem_nil, or_false] at hw
      rcases hw with rfl | rfl | rfl | rfl
      · exact ⟨hl, good_g hl⟩
      · exact ⟨w3, good_g w3⟩
      · exact ⟨w4, good_g w4⟩
      · exact ⟨w2, good_g w2⟩
    · exact goodIn_l rfl w1 w hw
  · exact ⟨Nat.le_trans hd'.1 hR.1, by have h1 := hR.2.1; have h2 := hd'.2; show 8 + (n + 11) + 64 * d' ≤ _; omega⟩
  · rw [hU]
    exact Stt.warm hW (fun a ha hn => hSt.2.1 a ha hn) hst
  · show 2 * 0 + _ ≤ 8
    rw [cv_sum]
    omega
  · subst hw9
    have hP1 := hB
    unfold Bp at hP1
    rw [ht] at hP1
    exact hk2 r1 u h1 r τ' h2 H1 locs1 ls hL hP1 hS1
theorem sm_stat (as rest : List Value) (hS : as.reverse ++ rest = S) (C : Cx K y own cc nL d) (hw : MWs nm bytes n ret np) (hl : Cond.methodLink own index nm ∈ lw_g) (hnp : as.length = np) (hd' : d' + 1 ≤ d ∧ 19 + n + 64 * d' ≤ 64 * d) (hrest : (rest.map fun v => v.category).sum ≤ 8) (hd : decode cc pc = .ok (.invokestatic index, 3))
    (hM : ∀ r τ', f = some (r, τ') → MCi y nm bytes n ret d' as τ r τ') (hk2 : ∀ r τ', f = some (r, τ') → Sm K y nL Qf (k (r, τ')) (pc + 3) L (.int r :: rest) τ') : Sm K y nL Qf (f.bind k) pc L S τ := by
  subst hS
  intro r τ' h H locs ls hL hP hSt
  obtain ⟨⟨r1, τ1⟩, h1, h2⟩ := Option.bind_eq_some_iff.mp h
  obtain ⟨w1, w2, w3, w5, w6, w7⟩ := hw
  have hM1 := hM r1 τ1 h1 K.2.1 K.2.2.2.2.2.2.2.2.2.2.2.2.1 K.2.2.2.2.2.2.2.2.2.2.2.2.2.1 K.2.2.2.2.2.2.2.2.2.2.2.2.2.2
  obtain ⟨hx, hb1, hml, hown, hts, hR, hst, hlk⟩ := C
  rw [cv_rev0]
  refine va_calli (va_runS (As := as.map (cv _)) (rest := rest.map (cv _)) ⟨hx, hb1, hml, hown, hts⟩ hM1 (va_cwS (bytes := bytes) (maxL := n) (ret := ret) (ws' := lw_g) np hts ?_ rfl rfl rfl ⟨w5, w6, w7⟩ ?_) ⟨Pp.blind, fun U hU hW => ⟨rfl, by rw [hU]; exact hP, ?_⟩⟩ rfl (by simpa using hnp) hL.1 rfl ?_ hd ⟨by have := hR.2.2.1; omega, by have := hR.2.2.2; omega⟩) hSt (fun q _ h => h) (fun q h => h) (fun r2 u t H1 locs1 ht hvm hw9 hB hz1 hk1 hS1 => ?_)
  · intro w hw
    unfold va_wsS at hw
    rcases List.mem_append.mp hw with hw | hw
    · simp only [List.mem_cons, List.not_mem_nil, or_false] at hw
      rcases hw with rfl | rfl | rfl
      · exact ⟨hl, good_g hl⟩
      · exact ⟨w3, good_g w3⟩
      · exact ⟨w2, good_g w2⟩
    · exact goodIn_l rfl w1 w hw
  · exact ⟨Nat.le_trans hd'.1 hR.1, by have h1 := hR.2.1; have h2 := hd'.2; show 8 + (n + 11) + 64 * d' ≤ _; omega⟩
  · rw [hU]
    exact Stt.warm hW (fun a ha hn => hSt.2.1 a ha hn) hst
  · show 2 * 0 + _ ≤ 8
    rw [cv_sum]
    omega
  · obtain ⟨rfl, rfl⟩ := hw9
    have hP1 := hB
    unfold Bp at hP1
    rw [ht] at hP1
    exact hk2 r2 u h1 r τ' h2 H1 locs1 ls hL hP1 hS1
theorem sm_statv (as rest : List Value) (hS : as.reverse ++ rest = S) (C : Cx K y own cc nL d) (hw : MWs nm bytes n none np) (hl : Cond.methodLink own index nm ∈ lw_g) (hnp : as.length = np) (hd' : d' + 1 ≤ d ∧ 19 + n + 64 * d' ≤ 64 * d) (hrest : (rest.map fun v => v.category).sum ≤ 8) (hd : decode cc pc = .ok (.invokestatic index, 3))
    (hM : ∀ r τ', f = some (r, τ') → MCv y nm bytes n d' as τ τ') (hk2 : ∀ r τ', f = some (r, τ') → Sm K y nL Qf (k (r, τ')) (pc + 3) L rest τ') : Sm K y nL Qf (f.bind k) pc L S τ := by
  subst hS
  intro r τ' h H locs ls hL hP hSt
  obtain ⟨⟨r1, τ1⟩, h1, h2⟩ := Option.bind_eq_some_iff.mp h
  obtain ⟨w1, w2, w3, w5, w6, w7⟩ := hw
  have hM1 := hM r1 τ1 h1 K.2.1 K.2.2.2.2.2.2.2.2.2.2.2.2.1 K.2.2.2.2.2.2.2.2.2.2.2.2.2.1 K.2.2.2.2.2.2.2.2.2.2.2.2.2.2
  obtain ⟨hx, hb1, hml, hown, hts, hR, hst, hlk⟩ := C
  rw [cv_rev0]
  refine va_callv (va_runS (As := as.map (cv _)) (rest := rest.map (cv _)) ⟨hx, hb1, hml, hown, hts⟩ hM1 (va_cwS (bytes := bytes) (maxL := n) (ret := none) (ws' := lw_g) np hts ?_ rfl rfl rfl ⟨w5, w6, w7⟩ ?_) ⟨Pp.blind, fun U hU hW => ⟨rfl, by rw [hU]; exact hP, ?_⟩⟩ rfl (by simpa using hnp) hL.1 rfl ?_ hd ⟨by have := hR.2.2.1; omega, by have := hR.2.2.2; omega⟩) hSt (fun q _ h => h) (fun q h => h) (fun u t H1 locs1 ht hvm hw9 hB hz1 hk1 hS1 => ?_)
  · intro w hw
    unfold va_wsS at hw
    rcases List.mem_append.mp hw with hw | hw
    · simp only [List.mem_cons, List.not_mem_nil, or_false] at hw
      rcases hw with rfl | rfl | rfl
      · exact ⟨hl, good_g hl⟩
      · exact ⟨w3, good_g w3⟩
      · exact ⟨w2, good_g w2⟩
    · exact goodIn_l rfl w1 w hw
  · exact ⟨Nat.le_trans hd'.1 hR.1, by have h1 := hR.2.1; have h2 := hd'.2; show 8 + (n + 11) + 64 * d' ≤ _; omega⟩
  · rw [hU]
    exact Stt.warm hW (fun a ha hn => hSt.2.1 a ha hn) hst
  · show 2 * 0 + _ ≤ 8
    rw [cv_sum]
    omega
  · subst hw9
    have hP1 := hB
    unfold Bp at hP1
    rw [ht] at hP1
    exact hk2 r1 u h1 r τ' h2 H1 locs1 ls hL hP1 hS1
/-- a static method of a nest mate -/
theorem sm_nest (host : String) (as rest : List Value) (hS : as.reverse ++ rest = S) (C : Cx K y own cc nL d) (hw : MWs nm bytes n ret np) (hl : Cond.methodLinkNest own index nm host ∈ nestW) (hnp : as.length = np) (hd' : d' + 1 ≤ d ∧ 19 + n + 64 * d' ≤ 64 * d) (hrest : (rest.map fun v => v.category).sum ≤ 8) (hd : decode cc pc = .ok (.invokestatic index, 3))
    (hM : ∀ r τ', f = some (r, τ') → MCi y nm bytes n ret d' as τ r τ') (hk2 : ∀ r τ', f = some (r, τ') → Sm K y nL Qf (k (r, τ')) (pc + 3) L (.int r :: rest) τ') : Sm K y nL Qf (f.bind k) pc L S τ := by
  subst hS
  intro r τ' h H locs ls hL hP hSt
  obtain ⟨⟨r1, τ1⟩, h1, h2⟩ := Option.bind_eq_some_iff.mp h
  obtain ⟨w1, w2, w3, w5, w6, w7⟩ := hw
  have hM1 := hM r1 τ1 h1 K.2.1 K.2.2.2.2.2.2.2.2.2.2.2.2.1 K.2.2.2.2.2.2.2.2.2.2.2.2.2.1 K.2.2.2.2.2.2.2.2.2.2.2.2.2.2
  obtain ⟨hx, hb1, hml, hown, hts, hR, hst, hlk⟩ := C
  rw [cv_rev0]
  refine va_calli (va_runSN (As := as.map (cv _)) (rest := rest.map (cv _)) ⟨hx, hb1, hml, hown, hts⟩ hM1 ⟨va_cnB (bytes := bytes) (maxL := n) (ret := ret) (ws' := lw_g) np hts (goodIn_l rfl w1) rfl rfl rfl (hst.2.2.1 _ hl) (hts _ w2) ⟨w5, w6, w7⟩ ?_, hts _ w3, trivial⟩ ⟨Pp.blind, fun U hU hW => ⟨rfl, by rw [hU]; exact hP, ?_⟩⟩ rfl (by simpa using hnp) hL.1 rfl ?_ hd ⟨by have := hR.2.2.1; omega, by have := hR.2.2.2; omega⟩) hSt (fun q _ h => h) (fun q h => h) (fun r2 u t H1 locs1 ht hvm hw9 hB hz1 hk1 hS1 => ?_)
  · exact ⟨Nat.le_trans hd'.1 hR.1, by have h1 := hR.2.1; have h2 := hd'.2; show 8 + (n + 11) + 64 * d' ≤ _; omega⟩
  · rw [hU]
    exact Stt.warm hW (fun a ha hn => hSt.2.1 a ha hn) hst
  · show 2 * 0 + _ ≤ 8
    rw [cv_sum]
    omega
  · obtain ⟨rfl, rfl⟩ := hw9
    have hP1 := hB
    unfold Bp at hP1
    rw [ht] at hP1
    exact hk2 r2 u h1 r τ' h2 H1 locs1 ls hL hP1 hS1
theorem sm_nestv (host : String) (as rest : List Value) (hS : as.reverse ++ rest = S) (C : Cx K y own cc nL d) (hw : MWs nm bytes n none np) (hl : Cond.methodLinkNest own index nm host ∈ nestW) (hnp : as.length = np) (hd' : d' + 1 ≤ d ∧ 19 + n + 64 * d' ≤ 64 * d) (hrest : (rest.map fun v => v.category).sum ≤ 8) (hd : decode cc pc = .ok (.invokestatic index, 3))
    (hM : ∀ r τ', f = some (r, τ') → MCv y nm bytes n d' as τ τ') (hk2 : ∀ r τ', f = some (r, τ') → Sm K y nL Qf (k (r, τ')) (pc + 3) L rest τ') : Sm K y nL Qf (f.bind k) pc L S τ := by
  subst hS
  intro r τ' h H locs ls hL hP hSt
  obtain ⟨⟨r1, τ1⟩, h1, h2⟩ := Option.bind_eq_some_iff.mp h
  obtain ⟨w1, w2, w3, w5, w6, w7⟩ := hw
  have hM1 := hM r1 τ1 h1 K.2.1 K.2.2.2.2.2.2.2.2.2.2.2.2.1 K.2.2.2.2.2.2.2.2.2.2.2.2.2.1 K.2.2.2.2.2.2.2.2.2.2.2.2.2.2
  obtain ⟨hx, hb1, hml, hown, hts, hR, hst, hlk⟩ := C
  rw [cv_rev0]
  refine va_callv (va_runSN (As := as.map (cv _)) (rest := rest.map (cv _)) ⟨hx, hb1, hml, hown, hts⟩ hM1 ⟨va_cnB (bytes := bytes) (maxL := n) (ret := none) (ws' := lw_g) np hts (goodIn_l rfl w1) rfl rfl rfl (hst.2.2.1 _ hl) (hts _ w2) ⟨w5, w6, w7⟩ ?_, hts _ w3, trivial⟩ ⟨Pp.blind, fun U hU hW => ⟨rfl, by rw [hU]; exact hP, ?_⟩⟩ rfl (by simpa using hnp) hL.1 rfl ?_ hd ⟨by have := hR.2.2.1; omega, by have := hR.2.2.2; omega⟩) hSt (fun q _ h => h) (fun q h => h) (fun u t H1 locs1 ht hvm hw9 hB hz1 hk1 hS1 => ?_)
  · exact ⟨Nat.le_trans hd'.1 hR.1, by have h1 := hR.2.1; have h2 := hd'.2; show 8 + (n + 11) + 64 * d' ≤ _; omega⟩
  · rw [hU]
    exact Stt.warm hW (fun a ha hn => hSt.2.1 a ha hn) hst
  · show 2 * 0 + _ ≤ 8
    rw [cv_sum]
    omega
  · subst hw9
    have hP1 := hB
    unfold Bp at hP1
    rw [ht] at hP1
    exact hk2 r1 u h1 r τ' h2 H1 locs1 ls hL hP1 hS1
end Cl
