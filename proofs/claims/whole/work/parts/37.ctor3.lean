/-! the making of a system: the rest of the rules, contracts -/
section ScB
variable {K : Ctx} {b : Nat} {kd ln : Nat → Nat} {nL d : Nat} {Qf : Nat → RF → Tau → State → Prop} {own : String} {cc : ByteArray} {cells slots pc : Nat} {L : List (Nat × Value)} {S : List Value} {n : Nat} {rf : RF} {τ : Tau} {x y : O3} {index : Nat} {kt : Nat → RF → Tau → O3}
theorem sc_putR (ci j N q : Nat) {Cn : String} {T : u_T} {ty : Nat → FieldType} {c : Nat} (hC : Cls ci Cn T ty N) (C : Cc K b own cc nL d) (hj : j < N) (hfin : (T j).2.2.2 = true) (hin : K.2.2.2.2.2.2.2.2.1.name = "<init>") (hdecl : (T j).1 = own) (hn : ∀ a : Nat, narrow (ty j) (.ref a) = .ref a) (hfit : ∀ a : Nat, fits (ty j) (.ref a) = true)
    (hw : Jvm.Cond.fieldLink own index (T j).1 (T j).2.1 (T j).2.2.1 ∈ lw_g) (hd : decode cc pc = .ok (.putfield index, 3)) (k : ∀ n1 rf1 τ1, Sc K b kd ln nL Qf cells slots (kt n1 rf1 τ1) (pc + 3) L S n1 rf1 τ1) : Sc K b kd ln nL Qf cells slots (cputR kd ln ci N c j q n rf τ kt) pc L (.ref q :: .ref c :: S) n rf τ := by
  unfold cputR
  refine sc_ite (fun h => ?_) (fun _ => sc_none)
  exact sc_put ci j N (rf2 := uC rf c j (q + 2)) (τ2 := τ) hC C h.1 h.2.1 h.2.2 hj (Or.inr ⟨hfin, hin, hdecl⟩) (fun ρ => hn _) (fun ρ => hfit _) (fun k hk => ⟨uC_ne hk, rfl⟩) (by simp [uC, fc, cv, sh]) (fun i hi => ⟨by simp [uC, hi], rfl⟩) hw hd (k _ _ _)
theorem sc_putI (ci j N : Nat) {Cn : String} {T : u_T} {ty : Nat → FieldType} {c : Nat} {v : Int32} (hC : Cls ci Cn T ty N) (C : Cc K b own cc nL d) (hj : j < N) (hfin : (T j).2.2.2 = false) (hn : narrow (ty j) (.int v) = .int v) (hfit : fits (ty j) (.int v) = true)
    (hw : Jvm.Cond.fieldLink own index (T j).1 (T j).2.1 (T j).2.2.1 ∈ lw_g) (hd : decode cc pc = .ok (.putfield index, 3)) (k : ∀ n1 rf1 τ1, Sc K b kd ln nL Qf cells slots (kt n1 rf1 τ1) (pc + 3) L S n1 rf1 τ1) : Sc K b kd ln nL Qf cells slots (cputI kd ln ci N c j v n rf τ kt) pc L (.int v :: .ref c :: S) n rf τ := by
  unfold cputI
  refine sc_ite (fun h => ?_) (fun _ => sc_none)
  exact sc_put ci j N (rf2 := uC rf c j 0) (τ2 := up τ c j v) hC C h.1 h.2.1 h.2.2 hj (Or.inl hfin) (fun ρ => hn) (fun ρ => hfit) (fun k hk => ⟨uC_ne hk, up_ne hk⟩) (by simp [uC, up, fc, cv]) (fun i hi => ⟨by simp [uC, hi], by simp [up, hi]⟩) hw hd (k _ _ _)
theorem sc_getR (ci j N q : Nat) {Cn : String} {T : u_T} {ty : Nat → FieldType} {c : Nat} (hC : Cls ci Cn T ty N) (C : Cc K b own cc nL d) (hj : j < N)
    (hw : Jvm.Cond.fieldLink own index (T j).1 (T j).2.1 (T j).2.2.1 ∈ lw_g) (hd : decode cc pc = .ok (.getfield index, 3)) (k : Sc K b kd ln nL Qf cells slots x (pc + 3) L (.ref q :: S) n rf τ) : Sc K b kd ln nL Qf cells slots (cgetR kd ln ci N c j q n rf τ x) pc L (.ref c :: S) n rf τ := by
  unfold cgetR
  refine sc_ite (fun hg => ?_) (fun _ => sc_none)
  obtain ⟨hc, hk, hN, hq⟩ := hg
  intro n' rf' τ' h H locs hP hz hS ls hL
  obtain ⟨g1, g2, g3, g4, g5⟩ := hC
  have hK := C.2.2.2.2.2.2.1
  have hA := hP c hc
  unfold enC at hA
  rw [hk, if_pos g5, hN] at hA
  obtain ⟨r, hr, cell, q1, q2, q3, q4⟩ := hA
  have er : r = (Cn, T, N) := Option.some.inj (hr.symm.trans g1)
  subst er
  obtain ⟨hSl, hfc, kC, hkC, hkind⟩ := hK.1 ci _ g1
  obtain ⟨cf, kf, fi, f, hi, hsl⟩ := hSl j hj
  refine W.getf C.1 C.2.1 C.2.2.2.1 (C.2.2.2.2.1 _ hw) hi (u_facts hfc hkC (u_lays C.2.2.2.2.1 g2 hj) hi).1 q1 (by rw [q3]; exact fun h => by cases h) (v := .ref (b + q)) ?_ rfl rfl hd (k n' rf' τ' h H locs hP hz hS ls hL)
  rw [hsl, q4 j hj]
  unfold vp_V
  rw [List.getD_eq_getElem?_getD, List.getElem?_map, List.getElem?_range hj]
  show some (fc b (rf c j) (τ c j)) = _
  rw [hq]
  rfl
theorem sc_iast (m : Nat) {c : Nat} {i v : Int32} (C : Cc K b own cc nL d) (hd : decode cc pc = .ok (.iastore, 1)) (k : ∀ n1 rf1 τ1, Sc K b kd ln nL Qf cells slots (kt n1 rf1 τ1) (pc + 1) L S n1 rf1 τ1) : Sc K b kd ln nL Qf cells slots (casti kd ln c m i v n rf τ kt) pc L (.int v :: .int i :: .ref c :: S) n rf τ := by
  unfold casti
  refine sc_ite (fun hg => ?_) (fun _ => sc_none)
  obtain ⟨hc, hk, hm, hi⟩ := hg
  intro n' rf' τ' h H locs hP hz hS ls hL
  have hA := hP c hc
  unfold enC at hA
  rw [hk, if_neg (by decide), if_neg (by decide), hm] at hA
  have hA2 : H[b + c]? = some (arrV (K.2.2.2.2.2.2.2.2.2.2.2.2.2.1 20) m (fun j => .int (τ c j))) := hA
  refine W.iast C.1 C.2.1 hA2 ((C.2.2.2.2.2.2.1.2 0 _ rfl).1 m _) (fun q => by cases q) (by rw [arrV_size]; exact inb_in hi) rfl rfl hd fun H1 e z oq => ?_
  refine k _ _ _ n' rf' τ' h H1 _ (hP.set (c := c) oq (fun k hk => ⟨rfl, up_ne hk⟩) ?_) (by omega) (hS.put z oq (by show b ≤ b + c; omega)) ls hL
  unfold enC
  rw [hk, if_neg (by decide), if_neg (by decide), hm]
  show H1[b + c]? = some (vp_cell _ _)
  rw [e, vp_cell_i, arrV_store]
  congr 2
  funext q
  by_cases hq : q = i.toNatClampNeg
  · subst hq
    simp [updV, up]
  · simp [updV, up, hq]
theorem sc_alen (ty t0 m : Nat) {c : Nat} {v : Int32} {ft : FieldType} (ht : ∀ cA, (tysL cA)[t0]? = some (cA ty, ft)) (h20 : ¬ ty < 20) (h23 : ¬ ty = 23) (hv : Int32.ofNat m = v) (C : Cc K b own cc nL d) (hd : decode cc pc = .ok (.arraylength, 1)) (k : Sc K b kd ln nL Qf cells slots x (pc + 1) L (.int v :: S) n rf τ) : Sc K b kd ln nL Qf cells slots (if c < n ∧ kd c = ty ∧ ln c = m then x else none) pc L (.ref c :: S) n rf τ := by
  refine sc_ite (fun hg => ?_) (fun _ => sc_none)
  obtain ⟨hc, hk, hm⟩ := hg
  intro n' rf' τ' h H locs hP hz hS ls hL
  have hA := hP c hc
  unfold enC at hA
  rw [hk, if_neg h20, if_neg h23, hm] at hA
  have hA2 : H[b + c]? = some (arrV (K.2.2.2.2.2.2.2.2.2.2.2.2.2.1 ty) m (fun j => .int (τ c j))) := hA
  exact W.alen (n := v) C.1 C.2.1 hA2 ((C.2.2.2.2.2.2.1.2 t0 _ (ht _)).1 m _) (by rw [arrV_size]; exact hv) rfl rfl hd (k n' rf' τ' h H locs hP hz hS ls hL)
theorem sc_astq (m q : Nat) {c : Nat} {i : Int32} (C : Cc K b own cc nL d) (hd : decode cc pc = .ok (.aastore, 1)) (k : ∀ n1 rf1 τ1, Sc K b kd ln nL Qf cells slots (kt n1 rf1 τ1) (pc + 1) L S n1 rf1 τ1) : Sc K b kd ln nL Qf cells slots (castq kd ln c m i q n rf τ kt) pc L (.ref q :: .int i :: .ref c :: S) n rf τ := by
  unfold castq
  refine sc_ite (fun hg => ?_) (fun _ => sc_none)
  obtain ⟨hc, hk, hm, hi, hq, hkq⟩ := hg
  intro n' rf' τ' h H locs hP hz hS ls hL
  have hK := C.2.2.2.2.2.2.1
  have hA := hP c hc
  unfold enC at hA
  rw [hk, if_neg (by decide), if_pos rfl, hm] at hA
  have hA2 : H[b + c]? = some (arrV (K.2.2.2.2.2.2.2.2.2.2.2.2.2.1 23) m (fun j => va_rf (fq b (rf c j)))) := hA
  have hB := hP q hq
  unfold enC at hB
  rw [hkq, if_pos (by decide)] at hB
  obtain ⟨r', hr', cellV, g1, g2, g3, -⟩ := hB
  have hcls := (hK.1 8 (RX8, TX8, 19) rfl).2
  obtain ⟨kA, comp, k1, k2, k3, -⟩ := (hK.2 3 _ rfl).2
  have hcomp : comp = K.2.2.2.2.2.2.2.2.2.2.2.2.1.1 8 := Option.some.inj (k3.symm.trans hcls.1)
  subst hcomp
  obtain ⟨kC, hkC, -⟩ := hcls.2
  have hi2 := inb_in hi
  refine W.aast C.1 C.2.1 hA2 (fun q h => by cases h) (fun h => by cases h) k1 k2 rfl hkC ⟨fun z => hi2 (Or.inl z), by rw [arrV_size]; exact inb_lt hi⟩ g1 (fun q h => by rw [g3] at h; cases h) (by rw [g2]; exact hkC) (by rw [g2]; exact va_assign hcls) rfl rfl hd fun H1 e z oq => ?_
  refine k _ _ _ n' rf' τ' h H1 _ (hP.set (c := c) oq (fun k hk => ⟨uC_ne hk, rfl⟩) ?_) (by omega) (hS.put z oq (by show b ≤ b + c; omega)) ls hL
  unfold enC
  rw [hk, if_neg (by decide), if_pos rfl, hm]
  show H1[b + c]? = some (vp_cell _ _)
  rw [e, vp_cell_q, arrV_store]
  congr 2
  funext z
  by_cases hz : z = i.toNatClampNeg
  · subst hz
    simp [updV, uC, fq, va_rf, sh]
  · simp [updV, uC, hz]
theorem sc_icmpge {u v : Int32} {off : Int} (tgt : Nat) (C : Cc K b own cc nL d) (hd : decode cc pc = .ok (.if_icmp .ge off, 3)) (ht : (pc : Int) + off = (tgt : Int)) (ka : v ≤ u → Sc K b kd ln nL Qf cells slots x tgt L S n rf τ) (kb : ¬ v ≤ u → Sc K b kd ln nL Qf cells slots y (pc + 3) L S n rf τ) : Sc K b kd ln nL Qf cells slots (if v ≤ u then x else y) pc L (.int v :: .int u :: S) n rf τ := by
  intro n' rf' τ' h H locs hP hz hS ls hL
  exact lv_icmp_ge C.1 C.2.1 hd ht (fun q => ka q n' rf' τ' (by rw [if_pos q] at h; exact h) H locs hP hz hS ls hL) (fun q => kb q n' rf' τ' (by rw [if_neg q] at h; exact h) H locs hP hz hS ls hL)
theorem sc_irem {u v : Int32} (C : Cc K b own cc nL d) (hd : decode cc pc = .ok (.irem, 1)) (hz : ¬ v = 0) (k : Sc K b kd ln nL Qf cells slots x (pc + 1) L (.int (rmd u v) :: S) n rf τ) : Sc K b kd ln nL Qf cells slots x pc L (.int v :: .int u :: S) n rf τ :=
  fun n' rf' τ' h H locs hP hzz hS ls hL => lv_irem C.1 C.2.1 hd hz (k n' rf' τ' h H locs hP hzz hS ls hL)
theorem sc_max {u v : Int32} (C : Cc K b own cc nL d) (h1 : 1 ≤ d) (hl : Cond.methodLink own index Lib.Math.max.name ∈ lw_g) (hcells : cells ≤ K.2.2.2.1.cells) (hslots : slots ≤ K.2.2.2.1.slots) (hrest : (S.map fun v => v.category).sum ≤ 8) (hd : decode cc pc = .ok (.invokestatic index, 3)) (k : Sc K b kd ln nL Qf cells slots x (pc + 3) L (.int (imax u v) :: S) n rf τ) : Sc K b kd ln nL Qf cells slots x pc L (.int v :: .int u :: S) n rf τ :=
  fun n' rf' τ' h H locs hP hzz hS ls hL => va_mmax C.1 C.2.1 (C.2.2.1.trans hL.1.symm) C.2.2.2.1 (C.2.2.2.2.1 _ hl) (C.2.2.2.2.1 _ jw_maxs) (C.2.2.2.2.1 _ jw_math) (C.2.2.2.2.1 _ jw_maxc) (Nat.le_trans h1 C.2.2.2.2.2.1.1) (by have := C.2.2.2.2.2.1.2; rw [cv_sum]; omega) hcells hslots hd (k n' rf' τ' h H locs hP hzz hS ls hL)
end ScB
/-- a constructor's contract -/
def SttC (D : va_G) (cA : Nat → ClassId) (U : State) : Prop := va_K D vwCl (tysL cA) U ∧ (∀ w ∈ nestW, va_Nw w U) ∧ va_AO "BasketEnvoys$Town" U
def rmC (d mc ms : Nat) : Room := { frames := d, cells := mc, slots := ms, locals := 64 * d }
def PpC (kd ln : Nat → Nat) (D : va_G) (cA : Nat → ClassId) (b n : Nat) (rf : RF) (τ : Tau) : State → Prop := fun U => PC D cA b kd ln n rf τ U.heap ∧ U.heap.size = b + n ∧ SttC D cA U
def BpC (kd ln : Nat → Nat) (D : va_G) (cA : Nat → ClassId) (b n : Nat) (rf : RF) (τ : Tau) : Unit → State → Prop := fun _ t => PC D cA b kd ln n rf τ t.heap ∧ t.heap.size = b + n
def MCc (kd ln : Nat → Nat) (nm : MethodName) (bytes : ByteArray) (nL d mc ms : Nat) (as : List Value) (n : Nat) (rf : RF) (τ : Tau) (n' : Nat) (rf' : RF) (τ' : Tau) : Prop :=
  ∀ (l : Launch) (D : va_G) (cA : Nat → ClassId) (b : Nat), Met l nm (.code nm bytes nL none :: lw_g) (rmC d mc ms) (va_Pc (as.map (cv (sh b))) (PpC kd ln D cA b n rf τ)) (va_Qv (S := Unit) (fun _ => True) (BpC kd ln D cA b n' rf' τ') (fun q => b ≤ q)) mc ms (fun q => b ≤ q)
def Qc (K : Ctx) (b : Nat) (kd ln : Nat → Nat) (mc ms n' : Nat) (rf' : RF) (τ' : Tau) : State → Prop := MQ K.2.2.2.2.2.2.2.1 (va_Qv (S := Unit) (fun _ => True) (BpC kd ln K.2.2.2.2.2.2.2.2.2.2.2.2.1 K.2.2.2.2.2.2.2.2.2.2.2.2.2.1 b n' rf' τ') (fun q => b ≤ q)) K.2.2.2.2.2.2.1 K.2.2.2.2.1 mc ms (fun q => b ≤ q)
theorem SttC.calling {D : va_G} {cA : Nat → ClassId} {U U' : State} (hv : U.vm = U'.vm) (h : SttC D cA U) : SttC D cA U' := by
  obtain ⟨h1, h3, h4⟩ := h
  have ha : U.vm.Alike U'.vm := by rw [hv]; exact Vm.Alike.refl _
  exact ⟨va_K.moved ha h1, fun w hw => va_Nw.same (by
      have := (List.mem_filter.mp hw).2
      cases w <;> first | rfl | cases this) hv (h3 w hw), va_AO.moved ha h4⟩
theorem SttC.warm {D : va_G} {cA : Nat → ClassId} {s U : State} (hW : s.WarmedH U.vm) (h : SttC D cA s) : SttC D cA U := by
  obtain ⟨h1, h3, h4⟩ := h
  refine ⟨va_K.moved hW.alike h1, fun w hw => ?_, va_AO.moved hW.alike h4⟩
  have g := (List.mem_filter.mp hw).2
  have h9 := h3 w hw
  cases w <;> first | exact va_Nw.warmM hW h9 | cases g
theorem PpC.blind {kd ln : Nat → Nat} {D : va_G} {cA : Nat → ClassId} {b n : Nat} {rf : RF} {τ : Tau} {as : List Value} : FrameBlind (va_Pc (as.map (cv (sh b))) (PpC kd ln D cA b n rf τ)) :=
  fun a U g mk q => ⟨q.1, q.2.1, q.2.2.1, SttC.calling (U := U) (U' := U.calling g mk a) rfl q.2.2.2⟩
def MWi (nm : MethodName) (bytes : ByteArray) (n np : Nat) : Prop :=
  Cond.code nm bytes n none ∈ lw_g ∧ Cond.initialized nm.cls ∈ lw_g ∧ Cond.instanceMethod nm ∈ lw_g ∧ nm.name = "<init>" ∧ nm.cls ≠ "java/lang/invoke/MethodHandle" ∧ nm.cls ≠ "java/lang/invoke/VarHandle" ∧ (parseMethodDescriptor nm.desc).map (fun d => d.parameters.length) = some np
section ScC
variable {K : Ctx} {b : Nat} {kd ln : Nat → Nat} {nL d : Nat} {Qf : Nat → RF → Tau → State → Prop} {own : String} {cc : ByteArray} {cells slots pc : Nat} {L : List (Nat × Value)} {S : List Value} {n : Nat} {rf : RF} {τ : Tau} {f : O3} {index : Nat} {kt : Nat → RF → Tau → O3} {nm : MethodName} {bytes : ByteArray} {nl np d' mc ms c : Nat}
theorem cs_rev (b : Nat) (as rest : List Value) (c : Nat) : (as.reverse ++ .ref c :: rest).map (cv (sh b)) = (as.map (cv (sh b))).reverse ++ .ref (b + c) :: rest.map (cv (sh b)) := by
  simp [cv, sh]
theorem sc_vret {mc ms : Nat} (C : Cc K b own cc nL d) (hr : Rt K none) (hd : decode cc pc = .ok (.return_, 1)) : Sc K b kd ln nL (Qc K b kd ln mc ms) mc ms (some (n, rf, τ)) pc L [] n rf τ := by
  intro n' rf' τ' h H locs hP hz hS ls hL
  cases h
  exact W.vret C.1 C.2.1 hr (fun t ht hW => ⟨⟨(), rfl, trivial, by unfold BpC; rw [ht]; exact ⟨hP, hz⟩⟩, hS.F ht⟩) hS.2.2 hd C.2.2.2.2.2.2.2.2.1
theorem sc_ctor (as rest : List Value) (hS : as.reverse ++ .ref c :: rest = S) (C : Cc K b own cc nL d) (hw : MWi nm bytes nl np) (hl : Cond.methodLink own index nm ∈ lw_g) (hnp : as.length = np) (hd' : d' + 1 ≤ d ∧ 19 + nl + 64 * d' ≤ 64 * d) (hrest : (rest.map fun v => v.category).sum ≤ 8) (hcells : cells + mc ≤ K.2.2.2.1.cells) (hslots : slots + ms ≤ K.2.2.2.1.slots) (hd : decode cc pc = .ok (.invokespecial index, 3))
    (hM : ∀ n1 rf1 τ1, f = some (n1, rf1, τ1) → MCc kd ln nm bytes nl d' mc ms (.ref c :: as) n rf τ n1 rf1 τ1) (k : ∀ n1 rf1 τ1, Sc K b kd ln nL Qf (cells + mc) (slots + ms) (kt n1 rf1 τ1) (pc + 3) L rest n1 rf1 τ1) : Sc K b kd ln nL Qf cells slots (ccall f kt) pc L S n rf τ := by
  subst hS
  intro n' rf' τ' h H locs hP hz hSt ls hL
  obtain ⟨⟨n1, rf1, τ1⟩, h1, h2⟩ := Option.bind_eq_some_iff.mp h
  obtain ⟨w1, w2, w3, w4, w5, w6, w7⟩ := hw
  have hM1 := hM n1 rf1 τ1 h1 K.2.1 K.2.2.2.2.2.2.2.2.2.2.2.2.1 K.2.2.2.2.2.2.2.2.2.2.2.2.2.1 b
  obtain ⟨hx, hb1, hml, hown, hts, hR, hK, hN, hlk, hb, hAO⟩ := C
  rw [cs_rev]
  refine va_callv (va_runI (As := as.map (cv _)) (rest := rest.map (cv _)) ⟨hx, hb1, hml, hown, hts⟩ hM1 (cwI (bytes := bytes) (maxL := nl) (ws' := lw_g) np hts (goodIn_l rfl w1) rfl rfl rfl (hts _ w2) (hts _ hl) (hts _ w3) w4 ⟨w5, w6, w7⟩ ?_) ⟨PpC.blind, fun U hU hW => ⟨rfl, by rw [hU]; exact hP, by rw [hU]; exact hz, SttC.warm hW ⟨hK, hN, hAO⟩⟩⟩ rfl (by simpa using hnp) hL.1 rfl ?_ hd ⟨hcells, hslots⟩) hSt (fun q _ h => h) (fun q h => h) (fun u t H1 locs1 ht hvm hw9 hB hz1 hk1 hS1 => ?_)
  · exact ⟨Nat.le_trans hd'.1 hR.1, by have h1 := hR.2; have h2 := hd'.2; show 8 + (nl + 11) + 64 * d' ≤ _; omega⟩
  · show 2 * 0 + _ ≤ 8
    rw [cv_sum]
    omega
  · obtain ⟨hB1, hB2⟩ := hB
    rw [ht] at hB1 hB2
    exact k n1 rf1 τ1 n' rf' τ' h2 H1 locs1 hB1 hB2 hS1 ls hL
theorem sc_ctorN (host : String) (as rest : List Value) (hS : as.reverse ++ .ref c :: rest = S) (C : Cc K b own cc nL d) (hw : MWi nm bytes nl np) (hl : Cond.methodLinkNest own index nm host ∈ nestW) (hnp : as.length = np) (hd' : d' + 1 ≤ d ∧ 19 + nl + 64 * d' ≤ 64 * d) (hrest : (rest.map fun v => v.category).sum ≤ 8) (hcells : cells + mc ≤ K.2.2.2.1.cells) (hslots : slots + ms ≤ K.2.2.2.1.slots) (hd : decode cc pc = .ok (.invokespecial index, 3))
    (hM : ∀ n1 rf1 τ1, f = some (n1, rf1, τ1) → MCc kd ln nm bytes nl d' mc ms (.ref c :: as) n rf τ n1 rf1 τ1) (k : ∀ n1 rf1 τ1, Sc K b kd ln nL Qf (cells + mc) (slots + ms) (kt n1 rf1 τ1) (pc + 3) L rest n1 rf1 τ1) : Sc K b kd ln nL Qf cells slots (ccall f kt) pc L S n rf τ := by
  subst hS
  intro n' rf' τ' h H locs hP hz hSt ls hL
  obtain ⟨⟨n1, rf1, τ1⟩, h1, h2⟩ := Option.bind_eq_some_iff.mp h
  obtain ⟨w1, w2, w3, w4, w5, w6, w7⟩ := hw
  have hM1 := hM n1 rf1 τ1 h1 K.2.1 K.2.2.2.2.2.2.2.2.2.2.2.2.1 K.2.2.2.2.2.2.2.2.2.2.2.2.2.1 b
  obtain ⟨hx, hb1, hml, hown, hts, hR, hK, hN, hlk, hb, hAO⟩ := C
  rw [cs_rev]
  refine va_callv (va_runIN (As := as.map (cv _)) (rest := rest.map (cv _)) ⟨hx, hb1, hml, hown, hts⟩ hM1 ⟨va_cnB (bytes := bytes) (maxL := nl) (ret := none) (ws' := lw_g) np hts (goodIn_l rfl w1) rfl rfl rfl (hN _ hl) (hts _ w2) ⟨w5, w6, w7⟩ ?_, w4, hts _ w3⟩ ⟨PpC.blind, fun U hU hW => ⟨rfl, by rw [hU]; exact hP, by rw [hU]; exact hz, SttC.warm hW ⟨hK, hN, hAO⟩⟩⟩ rfl (by simpa using hnp) hL.1 rfl ?_ hd ⟨hcells, hslots⟩) hSt (fun q _ h => h) (fun q h => h) (fun u t H1 locs1 ht hvm hw9 hB hz1 hk1 hS1 => ?_)
  · exact ⟨Nat.le_trans hd'.1 hR.1, by have h1 := hR.2; have h2 := hd'.2; show 8 + (nl + 11) + 64 * d' ≤ _; omega⟩
  · show 2 * 0 + _ ≤ 8
    rw [cv_sum]
    omega
  · obtain ⟨hB1, hB2⟩ := hB
    rw [ht] at hB1 hB2
    exact k n1 rf1 τ1 n' rf' τ' h2 H1 locs1 hB1 hB2 hS1 ls hL
/-- an own method without an answer -/
theorem sc_virtv (ci N : Nat) {T : u_T} (rest : List Value) (hS : .ref c :: rest = S) (C : Cc K b own cc nL d) (hw : MWv nm bytes nl none 0) (hl : Cond.methodLink own index nm ∈ lw_g) (hci : vwCl[ci]? = some (nm.cls, T, N)) (h20 : ci < 20) (hd' : d' + 1 ≤ d ∧ 19 + nl + 64 * d' ≤ 64 * d) (hrest : (rest.map fun v => v.category).sum ≤ 8) (hcells : cells + mc ≤ K.2.2.2.1.cells) (hslots : slots + ms ≤ K.2.2.2.1.slots) (hd : decode cc pc = .ok (.invokevirtual index, 3))
    (hM : ∀ n1 rf1 τ1, f = some (n1, rf1, τ1) → MCc kd ln nm bytes nl d' mc ms [.ref c] n rf τ n1 rf1 τ1) (k : ∀ n1 rf1 τ1, Sc K b kd ln nL Qf (cells + mc) (slots + ms) (kt n1 rf1 τ1) (pc + 3) L rest n1 rf1 τ1) : Sc K b kd ln nL Qf cells slots (if c < n ∧ kd c = ci then ccall f kt else none) pc L S n rf τ := by
  refine sc_ite (fun hg => ?_) (fun _ => sc_none)
  subst hS
  intro n' rf' τ' h H locs hP hz hSt ls hL
  obtain ⟨⟨n1, rf1, τ1⟩, h1, h2⟩ := Option.bind_eq_some_iff.mp h
  obtain ⟨w1, w2, w3, w4, w5, w6, w7⟩ := hw
  have hM1 := hM n1 rf1 τ1 h1 K.2.1 K.2.2.2.2.2.2.2.2.2.2.2.2.1 K.2.2.2.2.2.2.2.2.2.2.2.2.2.1 b
  obtain ⟨hx, hb1, hml, hown, hts, hR, hK, hN, hlk, hb, hAO⟩ := C
  have hrec : ∃ cellB : Cell, H[b + c]? = some cellB ∧ cellB.vm.isStatics = false ∧ K.2.2.2.2.1.vm.findClass nm.cls = some cellB.cls := by
    have hA := hP c hg.1
    unfold enC at hA
    rw [hg.2, if_pos h20] at hA
    obtain ⟨r, hr, cell, q1, q2, q3, q4⟩ := hA
    refine ⟨cell, q1, by rw [q3]; rfl, ?_⟩
    rw [q2]
    exact (hK.1 ci _ hci).2.1
  refine va_callv (va_runV (As := []) (rest := rest.map (cv _)) ⟨hx, hb1, hml, hown, hts⟩ hM1 (cwV (bytes := bytes) (maxL := nl) (ret := none) (ws' := lw_g) 0 hts ?_ rfl rfl rfl ⟨rfl, w5, w6, w7⟩ ?_) ⟨PpC.blind, hrec, fun U hU hW => ⟨rfl, by rw [hU]; exact hP, by rw [hU]; exact hz, SttC.warm hW ⟨hK, hN, hAO⟩⟩⟩ rfl rfl hL.1 rfl ?_ hd ⟨hcells, hslots⟩) hSt (fun q _ h => h) (fun q h => h) (fun u t H1 locs1 ht hvm hw9 hB hz1 hk1 hS1 => ?_)
  · intro w hw
    unfold wsV at hw
    rcases List.mem_append.mp hw with hw | hw
    · simp only [List.mem_cons, List.not_mem_nil, or_false] at hw
      rcases hw with rfl | rfl | rfl | rfl
      · exact ⟨hl, good_g hl⟩
      · exact ⟨w3, good_g w3⟩
      · exact ⟨w4, good_g w4⟩
      · exact ⟨w2, good_g w2⟩
    · exact goodIn_l rfl w1 w hw
  · exact ⟨Nat.le_trans hd'.1 hR.1, by have h1 := hR.2; have h2 := hd'.2; show 8 + (nl + 11) + 64 * d' ≤ _; omega⟩
  · show 2 * 0 + _ ≤ 8
    rw [cv_sum]
    omega
  · obtain ⟨hB1, hB2⟩ := hB
    rw [ht] at hB1 hB2
    exact k n1 rf1 τ1 n' rf' τ' h2 H1 locs1 hB1 hB2 hS1 ls hL
end ScC
theorem mcc_of {kd ln : Nat → Nat} {nm : MethodName} {bytes : ByteArray} {nL d mc ms : Nat} {as : List Value} {n : Nat} {rf : RF} {τ : Tau} {n' : Nat} {rf' : RF} {τ' : Tau} {f : O3} (hy : plainName nm.cls = true) (hl : (lg_sl as).length ≤ nL)
    (Wk : ∀ (K : Ctx) (b : Nat), Cc K b nm.cls bytes nL d → Rt K none → K.2.2.2.2.2.2.2.2.1.name = nm.name → K.2.2.2.1.cells = mc → K.2.2.2.1.slots = ms → Sc K b kd ln nL (Qc K b kd ln mc ms) 0 0 f 0 (lv_args 0 as) [] n rf τ) (hf : f = some (n', rf', τ')) : MCc kd ln nm bytes nL d mc ms as n rf τ n' rf' τ' := by
  intro l D cA b
  refine Met.ofW (cc := bytes) (maxL := nL) (ret := none) hy rfl ?_
  intro p e s m args below meth c s₁ B hml hv
  obtain ⟨rfl, hP, hz, hSt⟩ := hv
  have hts := atoms_spec (ws := .code nm bytes nL none :: lw_g) B.pre
  have W1 := Wk (p, l, e, (headSpec (.code nm bytes nL none :: lw_g) (rmC d mc ms)).room, s, m, (as.map (cv (sh b))).toArray, below, meth, c, 0, 0, D, cA, sh b) b ⟨B.exec, B.bytes, hml, findClass_of_methodNamed B.named, fun w hw => hts w (List.mem_cons_of_mem _ hw), ⟨Nat.le_refl _, Nat.le_refl _⟩, hSt.1, hSt.2.1, B.notSynchronized, by show b ≤ s.heap.size; omega, hSt.2.2⟩ B.returns (name_of_methodNamed B.named B.method).1 rfl rfl n' rf' τ' hf
  rw [lg_entry_eq]
  refine W1 s.heap [] hP hz va_S.rf _ ?_
  rw [args_map]
  exact lv_entry _ (by rw [sl_len]; exact hl)
