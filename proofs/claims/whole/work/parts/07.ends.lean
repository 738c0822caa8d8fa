/-! answers, whole methods, members of the JDK with rows of their own -/
section Nr
variable {p : Program} {l : Launch} {e : Env} {R : Room} {s : State} {m : MethodId} {args : Array Value} {below : List Frame} {meth : Method} {c : Code} {H : Heap} {locs : List Loc} {cells slots : Nat} {Q : State → Prop}
theorem w_nret {cc : ByteArray} {Qc : Array Value → State → Outcome → State → Prop} {free : Addr → Prop} {v v' : Int32} {ty : FieldType} (hexec : p.tables.exec = Jvm.exec) (hb : c.code = cc) (hr : meth.sig.returnType = some ty) (hn : narrow ty (.int v) = .int v')
    (hq : ∀ t : State, t.heap = H → s.WarmedH t.vm → Qc args s (.returned (some (.int v'))) t) (hf : ∀ q ∈ locs, free q.base)
    {pc : Nat} {ls : Array Slot} (hdg : decode cc pc = .ok (.ireturn, 1)) (hlocks : meth.locks = false) : W p l e R s m args below meth c H locs cells slots (MQ below Qc args s cells slots free) (F0 m pc ls [.int v]) := by
  intro T hT X
  have hlocks : meth.locks = false := hlocks
  obtain ⟨fs, hret, hrun, hended, hW, hframe⟩ := X.leave (v := some (.int v')) (fun h => by rw [hr] at h; cases h)
  have hmeth' : T.vm.method? m = some meth := X.method'
  refine ⟨T.setFrames fs, ?_, .returned (some (.int v')), hrun, hended, hq _ hT hW, locs, ⟨⟨_, rfl⟩, hW, hframe⟩, hf⟩
  jvm_step X.here [X.here.top, hexec, hb, hdg, hmeth', hr, hn]
  (try refine ⟨rfl, ?_⟩); (try refine ⟨rfl, ?_⟩)
  first | (intro acts; rw [hret _ acts rfl rfl rfl]) | rw [hret _ _ rfl rfl rfl]
  exact Steps.refl _
end Nr
def Rt (K : Ctx) (ret : Option FieldType) : Prop := K.2.2.2.2.2.2.2.2.1.sig.returnType = ret
section En
variable {K : Ctx} {y : Sys} {nL d : Nat} {Qf : Int32 → Tau → State → Prop} {own : String} {cc : ByteArray} {τ : Tau} {pc : Nat} {L : List (Nat × Value)} {S : List Value} {u v : Int32} {x : Option (Int32 × Tau)} {index : Nat}
theorem sm_iret {ty : FieldType} (C : Cx K y own cc nL d) (hr : Rt K (some ty)) (hn : narrow ty (.int u) = .int v) (hd : decode cc pc = .ok (.ireturn, 1)) : Sm K y nL (Qi K y) (some (v, τ)) pc L [.int u] τ := by
  intro r τ' h H locs ls hL hP hS
  cases h
  exact w_nret C.1 C.2.1 hr hn (fun t ht hW => ⟨⟨v, τ, rfl, ⟨rfl, rfl⟩, by unfold Bp; rw [ht]; exact hP⟩, hS.F ht⟩) hS.2.2 hd C.2.2.2.2.2.2.2
theorem sm_vret {w : Int32} (C : Cx K y own cc nL d) (hr : Rt K none) (hd : decode cc pc = .ok (.return_, 1)) : Sm K y nL (Qv K y) (some (w, τ)) pc L [] τ := by
  intro r τ' h H locs ls hL hP hS
  cases h
  exact W.vret C.1 C.2.1 hr (fun t ht hW => ⟨⟨τ, rfl, rfl, by unfold Bp; rw [ht]; exact hP⟩, hS.F ht⟩) hS.2.2 hd C.2.2.2.2.2.2.2
theorem sm_max (C : Cx K y own cc nL d) (h1 : 1 ≤ d) (hl : Cond.methodLink own index Lib.Math.max.name ∈ lw_g) (hs : Cond.static Lib.Math.max.name ∈ lw_g) (hi : Cond.initialized "java/lang/Math" ∈ lw_g) (hc : Cond.code Lib.Math.max.name Lib.Math.max.code 2 (some .int) ∈ lw_g) (hrest : (S.map fun v => v.category).sum ≤ 8) (hd : decode cc pc = .ok (.invokestatic index, 3)) (k : Sm K y nL Qf x (pc + 3) L (.int (if u < v then v else u) :: S) τ) : Sm K y nL Qf x pc L (.int v :: .int u :: S) τ :=
  fun r τ' h H locs ls hL hP hS => va_mmax C.1 C.2.1 (C.2.2.1.trans hL.1.symm) C.2.2.2.1 (C.2.2.2.2.1 _ hl) (C.2.2.2.2.1 _ hs) (C.2.2.2.2.1 _ hi) (C.2.2.2.2.1 _ hc) (Nat.le_trans h1 C.2.2.2.2.2.1.1) (by have := C.2.2.2.2.2.1.2.1; rw [cv_sum]; omega) C.2.2.2.2.2.1.2.2.1 C.2.2.2.2.2.1.2.2.2 hd (k r τ' h H locs ls hL hP hS)
theorem sm_min (C : Cx K y own cc nL d) (h1 : 1 ≤ d) (hl : Cond.methodLink own index Lib.Math.min.name ∈ lw_g) (hs : Cond.static Lib.Math.min.name ∈ lw_g) (hi : Cond.initialized "java/lang/Math" ∈ lw_g) (hc : Cond.code Lib.Math.min.name Lib.Math.min.code 2 (some .int) ∈ lw_g) (hrest : (S.map fun v => v.category).sum ≤ 8) (hd : decode cc pc = .ok (.invokestatic index, 3)) (k : Sm K y nL Qf x (pc + 3) L (.int (if v < u then v else u) :: S) τ) : Sm K y nL Qf x pc L (.int v :: .int u :: S) τ :=
  fun r τ' h H locs ls hL hP hS => va_mmin C.1 C.2.1 (C.2.2.1.trans hL.1.symm) C.2.2.2.1 (C.2.2.2.2.1 _ hl) (C.2.2.2.2.1 _ hs) (C.2.2.2.2.1 _ hi) (C.2.2.2.2.1 _ hc) (Nat.le_trans h1 C.2.2.2.2.2.1.1) (by have := C.2.2.2.2.2.1.2.1; rw [cv_sum]; omega) C.2.2.2.2.2.1.2.2.1 C.2.2.2.2.2.1.2.2.2 hd (k r τ' h H locs ls hL hP hS)
/-- tables of a switch: inside, by its place -/
theorem sm_tabIn {dflt lo hi : Int} {offs : Array Int} {len : Nat} {off : Int} (tgt : Nat) (C : Cx K y own cc nL d) (hd : decode cc pc = .ok (.tableswitch dflt lo hi offs, len)) (h1 : ¬ u.toInt < lo) (h2 : ¬ hi < u.toInt) (ho : offs[(u.toInt - lo).toNat]? = some off) (ht : (pc : Int) + off = (tgt : Int)) (k : Sm K y nL Qf x tgt L S τ) : Sm K y nL Qf x pc L (.int u :: S) τ :=
  fun r τ' h H locs ls hL hP hS => lv_tableIn C.1 C.2.1 hd h1 h2 ho ht (k r τ' h H locs ls hL hP hS)
theorem sm_tabOut {dflt lo hi : Int} {offs : Array Int} {len : Nat} (tgt : Nat) (C : Cx K y own cc nL d) (hd : decode cc pc = .ok (.tableswitch dflt lo hi offs, len)) (h1 : u.toInt < lo ∨ hi < u.toInt) (ht : (pc : Int) + dflt = (tgt : Int)) (k : Sm K y nL Qf x tgt L S τ) : Sm K y nL Qf x pc L (.int u :: S) τ :=
  fun r τ' h H locs ls hL hP hS => lv_tableOut C.1 C.2.1 hd h1 ht (k r τ' h H locs ls hL hP hS)
theorem sm_look {dflt : Int} {ps : Array (Int × Int)} {len : Nat} {off : Int} (tgt : Nat) (C : Cx K y own cc nL d) (hd : decode cc pc = .ok (.lookupswitch dflt ps, len)) (hp : (ps.toList.zip (ps.toList.drop 1)).all (fun (a, next) => a.1 < next.1) = true) (ho : Op.lookupswitch.offset ps.toList dflt u.toInt = off) (ht : (pc : Int) + off = (tgt : Int)) (k : Sm K y nL Qf x tgt L S τ) : Sm K y nL Qf x pc L (.int u :: S) τ :=
  fun r τ' h H locs ls hL hP hS => lv_lookup C.1 C.2.1 hd hp ho ht (k r τ' h H locs ls hL hP hS)
theorem toInt_ne {u w : Int32} (h : ¬ u = w) : u.toInt ≠ w.toInt := fun e => h (Int32.toInt_inj.mp e)
/-- System.arraycopy between int arrays from 0 to 0 -/
def cpy (t : Tau) (a b n : Nat) : Tau := fun c j => if c = b ∧ j < n then t a j else t c j
end En
theorem args_map (ρ : Nat → Nat) : ∀ (as : List Value) (i : Nat), (lv_args i as).map (fun q => (q.1, cv ρ q.2)) = lv_args i (as.map (cv ρ))
  | [], _ => rfl
  | v :: vs, i => by
    simp only [lv_args, List.map_cons, cv_cat, args_map ρ vs]
theorem sl_len (ρ : Nat → Nat) : ∀ (as : List Value), (lg_sl (as.map (cv ρ))).length = (lg_sl as).length
  | [] => rfl
  | v :: vs => by
    have h := sl_len ρ vs
    unfold lg_sl at h ⊢
    rw [List.map_cons, List.flatMap_cons, List.flatMap_cons, List.length_append, List.length_append, h, cv_cat]
    by_cases e : v.category = 2
    · rw [if_pos e, if_pos e]; rfl
    · rw [if_neg e, if_neg e]; rfl
/-- a method is proved by its walk -/
theorem mci_of {y : Sys} {nm : MethodName} {bytes : ByteArray} {n : Nat} {ret : Option FieldType} {d : Nat} {as : List Value} {τ : Tau} {f : Option (Int32 × Tau)} {r : Int32} {τ' : Tau} (hy : plainName nm.cls = true) (hl : (lg_sl as).length ≤ n)
    (Wk : ∀ K : Ctx, Cx K y nm.cls bytes n d → Rt K ret → Sm K y n (Qi K y) f 0 (lv_args 0 as) [] τ) (hf : f = some (r, τ')) : MCi y nm bytes n ret d as τ r τ' := by
  intro l D cA ρ
  refine Met.ofW (cc := bytes) (maxL := n) (ret := ret) hy rfl ?_
  intro p e s m args below meth c s₁ B hml hv
  obtain ⟨rfl, hP, hSt⟩ := hv
  have hts := atoms_spec (ws := .code nm bytes n ret :: lw_g) B.pre
  have W1 := Wk (p, l, e, (headSpec (.code nm bytes n ret :: lw_g) (rmD d)).room, s, m, (as.map (cv ρ)).toArray, below, meth, c, 0, 0, D, cA, ρ) ⟨B.exec, B.bytes, hml, findClass_of_methodNamed B.named, fun w hw => hts w (List.mem_cons_of_mem _ hw), ⟨Nat.le_refl _, Nat.le_refl _, Nat.zero_le _, Nat.zero_le _⟩, hSt, B.notSynchronized⟩ B.returns r τ' hf
  rw [lg_entry_eq]
  refine W1 s.heap [] _ ?_ hP va_S.rf
  rw [args_map]
  exact lv_entry _ (by rw [sl_len]; exact hl)
theorem mcv_of {y : Sys} {nm : MethodName} {bytes : ByteArray} {n d : Nat} {as : List Value} {τ : Tau} {f : Option (Int32 × Tau)} {r : Int32} {τ' : Tau} (hy : plainName nm.cls = true) (hl : (lg_sl as).length ≤ n)
    (Wk : ∀ K : Ctx, Cx K y nm.cls bytes n d → Rt K none → Sm K y n (Qv K y) f 0 (lv_args 0 as) [] τ) (hf : f = some (r, τ')) : MCv y nm bytes n d as τ τ' := by
  intro l D cA ρ
  refine Met.ofW (cc := bytes) (maxL := n) (ret := none) hy rfl ?_
  intro p e s m args below meth c s₁ B hml hv
  obtain ⟨rfl, hP, hSt⟩ := hv
  have hts := atoms_spec (ws := .code nm bytes n none :: lw_g) B.pre
  have W1 := Wk (p, l, e, (headSpec (.code nm bytes n none :: lw_g) (rmD d)).room, s, m, (as.map (cv ρ)).toArray, below, meth, c, 0, 0, D, cA, ρ) ⟨B.exec, B.bytes, hml, findClass_of_methodNamed B.named, fun w hw => hts w (List.mem_cons_of_mem _ hw), ⟨Nat.le_refl _, Nat.le_refl _, Nat.zero_le _, Nat.zero_le _⟩, hSt, B.notSynchronized⟩ B.returns r τ' hf
  rw [lg_entry_eq]
  refine W1 s.heap [] _ ?_ hP va_S.rf
  rw [args_map]
  exact lv_entry _ (by rw [sl_len]; exact hl)
section Cpy
variable {K : Ctx} {y : Sys} {nL d : Nat} {Qf : Int32 → Tau → State → Prop} {own : String} {cc : ByteArray} {τ : Tau} {pc : Nat} {L : List (Nat × Value)} {S : List Value} {x : Option (Int32 × Tau)} {index : Nat}
theorem wl_eq {cA : Nat → ClassId} {ρ : Nat → Nat} {y : Sys} {t t2 : Tau} {c : Nat} {v : va_E} (h : c < y.1) (ho : ∀ a, a ≠ c → t2 a = t a) (e : en cA ρ y t2 c = v) : (wl cA ρ y t).set c (ρ c, v) = wl cA ρ y t2 := by
  apply List.ext_getElem?
  intro i
  rw [List.getElem?_set]
  by_cases hi : c = i
  · subst hi
    have hl : c < (wl cA ρ y t).length := by simp [wl, h]
    rw [if_pos rfl, if_pos hl, wl_at h, e]
  · rw [if_neg hi]
    by_cases hn : i < y.1
    · rw [wl_at hn, wl_at hn]
      unfold en
      rw [ho i (Ne.symm hi)]
    · have h1 : (wl cA ρ y t).length ≤ i := by simp [wl]; omega
      have h2 : (wl cA ρ y t2).length ≤ i := by simp [wl]; omega
      rw [List.getElem?_eq_none h1, List.getElem?_eq_none h2]
theorem sm_copy (a b na nb n : Nat) {v : Int32} (C : Cx K y own cc nL d) (h1 : 1 ≤ d) (ha : a < y.1) (hka : y.2.1 a = 20) (hna : y.2.2.1 a = na) (hb : b < y.1) (hkb : y.2.1 b = 20) (hnb : y.2.2.1 b = nb) (hv : v = nI n) (hn : n < 2 ^ 31) (h2 : n ≤ na) (h3 : n ≤ nb)
    (hl : Cond.methodLink own index arraycopyName ∈ lw_g) (hnat : Cond.native arraycopyName ∈ lw_g) (hs : Cond.static arraycopyName ∈ lw_g) (hi : Cond.initialized "java/lang/System" ∈ lw_g) (hrest : (S.map fun v => v.category).sum ≤ 8) (hd : decode cc pc = .ok (.invokestatic index, 3))
    (k : Sm K y nL Qf x (pc + 3) L S (cpy τ a b n)) : Sm K y nL Qf x pc L (.int v :: .int 0 :: .ref b :: .int 0 :: .ref a :: S) τ := by
  subst hv
  intro r τ' h H locs ls hL hP hS
  have c0 : (0 : Int32).toNatClampNeg = 0 := by decide
  have c1 : (nI n).toNatClampNeg = n := nI_clamp hn
  refine va_copyi (f := τ a) (g := τ b) (ty := .int) C.1 C.2.1 (C.2.2.1.trans hL.1.symm) C.2.2.2.1 (C.2.2.2.2.1 _ hl) (C.2.2.2.2.1 _ hnat) (C.2.2.2.2.1 _ hs) (C.2.2.2.2.1 _ hi) C.2.2.2.2.2.2.1.1 hP (wl_D C.2.2.2.2.2.2.1.2.1) hS a b 0 0 (by rw [wl_at ha, en_arr hka (by decide) (by decide) hna]) (by rw [wl_at hb, en_arr hkb (by decide) (by decide) hnb]) rfl rfl rfl (by decide) (by decide) (nI_pos hn) (by rw [c0, c1]; omega) (by rw [c0, c1]; omega) (fun _ _ => rfl) (Nat.le_trans h1 C.2.2.2.2.2.1.1) ?_ hd (fun H1 locs1 hP1 _ hS1 => k r τ' h H1 locs1 ls hL ?_ hS1)
  · have h9 := C.2.2.2.2.2.1.2.1
    rw [cv_sum]
    have e : nativeFrameWords "java/lang/System" "arraycopy" 5 ≤ 40 := by decide
    omega
  · rw [wl_eq (t2 := cpy τ a b n) hb (fun c hc => by funext j; simp [cpy, hc]) (by
      rw [en_arr hkb (by decide) (by decide) hnb, c0, c1]
      congr 4
      funext j
      simp [cpy, va_cpy])] at hP1
    exact hP1
end Cpy
