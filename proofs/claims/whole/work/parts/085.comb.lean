/-! combinators in which the methods are told, and their rules -/
theorem st_0 : ("BasketEnvoys$Reader", 29, "nods cries wins when or and not skill grief false trust thing says step shown ports day", 0) ∈ strW := List.mem_of_getElem? (i := 0) rfl
theorem st_1 : ("BasketEnvoys$Tokens", 71, ";+-*/()<=>", 1) ∈ strW := List.mem_of_getElem? (i := 1) rfl
theorem st_2 : ("BasketEnvoys$Reader", 104, "+-*/", 2) ∈ strW := List.mem_of_getElem? (i := 2) rfl
theorem st_3 : ("BasketEnvoys$Reader", 122, "power thing says", 3) ∈ strW := List.mem_of_getElem? (i := 3) rfl
theorem st_4 : ("BasketEnvoys$Reader", 124, "on send home gift mourn", 4) ∈ strW := List.mem_of_getElem? (i := 4) rfl
theorem st_5 : ("BasketEnvoys$Reader", 126, "power wants", 5) ∈ strW := List.mem_of_getElem? (i := 5) rfl
theorem st_6 : ("BasketEnvoysModel", 140, "when", 6) ∈ strW := List.mem_of_getElem? (i := 6) rfl
theorem st_7 : ("BasketEnvoysModel", 142, "or", 7) ∈ strW := List.mem_of_getElem? (i := 7) rfl
theorem st_8 : ("BasketEnvoysModel", 144, "and", 8) ∈ strW := List.mem_of_getElem? (i := 8) rfl
theorem st_9 : ("BasketEnvoysModel", 146, "not", 9) ∈ strW := List.mem_of_getElem? (i := 9) rfl
theorem st_10 : ("BasketEnvoysModel", 148, "nods", 10) ∈ strW := List.mem_of_getElem? (i := 10) rfl
theorem st_11 : ("BasketEnvoysModel", 150, "cries", 11) ∈ strW := List.mem_of_getElem? (i := 11) rfl
theorem st_12 : ("BasketEnvoysModel", 152, "wins", 12) ∈ strW := List.mem_of_getElem? (i := 12) rfl
theorem st_13 : ("BasketEnvoysModel", 116, "skill", 13) ∈ strW := List.mem_of_getElem? (i := 13) rfl
theorem st_14 : ("BasketEnvoysModel", 122, "grief", 14) ∈ strW := List.mem_of_getElem? (i := 14) rfl
theorem st_15 : ("BasketEnvoysModel", 124, "false", 15) ∈ strW := List.mem_of_getElem? (i := 15) rfl
theorem st_16 : ("BasketEnvoysModel", 126, "trust", 16) ∈ strW := List.mem_of_getElem? (i := 16) rfl
theorem st_17 : ("BasketEnvoysModel", 128, "thing", 17) ∈ strW := List.mem_of_getElem? (i := 17) rfl
theorem st_18 : ("BasketEnvoysModel", 130, "says", 18) ∈ strW := List.mem_of_getElem? (i := 18) rfl
theorem st_19 : ("BasketEnvoysModel", 132, "step", 19) ∈ strW := List.mem_of_getElem? (i := 19) rfl
theorem st_20 : ("BasketEnvoysModel", 134, "shown", 20) ∈ strW := List.mem_of_getElem? (i := 20) rfl
theorem st_21 : ("BasketEnvoysModel", 136, "ports", 21) ∈ strW := List.mem_of_getElem? (i := 21) rfl
theorem st_22 : ("BasketEnvoysModel", 138, "day", 22) ∈ strW := List.mem_of_getElem? (i := 22) rfl
theorem st_23 : ("BasketEnvoysModel", 173, "power", 23) ∈ strW := List.mem_of_getElem? (i := 23) rfl
theorem st_24 : ("BasketEnvoysModel", 157, "on", 24) ∈ strW := List.mem_of_getElem? (i := 24) rfl
theorem st_25 : ("BasketEnvoysModel", 159, "send", 25) ∈ strW := List.mem_of_getElem? (i := 25) rfl
theorem st_26 : ("BasketEnvoysModel", 161, "home", 26) ∈ strW := List.mem_of_getElem? (i := 26) rfl
theorem st_27 : ("BasketEnvoysModel", 163, "gift", 27) ∈ strW := List.mem_of_getElem? (i := 27) rfl
theorem st_28 : ("BasketEnvoysModel", 165, "mourn", 28) ∈ strW := List.mem_of_getElem? (i := 28) rfl
theorem st_29 : ("BasketEnvoysModel", 178, "wants", 29) ∈ strW := List.mem_of_getElem? (i := 29) rfl
def cal (x : Option (Int32 × Tau)) (k : Int32 → Tau → Option (Int32 × Tau)) : Option (Int32 × Tau) := x.bind fun q => k q.1 q.2
def pst (τ : Tau) (c j : Nat) (v : Int32) (k : Tau → Option (Int32 × Tau)) : Option (Int32 × Tau) := k (up τ c j v)
def ald (τ : Tau) (c n : Nat) (i : Int32) (k : Int32 → Option (Int32 × Tau)) : Option (Int32 × Tau) := if inb i n = true then k (τ c (ix i)) else none
def ast (τ : Tau) (c n : Nat) (i v : Int32) (k : Tau → Option (Int32 × Tau)) : Option (Int32 × Tau) := if inb i n = true then k (up τ c (ix i) v) else none
def gd (i : Int32) (n : Nat) (x : Option (Int32 × Tau)) : Option (Int32 × Tau) := if inb i n = true then x else none
def cpg (τ : Tau) (a b na nb : Nat) (n : Int32) (k : Tau → Option (Int32 × Tau)) : Option (Int32 × Tau) := if inb n (na + 1) = true ∧ inb n (nb + 1) = true ∧ na < 1000000 then k (cpy τ a b (ix n)) else none
def shl (a b : Int32) : Int32 := a <<< (b &&& 31)
def shr (a b : Int32) : Int32 := a >>> (b &&& 31)
def ushr (x n : Int32) : Int32 := (x.toUInt32 >>> (n.toUInt32 &&& Int32.toUInt32 31)).toInt32
def chr (x : Int32) : Int32 := (x.toUInt32 % 65536).toInt32
def rmd (u v : Int32) : Int32 := u - u / v * v
def lrmd (u v : Int64) : Int64 := u - u / v * v
def imax (a b : Int32) : Int32 := if a < b then b else a
def imin (a b : Int32) : Int32 := if b < a then b else a
def sLen (s : Nat) (τ : Tau) : Option (Int32 × Tau) := some (nI (sL s), τ)
def sChr (s : Nat) (k : Int32) (τ : Tau) : Option (Int32 × Tau) := if inb k (sL s) = true then some (sC s (ix k), τ) else none
def sIdxF (c : Int32) : List Nat → Nat → Int32
  | [], _ => -1
  | b :: l, k => if nI b = c then nI k else sIdxF c l (k + 1)
def sIdx (s : Nat) (c : Int32) (τ : Tau) : Option (Int32 × Tau) := some (sIdxF c (sB s) 0, τ)
theorem nar_boolean {v : Int32} : narrow .boolean (.int v) = .int (vp_nar .boolean v) := by simp [vp_nar, narrow]
theorem nar_char {v : Int32} : narrow .char (.int v) = .int (vp_nar .char v) := by simp [vp_nar, narrow]
theorem toInt_neZ {u w : Int32} {z : Int} (h : ¬ u = w) (hw : w.toInt = z) : u.toInt ≠ z := fun e => h (Int32.toInt_inj.mp (e.trans hw.symm))
theorem look_ne {x : Int32} {a o d : Int} {r : List (Int × Int)} (h : x.toInt ≠ a) : Op.lookupswitch.offset ((a, o) :: r) d x.toInt = Op.lookupswitch.offset r d x.toInt := by
  rw [Op.lookupswitch.offset_cons, if_neg]
  intro e
  exact h (by first | exact e | exact e.symm | simpa using e)
theorem tw_all : ∀ k, k < 6 → rfX 117 k = some (118 + 13 * k) ∧ kdX (118 + 13 * k) = 8 := by decide +kernel
theorem inb_lt {i : Int32} {n : Nat} (h : inb i n = true) : ix i < n := by
  simp only [inb, Bool.and_eq_true, decide_eq_true_eq] at h
  exact h.2
theorem tw_rf {i : Int32} (h : inb i 6 = true) : rfX 117 (ix i) = some (118 + 13 * ix i) := (tw_all _ (inb_lt h)).1
theorem tw_kd {i : Int32} (h : inb i 6 = true) : kdX (118 + 13 * ix i) = 8 := (tw_all _ (inb_lt h)).2
section Cb
variable {K : Ctx} {y : Sys} {nL d : Nat} {Qf : Int32 → Tau → State → Prop} {own : String} {cc : ByteArray} {τ : Tau} {pc : Nat} {L : List (Nat × Value)} {S : List Value} {i v : Int32} {c : Nat} {kt : Tau → Option (Int32 × Tau)} {ki : Int32 → Option (Int32 × Tau)}
theorem sm_pst (ci j : Nat) {N index : Nat} {Cn : String} {T : u_T} {ty : Nat → FieldType} (hC : Cls ci Cn T ty N) (C : Cx K y own cc nL d) (hc : c < y.1) (hk : y.2.1 c = ci) (hN : y.2.2.1 c = N) (hj : j < N) (hv : y.2.2.2 c j = none) (hf : (T j).2.2.2 = false) (hn : narrow (ty j) (.int v) = .int v) (hfit : fits (ty j) (.int v) = true)
    (hw : Jvm.Cond.fieldLink own index (T j).1 (T j).2.1 (T j).2.2.1 ∈ lw_g) (hd : decode cc pc = .ok (.putfield index, 3)) (k : ∀ τ1, Sm K y nL Qf (kt τ1) (pc + 3) L S τ1) : Sm K y nL Qf (pst τ c j v kt) pc L (.int v :: .ref c :: S) τ :=
  sm_putI ci j hC C hc hk hN hj hv hf hn hfit hw hd (k _)
theorem sm_ald (n : Nat) (C : Cx K y own cc nL d) (hc : c < y.1) (hk : y.2.1 c = 20) (hn : y.2.2.1 c = n) (hd : decode cc pc = .ok (.iaload, 1)) (k : ∀ v, Sm K y nL Qf (ki v) (pc + 1) L (.int v :: S) τ) : Sm K y nL Qf (ald τ c n i ki) pc L (.int i :: .ref c :: S) τ := sm_iald n C hc hk hn hd (k _)
theorem sm_ldz (n : Nat) (C : Cx K y own cc nL d) (hc : c < y.1) (hk : y.2.1 c = 21) (hn : y.2.2.1 c = n) (hd : decode cc pc = .ok (.baload, 1)) (k : ∀ v, Sm K y nL Qf (ki v) (pc + 1) L (.int v :: S) τ) : Sm K y nL Qf (ald τ c n i ki) pc L (.int i :: .ref c :: S) τ := sm_zald n C hc hk hn hd (k _)
theorem sm_ldc_ (n : Nat) (C : Cx K y own cc nL d) (hc : c < y.1) (hk : y.2.1 c = 22) (hn : y.2.2.1 c = n) (hd : decode cc pc = .ok (.caload, 1)) (k : ∀ v, Sm K y nL Qf (ki v) (pc + 1) L (.int v :: S) τ) : Sm K y nL Qf (ald τ c n i ki) pc L (.int i :: .ref c :: S) τ := sm_cald n C hc hk hn hd (k _)
theorem sm_ast (n : Nat) (C : Cx K y own cc nL d) (hc : c < y.1) (hk : y.2.1 c = 20) (hn : y.2.2.1 c = n) (hd : decode cc pc = .ok (.iastore, 1)) (k : ∀ τ1, Sm K y nL Qf (kt τ1) (pc + 1) L S τ1) : Sm K y nL Qf (ast τ c n i v kt) pc L (.int v :: .int i :: .ref c :: S) τ := sm_iast n C hc hk hn hd (k _)
theorem sm_astz (n : Nat) (C : Cx K y own cc nL d) (hc : c < y.1) (hk : y.2.1 c = 21) (hn : y.2.2.1 c = n) (hd : decode cc pc = .ok (.bastore, 1)) (k : ∀ τ1, Sm K y nL Qf (kt τ1) (pc + 1) L S τ1) : Sm K y nL Qf (ast τ c n i (vp_nar .boolean v) kt) pc L (.int v :: .int i :: .ref c :: S) τ := sm_zast n C hc hk hn hd (k _)
theorem sm_astc (n : Nat) (C : Cx K y own cc nL d) (hc : c < y.1) (hk : y.2.1 c = 22) (hn : y.2.2.1 c = n) (hd : decode cc pc = .ok (.castore, 1)) (k : ∀ τ1, Sm K y nL Qf (kt τ1) (pc + 1) L S τ1) : Sm K y nL Qf (ast τ c n i (vp_nar .char v) kt) pc L (.int v :: .int i :: .ref c :: S) τ := sm_cast n C hc hk hn hd (k _)
theorem inb_nI {n : Int32} {m : Nat} (h : inb n (m + 1) = true) (hm : m < 1000000) : n = nI (ix n) ∧ ix n ≤ m := by
  have h2 := inb_lt h
  simp only [inb, Bool.and_eq_true, decide_eq_true_eq] at h
  obtain ⟨j, hj, rfl⟩ := nI_of (x := n) (Int32.not_lt.mpr h.1)
  have e : ix (nI j) = j := nI_clamp hj
  exact ⟨by rw [e], by omega⟩
theorem sm_cpg (a b na nb : Nat) {index : Nat} (C : Cx K y own cc nL d) (h1 : 1 ≤ d) (ha : a < y.1) (hka : y.2.1 a = 20) (hna : y.2.2.1 a = na) (hb : b < y.1) (hkb : y.2.1 b = 20) (hnb : y.2.2.1 b = nb)
    (hl : Cond.methodLink own index arraycopyName ∈ lw_g) (hnat : Cond.native arraycopyName ∈ lw_g) (hs : Cond.static arraycopyName ∈ lw_g) (hi : Cond.initialized "java/lang/System" ∈ lw_g) (hrest : (S.map fun v => v.category).sum ≤ 8) (hd : decode cc pc = .ok (.invokestatic index, 3))
    (k : ∀ τ1, Sm K y nL Qf (kt τ1) (pc + 3) L S τ1) : Sm K y nL Qf (cpg τ a b na nb v kt) pc L (.int v :: .int 0 :: .ref b :: .int 0 :: .ref a :: S) τ := by
  unfold cpg
  refine sm_ite (fun h => ?_) (fun _ => sm_none)
  obtain ⟨g1, g2, g3⟩ := h
  obtain ⟨e1, e2⟩ := inb_nI g1 g3
  have h4 := inb_lt g2
  exact sm_copy a b na nb (ix v) C h1 ha hka hna hb hkb hnb e1 (by omega) e2 (by omega) hl hnat hs hi hrest hd (k _)
end Cb
section Cc
variable {K : Ctx} {y : Sys} {nL d : Nat} {Qf : Int32 → Tau → State → Prop} {own : String} {cc : ByteArray} {τ : Tau} {pc : Nat} {L : List (Nat × Value)} {S : List Value} {nm : MethodName} {bytes : ByteArray} {n np d' index : Nat} {ret : Option FieldType} {f : Option (Int32 × Tau)} {k : Int32 → Tau → Option (Int32 × Tau)} {b ci : Nat} {T : u_T} {N : Nat}
theorem sm_vcal (as rest : List Value) (hS : as.reverse ++ .ref b :: rest = S) (C : Cx K y own cc nL d) (hw : MWv nm bytes n ret np) (hl : Cond.methodLink own index nm ∈ lw_g) (hnp : as.length = np) (hci : vwCl[ci]? = some (nm.cls, T, N)) (hb : b < y.1) (hk : y.2.1 b = ci) (h20 : ci < 20) (hd' : d' + 1 ≤ d ∧ 19 + n + 64 * d' ≤ 64 * d) (hrest : (rest.map fun v => v.category).sum ≤ 8) (hd : decode cc pc = .ok (.invokevirtual index, 3))
    (hM : ∀ r τ', f = some (r, τ') → MCi y nm bytes n ret d' (.ref b :: as) τ r τ') (hk2 : ∀ r τ', Sm K y nL Qf (k r τ') (pc + 3) L (.int r :: rest) τ') : Sm K y nL Qf (cal f k) pc L S τ :=
  sm_virt as rest hS C hw hl hnp hci hb hk h20 hd' hrest hd hM (fun r τ' _ => hk2 r τ')
theorem sm_vcalv (as rest : List Value) (hS : as.reverse ++ .ref b :: rest = S) (C : Cx K y own cc nL d) (hw : MWv nm bytes n none np) (hl : Cond.methodLink own index nm ∈ lw_g) (hnp : as.length = np) (hci : vwCl[ci]? = some (nm.cls, T, N)) (hb : b < y.1) (hk : y.2.1 b = ci) (h20 : ci < 20) (hd' : d' + 1 ≤ d ∧ 19 + n + 64 * d' ≤ 64 * d) (hrest : (rest.map fun v => v.category).sum ≤ 8) (hd : decode cc pc = .ok (.invokevirtual index, 3))
    (hM : ∀ r τ', f = some (r, τ') → MCv y nm bytes n d' (.ref b :: as) τ τ') (hk2 : ∀ r τ', Sm K y nL Qf (k r τ') (pc + 3) L rest τ') : Sm K y nL Qf (cal f k) pc L S τ :=
  sm_virtv as rest hS C hw hl hnp hci hb hk h20 hd' hrest hd hM (fun r τ' _ => hk2 r τ')
theorem sm_scal (as rest : List Value) (hS : as.reverse ++ rest = S) (C : Cx K y own cc nL d) (hw : MWs nm bytes n ret np) (hl : Cond.methodLink own index nm ∈ lw_g) (hnp : as.length = np) (hd' : d' + 1 ≤ d ∧ 19 + n + 64 * d' ≤ 64 * d) (hrest : (rest.map fun v => v.category).sum ≤ 8) (hd : decode cc pc = .ok (.invokestatic index, 3))
    (hM : ∀ r τ', f = some (r, τ') → MCi y nm bytes n ret d' as τ r τ') (hk2 : ∀ r τ', Sm K y nL Qf (k r τ') (pc + 3) L (.int r :: rest) τ') : Sm K y nL Qf (cal f k) pc L S τ :=
  sm_stat as rest hS C hw hl hnp hd' hrest hd hM (fun r τ' _ => hk2 r τ')
theorem sm_scalv (as rest : List Value) (hS : as.reverse ++ rest = S) (C : Cx K y own cc nL d) (hw : MWs nm bytes n none np) (hl : Cond.methodLink own index nm ∈ lw_g) (hnp : as.length = np) (hd' : d' + 1 ≤ d ∧ 19 + n + 64 * d' ≤ 64 * d) (hrest : (rest.map fun v => v.category).sum ≤ 8) (hd : decode cc pc = .ok (.invokestatic index, 3))
    (hM : ∀ r τ', f = some (r, τ') → MCv y nm bytes n d' as τ τ') (hk2 : ∀ r τ', Sm K y nL Qf (k r τ') (pc + 3) L rest τ') : Sm K y nL Qf (cal f k) pc L S τ :=
  sm_statv as rest hS C hw hl hnp hd' hrest hd hM (fun r τ' _ => hk2 r τ')
theorem sm_ncal (host : String) (as rest : List Value) (hS : as.reverse ++ rest = S) (C : Cx K y own cc nL d) (hw : MWs nm bytes n ret np) (hl : Cond.methodLinkNest own index nm host ∈ nestW) (hnp : as.length = np) (hd' : d' + 1 ≤ d ∧ 19 + n + 64 * d' ≤ 64 * d) (hrest : (rest.map fun v => v.category).sum ≤ 8) (hd : decode cc pc = .ok (.invokestatic index, 3))
    (hM : ∀ r τ', f = some (r, τ') → MCi y nm bytes n ret d' as τ r τ') (hk2 : ∀ r τ', Sm K y nL Qf (k r τ') (pc + 3) L (.int r :: rest) τ') : Sm K y nL Qf (cal f k) pc L S τ :=
  sm_nest host as rest hS C hw hl hnp hd' hrest hd hM (fun r τ' _ => hk2 r τ')
theorem sm_ncalv (host : String) (as rest : List Value) (hS : as.reverse ++ rest = S) (C : Cx K y own cc nL d) (hw : MWs nm bytes n none np) (hl : Cond.methodLinkNest own index nm host ∈ nestW) (hnp : as.length = np) (hd' : d' + 1 ≤ d ∧ 19 + n + 64 * d' ≤ 64 * d) (hrest : (rest.map fun v => v.category).sum ≤ 8) (hd : decode cc pc = .ok (.invokestatic index, 3))
    (hM : ∀ r τ', f = some (r, τ') → MCv y nm bytes n d' as τ τ') (hk2 : ∀ r τ', Sm K y nL Qf (k r τ') (pc + 3) L rest τ') : Sm K y nL Qf (cal f k) pc L S τ :=
  sm_nestv host as rest hS C hw hl hnp hd' hrest hd hM (fun r τ' _ => hk2 r τ')
end Cc
