/-! the making of a system: arrays, fields, calls -/
def cnewa (kd ln : Nat → Nat) (ty : Nat) (v : Int32) (m : Nat) (n : Nat) (rf : RF) (τ : Tau) (k : Nat → RF → Tau → O3) : O3 := if kd n = ty ∧ ln n = m ∧ v = nI m ∧ m < 100000 then k (n + 1) (nC rf n (fun _ => 0)) (zC τ n) else none
def cnewq (kd ln : Nat → Nat) (m : Nat) (n : Nat) (rf : RF) (τ : Tau) (k : Nat → RF → Tau → O3) : O3 := if kd n = 23 ∧ ln n = m ∧ m < 100000 then k (n + 1) (nC rf n (fun _ => 1)) (zC τ n) else none
def cputR (kd ln : Nat → Nat) (ci N c j q : Nat) (n : Nat) (rf : RF) (τ : Tau) (k : Nat → RF → Tau → O3) : O3 := if c < n ∧ kd c = ci ∧ ln c = N then k n (uC rf c j (q + 2)) τ else none
def cputI (kd ln : Nat → Nat) (ci N c j : Nat) (v : Int32) (n : Nat) (rf : RF) (τ : Tau) (k : Nat → RF → Tau → O3) : O3 := if c < n ∧ kd c = ci ∧ ln c = N then k n (uC rf c j 0) (up τ c j v) else none
def cgetR (kd ln : Nat → Nat) (ci N c j q : Nat) (n : Nat) (rf : RF) (_ : Tau) (x : O3) : O3 := if c < n ∧ kd c = ci ∧ ln c = N ∧ rf c j = q + 2 then x else none
def casti (kd ln : Nat → Nat) (c m : Nat) (i v : Int32) (n : Nat) (rf : RF) (τ : Tau) (k : Nat → RF → Tau → O3) : O3 := if c < n ∧ kd c = 20 ∧ ln c = m ∧ inb i m = true then k n rf (up τ c (ix i) v) else none
def castq (kd ln : Nat → Nat) (c m : Nat) (i : Int32) (q : Nat) (n : Nat) (rf : RF) (τ : Tau) (k : Nat → RF → Tau → O3) : O3 := if c < n ∧ kd c = 23 ∧ ln c = m ∧ inb i m = true ∧ q < n ∧ kd q = 8 then k n (uC rf c (ix i) (q + 2)) τ else none
def ccall (x : O3) (k : Nat → RF → Tau → O3) : O3 := x.bind fun q => k q.1 q.2.1 q.2.2
section ScA
variable {K : Ctx} {b : Nat} {kd ln : Nat → Nat} {nL d : Nat} {Qf : Nat → RF → Tau → State → Prop} {own : String} {cc : ByteArray} {cells slots pc : Nat} {L : List (Nat × Value)} {S : List Value} {n : Nat} {rf : RF} {τ : Tau} {x : O3} {index : Nat} {kt : Nat → RF → Tau → O3}
theorem sc_newa (ty t0 m : Nat) {ft : FieldType} {atype : ArrayType} {v : Int32} (hat : newarray.typeOf atype = ft) (ht : ∀ cA, (tysL cA)[t0]? = some (cA ty, ft)) (h20 : ¬ ty < 20) (h23 : ¬ ty = 23) (hdf : defaultValue ft = .int 0) (hRA : ∀ (U : State) (cA : ClassId), va_RA U cA ft → U.vm.findClass ("[" ++ ft.toString) = some cA) (hby : m * componentBytes ft ≤ 536870912) (C : Cc K b own cc nL d) (harr : Cond.arrayClass ft ∈ lw_g) (hcells : cells + 1 ≤ K.2.2.2.1.cells) (hslots : slots + m ≤ K.2.2.2.1.slots) (hd : decode cc pc = .ok (.newarray atype, 2))
    (k : ∀ n1 rf1 τ1, Sc K b kd ln nL Qf (cells + 1) (slots + m) (kt n1 rf1 τ1) (pc + 2) L (.ref n :: S) n1 rf1 τ1) : Sc K b kd ln nL Qf cells slots (cnewa kd ln ty v m n rf τ kt) pc L (.int v :: S) n rf τ := by
  unfold cnewa
  refine sc_ite (fun hkd => ?_) (fun _ => sc_none)
  obtain ⟨k1, k2, rfl, k4⟩ := hkd
  subst hat
  intro n' rf' τ' h H locs hP hz hS ls hL
  refine va_newaK C.1 C.2.1 (C.2.2.2.2.1 _ harr) rfl hd rfl (nI_pos (by omega)) (nI_clamp (by omega)) hby hcells hslots hz fun H1 cA e1 z1 o1 hAr hNm => ?_
  have hcA : cA = K.2.2.2.2.2.2.2.2.2.2.2.2.2.1 ty := by
    have h1 := hRA _ _ (C.2.2.2.2.2.2.1.2 t0 _ (ht _)).2
    exact Option.some.inj (hNm.symm.trans h1)
  subst hcA
  have hP1 : PC K.2.2.2.2.2.2.2.2.2.2.2.2.1 K.2.2.2.2.2.2.2.2.2.2.2.2.2.1 b kd ln (n + 1) (nC rf n (fun _ => 0)) (zC τ n) H1 := by
    refine hP.push hz (fun q hq => o1 q (by rw [← hz]; exact hq)) (fun k hk => ⟨nC_ne (Nat.ne_of_lt hk), zC_ne (Nat.ne_of_lt hk)⟩) ?_
    unfold enC
    rw [k1, if_neg h20, if_neg h23, k2]
    show H1[b + n]? = some (vp_cell _ _)
    rw [e1, vp_cell_i, hdf]
    have e3 : ∀ j, zC τ n n j = 0 := fun j => by simp [zC]
    simp only [e3]
  exact k _ _ _ n' rf' τ' h H1 locs hP1 (by omega) ⟨Nat.le_trans hS.1 (by omega), fun q q1 q2 => (o1 q (by have := hS.1; omega)).trans (hS.2.1 q q1 q2), hS.2.2⟩ ls hL
theorem sc_newq (m : Nat) {v : Int32} (hv : v = nI m) (C : Cc K b own cc nL d) (hcl : Cond.classLink own index "BasketEnvoys$Town" ∈ lw_g) (hcells : cells + 1 ≤ K.2.2.2.1.cells) (hslots : slots + m ≤ K.2.2.2.1.slots) (hd : decode cc pc = .ok (.anewarray index, 3))
    (k : ∀ n1 rf1 τ1, Sc K b kd ln nL Qf (cells + 1) (slots + m) (kt n1 rf1 τ1) (pc + 3) L (.ref n :: S) n1 rf1 τ1) : Sc K b kd ln nL Qf cells slots (cnewq kd ln m n rf τ kt) pc L (.int v :: S) n rf τ := by
  unfold cnewq
  refine sc_ite (fun hkd => ?_) (fun _ => sc_none)
  obtain ⟨k1, k2, k4⟩ := hkd
  subst hv
  intro n' rf' τ' h H locs hP hz hS ls hL
  have hcl1 : (nI m).toNatClampNeg = m := nI_clamp (by omega)
  refine W.anew C.1 C.2.1 C.2.2.2.1 (C.2.2.2.2.1 _ hcl) (va_AO.use C.2.2.2.2.2.2.2.2.2.2) rfl hd rfl (nI_pos (by omega)) (by rw [hcl1]; omega) hcells (by rw [hcl1]; exact hslots) fun cA kA comp f1 f2 f3 f4 => ?_
  rw [hcl1, hz]
  generalize hH1 : H.push ({ cls := cA, slots := Array.replicate m .null, vm := .none } : Cell) = H1
  have z1 : H1.size = H.size + 1 := by rw [← hH1, Array.size_push]
  have e1 : H1[H.size]? = some (arrV cA m (fun _ => .null)) := by rw [← hH1, Array.getElem?_push_size, ← arrV_new]
  have o1 : ∀ q : Nat, q < H.size → H1[q]? = H[q]? := fun q hq => by rw [← hH1, Array.getElem?_push, if_neg (Nat.ne_of_lt hq)]
  have hcA : cA = K.2.2.2.2.2.2.2.2.2.2.2.2.2.1 23 := by
    obtain ⟨kA', comp', q1, q2, q3, q4⟩ := (C.2.2.2.2.2.2.1.2 3 _ rfl).2
    exact Option.some.inj (f1.symm.trans q4)
  subst hcA
  have hP1 : PC K.2.2.2.2.2.2.2.2.2.2.2.2.1 K.2.2.2.2.2.2.2.2.2.2.2.2.2.1 b kd ln (n + 1) (nC rf n (fun _ => 1)) (zC τ n) H1 := by
    refine hP.push hz o1 (fun k hk => ⟨nC_ne (Nat.ne_of_lt hk), zC_ne (Nat.ne_of_lt hk)⟩) ?_
    unfold enC
    rw [k1, if_neg (by decide), if_pos rfl, k2]
    show H1[b + n]? = some (vp_cell _ _)
    rw [← hz, e1, vp_cell_q]
    have e3 : ∀ j, fq b (nC rf n (fun _ => 1) n j) = none := fun j => by simp [nC, fq]
    simp only [e3]
    rfl
  exact k _ _ _ n' rf' τ' h H1 locs hP1 (by omega) ⟨Nat.le_trans hS.1 (by omega), fun q q1 q2 => (o1 q (by have := hS.1; omega)).trans (hS.2.1 q q1 q2), hS.2.2⟩ ls hL
theorem fc_set {b : Nat} {rf rf' : RF} {τ τ' : Tau} {c j N : Nat} {v : Value} (hj : j < N) (hv : fc b (rf' c j) (τ' c j) = v) (ho : ∀ i, i ≠ j → rf' c i = rf c i ∧ τ' c i = τ c i) (i : Nat) (hi : i < N) :
    updV (vp_V ((List.range N).map (fun j => fc b (rf c j) (τ c j)))) j v i = vp_V ((List.range N).map (fun j => fc b (rf' c j) (τ' c j))) i := by
  have e : ∀ (r : RF) (t : Tau), vp_V ((List.range N).map (fun j => fc b (r c j) (t c j))) i = fc b (r c i) (t c i) := fun r t => by
    unfold vp_V
    rw [List.getD_eq_getElem?_getD, List.getElem?_map, List.getElem?_range hi]
    rfl
  unfold updV
  rw [e rf' τ']
  by_cases h : i = j
  · subst h
    rw [if_pos rfl, hv]
  · rw [if_neg h, e rf τ, (ho i h).1, (ho i h).2]
/-- a field is put: final, in its own constructor, or not -/
theorem sc_put (ci j N : Nat) {Cn : String} {T : u_T} {ty : Nat → FieldType} {c : Nat} {v : Value} {rf2 : RF} {τ2 : Tau} (hC : Cls ci Cn T ty N) (C : Cc K b own cc nL d) (hc : c < n) (hk : kd c = ci) (hN : ln c = N) (hj : j < N) (hfin : (T j).2.2.2 = false ∨ (T j).2.2.2 = true ∧ K.2.2.2.2.2.2.2.2.1.name = "<init>" ∧ (T j).1 = own) (hn : ∀ ρ, narrow (ty j) (cv ρ v) = cv ρ v) (hfit : ∀ ρ, fits (ty j) (cv ρ v) = true)
    (h1 : ∀ k, k ≠ c → rf2 k = rf k ∧ τ2 k = τ k) (h2 : fc b (rf2 c j) (τ2 c j) = cv (sh b) v) (h3 : ∀ i, i ≠ j → rf2 c i = rf c i ∧ τ2 c i = τ c i)
    (hw : Jvm.Cond.fieldLink own index (T j).1 (T j).2.1 (T j).2.2.1 ∈ lw_g) (hd : decode cc pc = .ok (.putfield index, 3)) (k : Sc K b kd ln nL Qf cells slots x (pc + 3) L S n rf2 τ2) : Sc K b kd ln nL Qf cells slots x pc L (v :: .ref c :: S) n rf τ := by
  intro n' rf' τ' h H locs hP hz hS ls hL
  obtain ⟨g1, g2, g3, g4, g5⟩ := hC
  have hK := C.2.2.2.2.2.2.1
  have hap := va_apart (own := own) C.2.2.2.2.1 g2 ty g3 g4 hK g1
  have hA := hP c hc
  have hA2 : ∃ r : vw_C, vwCl[ci]? = some r ∧ t_OB (b + c) (K.2.2.2.2.2.2.2.2.2.2.2.2.1.1 ci) r.2.2 (K.2.2.2.2.2.2.2.2.2.2.2.2.1.2 ci) H (vp_V ((List.range N).map (fun j => fc b (rf c j) (τ c j)))) := by
    have hA3 := hA
    unfold enC at hA3
    rw [hk, if_pos g5, hN] at hA3
    exact hA3
  obtain ⟨r, hr, cell, q1, q2, q3, q4⟩ := hA2
  have er : r = (Cn, T, N) := Option.some.inj (hr.symm.trans g1)
  subst er
  obtain ⟨hSl, hfc, kC, hkC, hkind⟩ := hK.1 ci _ g1
  obtain ⟨cf, kf, fi, f, hi, hsl⟩ := hSl j hj
  have hlay := C.2.2.2.2.1 _ (g2 _ (u_in_lay hj))
  unfold u_lay at hlay
  have hst := (u_facts hfc hkC (u_lays C.2.2.2.2.1 g2 hj) hi).1
  have fin : ∀ H' : Heap, H'[b + c]? = some (cell.setSlot f.slot (cv (sh b) v)) → H'.size = H.size → (∀ q, q ≠ b + c → H'[q]? = H[q]?) → W K.1 K.2.1 K.2.2.1 K.2.2.2.1 K.2.2.2.2.1 K.2.2.2.2.2.1 K.2.2.2.2.2.2.1 K.2.2.2.2.2.2.2.1 K.2.2.2.2.2.2.2.2.1 K.2.2.2.2.2.2.2.2.2.1 H' (locs ++ [⟨b + c, f.slot⟩]) cells slots (Qf n' rf' τ') (F0 K.2.2.2.2.2.1 (pc + 3) ls (S.map (cv (sh b)))) := by
    intro H' e1 e2 e3
    rw [hsl] at e1
    refine k n' rf' τ' h H' _ (hP.set e3 h1 ?_) (by omega) (hS.put e2 e3 (by show b ≤ b + c; omega)) ls hL
    unfold enC
    rw [hk, if_pos g5, hN]
    exact ⟨_, g1, t_OB.to (V := updV (vp_V ((List.range N).map (fun j => fc b (rf c j) (τ c j)))) j (cv (sh b) v)) ⟨_, e1, q2, q3, t_set q4 hap hj _⟩ (fun i hi => fc_set hj h2 h3 i hi)⟩
  rcases hfin with hf | ⟨hf, hin, hdecl⟩
  · rw [if_neg (by rw [hf]; decide)] at hlay
    have h6 := u_store hfc hkC hkind hlay hi (g3 j hj) (hn (sh b)) (hfit (sh b))
    exact W.putK C.1 C.2.1 (f := f) ⟨C.2.2.2.1, C.2.2.2.2.1 _ hw, ⟨_, _, _, hi⟩, hst⟩ (by rw [q2]; exact h6) q1 q3 (by rw [hsl]; exact k2_hasslot (q4 j hj)) rfl rfl hd fin
  · rw [if_pos hf] at hlay
    have hcf : K.2.2.2.2.2.1.cls = cf := by
      obtain ⟨_, _, c', _, _, _, -, -, hf', -, -, -, hown2, -⟩ := Cond.laysFinal_spec hlay
      have e1 : c' = cf := by have := hi.symm.trans hf'; simp at this; exact this.1.symm
      rw [hdecl] at hown2
      rw [← e1]; exact Option.some.inj (C.2.2.2.1.symm.trans hown2)
    have h6 := u_fits hfc hkC hkind (Or.inr hlay) hi (g3 j hj) (hn (sh b)) (hfit (sh b))
    exact W.putFinK C.1 C.2.1 C.2.2.2.1 (C.2.2.2.2.1 _ hw) hi hst hcf hin (by rw [q2]; exact h6) q1 q3 (by rw [hsl]; exact k2_hasslot (q4 j hj)) rfl rfl hd fin
end ScA
