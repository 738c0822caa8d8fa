/-! the making of a system: n cells stand, at b0, b0 + 1 .. ; rf c j: 0 an int, 1 null, q + 2 the cell q -/
abbrev RF : Type := Nat → Nat → Nat
def fc (b : Nat) : Nat → Int32 → Value
  | 0, v => .int v
  | 1, _ => .null
  | q + 2, _ => .ref (b + q)
def fq (b : Nat) : Nat → Option Nat
  | q + 2 => some (b + q)
  | _ => none
def enC (cA : Nat → ClassId) (b : Nat) (kd ln : Nat → Nat) (rf : RF) (τ : Tau) (k : Nat) : va_E :=
  if kd k < 20 then .inr (kd k, (List.range (ln k)).map (fun j => fc b (rf k j) (τ k j)))
  else if kd k = 23 then .inl (cA 23, ln k, .inr (.inr (.inr (.inr (fun j => fq b (rf k j))))))
  else .inl (cA (kd k), ln k, .inl (τ k))
def PC (D : va_G) (cA : Nat → ClassId) (b : Nat) (kd ln : Nat → Nat) (n : Nat) (rf : RF) (τ : Tau) (H : Heap) : Prop := ∀ k, k < n → va_at D vwCl (b + k, enC cA b kd ln rf τ k) H
theorem enC_congr {cA : Nat → ClassId} {b : Nat} {kd ln : Nat → Nat} {rf rf' : RF} {τ τ' : Tau} {k : Nat} (h1 : rf' k = rf k) (h2 : τ' k = τ k) : enC cA b kd ln rf' τ' k = enC cA b kd ln rf τ k := by
  unfold enC
  rw [h1, h2]
theorem PC.push {D : va_G} {cA : Nat → ClassId} {b : Nat} {kd ln : Nat → Nat} {n : Nat} {rf rf' : RF} {τ τ' : Tau} {H H1 : Heap} (h : PC D cA b kd ln n rf τ H) (hz : H.size = b + n) (hk : ∀ q, q < H.size → H1[q]? = H[q]?) (h1 : ∀ k, k < n → rf' k = rf k ∧ τ' k = τ k) (hn : va_at D vwCl (b + n, enC cA b kd ln rf' τ' n) H1) : PC D cA b kd ln (n + 1) rf' τ' H1 := by
  intro k hk2
  rcases Nat.lt_or_ge k n with g | g
  · rw [enC_congr (h1 k g).1 (h1 k g).2]
    exact (h k g).kept (hk _ (by show b + k < H.size; omega))
  · have e : k = n := by omega
    subst e
    exact hn
theorem PC.set {D : va_G} {cA : Nat → ClassId} {b : Nat} {kd ln : Nat → Nat} {n c : Nat} {rf rf' : RF} {τ τ' : Tau} {H H1 : Heap} (h : PC D cA b kd ln n rf τ H) (ho : ∀ q, q ≠ b + c → H1[q]? = H[q]?) (h1 : ∀ k, k ≠ c → rf' k = rf k ∧ τ' k = τ k) (hc : va_at D vwCl (b + c, enC cA b kd ln rf' τ' c) H1) : PC D cA b kd ln n rf' τ' H1 := by
  intro k hk2
  by_cases g : k = c
  · subst g
    exact hc
  · rw [enC_congr (h1 k g).1 (h1 k g).2]
    exact (h k hk2).kept (ho _ (by show b + k ≠ b + c; omega))
def sh (b : Nat) : Nat → Nat := fun k => b + k
def uC (rf : RF) (c j v : Nat) : RF := fun a i => if a = c ∧ i = j then v else rf a i
def nC (rf : RF) (n : Nat) (f : Nat → Nat) : RF := fun a i => if a = n then f i else rf a i
def zC (τ : Tau) (n : Nat) : Tau := fun a i => if a = n then 0 else τ a i
theorem uC_ne {rf : RF} {c j v a : Nat} (h : a ≠ c) : uC rf c j v a = rf a := by funext i; simp [uC, h]
theorem nC_ne {rf : RF} {n : Nat} {f : Nat → Nat} {a : Nat} (h : a ≠ n) : nC rf n f a = rf a := by funext i; simp [nC, h]
theorem zC_ne {τ : Tau} {n a : Nat} (h : a ≠ n) : zC τ n a = τ a := by funext i; simp [zC, h]
/-- what holds all through a constructor -/
def Cc (K : Ctx) (b : Nat) (own : String) (cc : ByteArray) (nL d : Nat) : Prop :=
  K.1.tables.exec = Jvm.exec ∧ K.2.2.2.2.2.2.2.2.2.1.code = cc ∧ K.2.2.2.2.2.2.2.2.2.1.maxLocals = nL ∧ K.2.2.2.2.1.vm.findClass own = some K.2.2.2.2.2.1.cls ∧ (∀ w ∈ lw_g, w.before K.2.2.2.2.2.2.1 K.2.2.2.2.1 = true) ∧ (d ≤ K.2.2.2.1.frames ∧ 64 * d ≤ K.2.2.2.1.locals) ∧
  va_K K.2.2.2.2.2.2.2.2.2.2.2.2.1 vwCl (tysL K.2.2.2.2.2.2.2.2.2.2.2.2.2.1) K.2.2.2.2.1 ∧ (∀ w ∈ nestW, va_Nw w K.2.2.2.2.1) ∧ K.2.2.2.2.2.2.2.2.1.locks = false ∧ b ≤ K.2.2.2.2.1.heap.size ∧ va_AO "BasketEnvoys$Town" K.2.2.2.2.1
abbrev O3 : Type := Option (Nat × RF × Tau)
def AtC (K : Ctx) (b : Nat) (kd ln : Nat → Nat) (nL : Nat) (Q : State → Prop) (cells slots pc : Nat) (L : List (Nat × Value)) (S : List Value) (n : Nat) (rf : RF) (τ : Tau) : Prop :=
  ∀ (H : Heap) (locs : List Loc), PC K.2.2.2.2.2.2.2.2.2.2.2.2.1 K.2.2.2.2.2.2.2.2.2.2.2.2.2.1 b kd ln n rf τ H → H.size = b + n → va_S (fun q => b ≤ q) K.2.2.2.2.1.heap H locs →
    Aw K.1 K.2.1 K.2.2.1 K.2.2.2.1 K.2.2.2.2.1 K.2.2.2.2.2.1 K.2.2.2.2.2.2.1 K.2.2.2.2.2.2.2.1 K.2.2.2.2.2.2.2.2.1 K.2.2.2.2.2.2.2.2.2.1 H locs cells slots Q (sh b) nL pc L S
def Sc (K : Ctx) (b : Nat) (kd ln : Nat → Nat) (nL : Nat) (Qf : Nat → RF → Tau → State → Prop) (cells slots : Nat) (x : O3) (pc : Nat) (L : List (Nat × Value)) (S : List Value) (n : Nat) (rf : RF) (τ : Tau) : Prop :=
  ∀ n' rf' τ', x = some (n', rf', τ') → AtC K b kd ln nL (Qf n' rf' τ') cells slots pc L S n rf τ
section ScR
variable {K : Ctx} {b : Nat} {kd ln : Nat → Nat} {nL d : Nat} {Qf : Nat → RF → Tau → State → Prop} {own : String} {cc : ByteArray} {cells slots pc : Nat} {L : List (Nat × Value)} {S : List Value} {n : Nat} {rf : RF} {τ : Tau} {x : O3} {index : Nat}
theorem sc_none : Sc K b kd ln nL Qf cells slots none pc L S n rf τ := fun _ _ _ h => by cases h
theorem sc_ite {c : Prop} [Decidable c] {a a' : O3} (ha : c → Sc K b kd ln nL Qf cells slots a pc L S n rf τ) (hb : ¬ c → Sc K b kd ln nL Qf cells slots a' pc L S n rf τ) : Sc K b kd ln nL Qf cells slots (if c then a else a') pc L S n rf τ := by
  by_cases h : c
  · rw [if_pos h]; exact ha h
  · rw [if_neg h]; exact hb h
theorem sc_seg (C : Cc K b own cc nL d) {pc' : Nat} {L' : List (Nat × Value)} {S' : List Value} (sg : Seg) (hc : chk cc pc sg pc' = true) (hr : run nL sg L S = some (L', S')) (k : Sc K b kd ln nL Qf cells slots x pc' L' S' n rf τ) : Sc K b kd ln nL Qf cells slots x pc L S n rf τ :=
  fun n' rf' τ' h H locs hP hz hS => aw_seg C.1 C.2.1 (k n' rf' τ' h H locs hP hz hS) sg pc L S hc hr
theorem sc_sub {L' : List (Nat × Value)} (ks : List Nat) (h : ks.filterMap (fun k => L[k]?) = L') (k : Sc K b kd ln nL Qf cells slots x pc L' S n rf τ) : Sc K b kd ln nL Qf cells slots x pc L S n rf τ :=
  fun n' rf' τ' hx H locs hP hz hS => aw_sub ks h (k n' rf' τ' hx H locs hP hz hS)
/-- Object's own constructor -/
theorem sc_obj {c : Nat} (C : Cc K b own cc nL d) (h1 : 1 ≤ d) (hl : Cond.methodLink own index objectInit ∈ lw_g) (hi : Cond.instanceMethod objectInit ∈ lw_g) (hcd : Cond.code objectInit ⟨#[0xb1]⟩ 1 none ∈ lw_g) (hrest : (S.map fun v => v.category).sum ≤ 8) (hd : decode cc pc = .ok (.invokespecial index, 3)) (k : Sc K b kd ln nL Qf cells slots x (pc + 3) L S n rf τ) : Sc K b kd ln nL Qf cells slots x pc L (.ref c :: S) n rf τ := by
  intro n' rf' τ' h H locs hP hz hS ls hL
  refine W.objInit C.1 C.2.1 C.2.2.2.1 (C.2.2.2.2.1 _ hl) (C.2.2.2.2.1 _ hi) (C.2.2.2.2.1 _ hcd) rfl (hL.1.trans C.2.2.1.symm) rfl hd (Nat.le_trans h1 C.2.2.2.2.2.1.1) ?_ (k n' rf' τ' h H locs hP hz hS ls hL)
  show 2 * 0 + _ + 12 ≤ _
  have := C.2.2.2.2.2.1.2
  rw [cv_sum]
  omega
def cnew (kd ln : Nat → Nat) (ci N : Nat) (f : Nat → Nat) (n : Nat) (rf : RF) (τ : Tau) (k : Nat → RF → Tau → O3) : O3 := if kd n = ci ∧ ln n = N then k (n + 1) (nC rf n f) (zC τ n) else none
theorem sc_new {kt : Nat → RF → Tau → O3} (ci N : Nat) {Cn : String} {T : u_T} {ty : Nat → FieldType} {f : Nat → Nat} (hC : Cls ci Cn T ty N) (C : Cc K b own cc nL d) (hcl : Cond.classLink own index Cn ∈ lw_g) (hin : Cond.instantiable Cn N ∈ lw_g) (hini : Cond.initialized Cn ∈ lw_g) (hf : ∀ j, j < N → (f j = 0 ∧ defaultValue (ty j) = .int 0) ∨ (f j = 1 ∧ defaultValue (ty j) = .null)) (hcells : cells + 1 ≤ K.2.2.2.1.cells) (hslots : slots + N ≤ K.2.2.2.1.slots) (hd : decode cc pc = .ok (.new index, 3))
    (k : ∀ n1 rf1 τ1, Sc K b kd ln nL Qf (cells + 1) (slots + N) (kt n1 rf1 τ1) (pc + 3) L (.ref n :: S) n1 rf1 τ1) : Sc K b kd ln nL Qf cells slots (cnew kd ln ci N f n rf τ kt) pc L S n rf τ := by
  unfold cnew
  refine sc_ite (fun hkd => ?_) (fun _ => sc_none)
  intro n' rf' τ' h H locs hP hz hS ls hL
  obtain ⟨g1, g2, g3, g4, g5⟩ := hC
  have hKn := C.2.2.2.2.2.2.1.1 ci _ g1
  refine W.newcK C.1 C.2.1 C.2.2.2.1 (C.2.2.2.2.1 _ hcl) (C.2.2.2.2.1 _ hin) (C.2.2.2.2.1 _ hini) rfl hd hcells hslots hKn.2.1 hz fun H1 kC hkC e1 z1 o1 => ?_
  have hP1 : PC K.2.2.2.2.2.2.2.2.2.2.2.2.1 K.2.2.2.2.2.2.2.2.2.2.2.2.2.1 b kd ln (n + 1) (nC rf n f) (zC τ n) H1 := by
    refine hP.push hz (fun q hq => o1 q (by rw [← hz]; exact hq)) (fun k hk => ⟨nC_ne (Nat.ne_of_lt hk), zC_ne (Nat.ne_of_lt hk)⟩) ?_
    unfold enC
    rw [hkd.1, if_pos g5, hkd.2]
    refine ⟨_, g1, (u_born ty C.2.2.2.2.1 g2 hKn hkC e1 g3).to (fun j hj => ?_)⟩
    unfold vp_V
    rw [List.getD_eq_getElem?_getD, List.getElem?_map, List.getElem?_range hj]
    show defaultValue (ty j) = fc b (nC rf n f n j) (zC τ n n j)
    have e2 : nC rf n f n j = f j := by simp [nC]
    have e3 : zC τ n n j = 0 := by simp [zC]
    rw [e2, e3]
    rcases hf j hj with ⟨q1, q2⟩ | ⟨q1, q2⟩ <;> rw [q1, q2] <;> rfl
  exact k _ _ _ n' rf' τ' h H1 locs hP1 (by omega) ⟨Nat.le_trans hS.1 (by omega), fun q q1 q2 => (o1 q (by have := hS.1; omega)).trans (hS.2.1 q q1 q2), hS.2.2⟩ ls hL
end ScR
