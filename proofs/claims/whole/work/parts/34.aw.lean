/-! stretches at a fixed heap -/
section AwR
variable {p : Program} {l : Launch} {e : Env} {R : Room} {s : State} {m : MethodId} {args : Array Value} {below : List Frame} {meth : Method} {c : Code} {H : Heap} {locs : List Loc} {cells slots : Nat} {Q : State → Prop} {ρ : Nat → Nat} {nL : Nat} {cc : ByteArray} {pc : Nat} {L : List (Nat × Value)} {S : List Value}
/-- the walk from a frame at this heap -/
def Aw (p : Program) (l : Launch) (e : Env) (R : Room) (s : State) (m : MethodId) (args : Array Value) (below : List Frame) (meth : Method) (c : Code) (H : Heap) (locs : List Loc) (cells slots : Nat) (Q : State → Prop) (ρ : Nat → Nat) (nL pc : Nat) (L : List (Nat × Value)) (S : List Value) : Prop :=
  ∀ ls : Array Slot, lv_has ls nL (L.map fun q => (q.1, cv ρ q.2)) → W p l e R s m args below meth c H locs cells slots Q (F0 m pc ls (S.map (cv ρ)))
theorem aw_iconst (hx : p.tables.exec = Jvm.exec) (hb : c.code = cc) {n : Int} {v : Int32} (hd : decode cc pc = .ok (.iconst n, 1)) (hv : Int32.ofInt n = v) (k : Aw p l e R s m args below meth c H locs cells slots Q ρ nL (pc + 1) L (.int v :: S)) : Aw p l e R s m args below meth c H locs cells slots Q ρ nL pc L S := by
  intro ls hL
  exact lv_iconst hx hb hd hv (k ls hL)
theorem aw_bipush (hx : p.tables.exec = Jvm.exec) (hb : c.code = cc) {n : Int} {v : Int32} (hd : decode cc pc = .ok (.bipush n, 2)) (hv : (Int8.ofInt n).toInt32 = v) (k : Aw p l e R s m args below meth c H locs cells slots Q ρ nL (pc + 2) L (.int v :: S)) : Aw p l e R s m args below meth c H locs cells slots Q ρ nL pc L S := by
  intro ls hL
  exact lv_bipush hx hb hd hv (k ls hL)
theorem aw_sipush (hx : p.tables.exec = Jvm.exec) (hb : c.code = cc) {n : Int} {v : Int32} (hd : decode cc pc = .ok (.sipush n, 3)) (hv : (Int16.ofInt n).toInt32 = v) (k : Aw p l e R s m args below meth c H locs cells slots Q ρ nL (pc + 3) L (.int v :: S)) : Aw p l e R s m args below meth c H locs cells slots Q ρ nL pc L S := by
  intro ls hL
  exact lv_sipush hx hb hd hv (k ls hL)
theorem aw_lconst (hx : p.tables.exec = Jvm.exec) (hb : c.code = cc) {n : Fin 2} (hd : decode cc pc = .ok (.lconst n, 1))  (k : Aw p l e R s m args below meth c H locs cells slots Q ρ nL (pc + 1) L (.long (Int64.ofNat n) :: S)) : Aw p l e R s m args below meth c H locs cells slots Q ρ nL pc L S := by
  intro ls hL
  exact lv_lconst hx hb hd rfl (k ls hL)
theorem aw_iload (hx : p.tables.exec = Jvm.exec) (hb : c.code = cc) {i : Nat} {x : Int32} (hd : decode cc pc = .ok (.iload i, 2)) (hl : lk L i = some (.int x)) (k : Aw p l e R s m args below meth c H locs cells slots Q ρ nL (pc + 2) L (.int x :: S)) : Aw p l e R s m args below meth c H locs cells slots Q ρ nL pc L S := by
  intro ls hL
  exact lv_iload hx hb hd (lk_at hL hl) (k ls hL)
theorem aw_iload_n (hx : p.tables.exec = Jvm.exec) (hb : c.code = cc) {i : Fin 4} {x : Int32} (hd : decode cc pc = .ok (.iload_n i, 1)) (hl : lk L i = some (.int x)) (k : Aw p l e R s m args below meth c H locs cells slots Q ρ nL (pc + 1) L (.int x :: S)) : Aw p l e R s m args below meth c H locs cells slots Q ρ nL pc L S := by
  intro ls hL
  exact lv_iload_n hx hb hd rfl (lk_at hL hl) (k ls hL)
theorem aw_istore (hx : p.tables.exec = Jvm.exec) (hb : c.code = cc) {i : Nat} {x : Int32} (hd : decode cc pc = .ok (.istore i, 2)) (hn : i < nL) (k : Aw p l e R s m args below meth c H locs cells slots Q ρ nL (pc + 2) ((i, .int x) :: L.filter (f1 i)) S) : Aw p l e R s m args below meth c H locs cells slots Q ρ nL pc L (.int x :: S) := by
  intro ls hL
  exact lv_istore hx hb hd hL hn (f1_map (ρ := ρ) i (.int x) L) (fun ls' h' => k ls' h')
theorem aw_istore_n (hx : p.tables.exec = Jvm.exec) (hb : c.code = cc) {i : Fin 4} {x : Int32} (hd : decode cc pc = .ok (.istore_n i, 1)) (hn : (i : Nat) < nL) (k : Aw p l e R s m args below meth c H locs cells slots Q ρ nL (pc + 1) ((i, .int x) :: L.filter (f1 i)) S) : Aw p l e R s m args below meth c H locs cells slots Q ρ nL pc L (.int x :: S) := by
  intro ls hL
  exact lv_istore_n hx hb hd rfl hL hn (f1_map (ρ := ρ) i (.int x) L) (fun ls' h' => k ls' h')
theorem aw_aload (hx : p.tables.exec = Jvm.exec) (hb : c.code = cc) {i : Nat} {x : Nat} (hd : decode cc pc = .ok (.aload i, 2)) (hl : lk L i = some (.ref x)) (k : Aw p l e R s m args below meth c H locs cells slots Q ρ nL (pc + 2) L (.ref x :: S)) : Aw p l e R s m args below meth c H locs cells slots Q ρ nL pc L S := by
  intro ls hL
  exact lv_aload hx hb hd (lk_at hL hl) (k ls hL)
theorem aw_aload_n (hx : p.tables.exec = Jvm.exec) (hb : c.code = cc) {i : Fin 4} {x : Nat} (hd : decode cc pc = .ok (.aload_n i, 1)) (hl : lk L i = some (.ref x)) (k : Aw p l e R s m args below meth c H locs cells slots Q ρ nL (pc + 1) L (.ref x :: S)) : Aw p l e R s m args below meth c H locs cells slots Q ρ nL pc L S := by
  intro ls hL
  exact lv_aload_n hx hb hd rfl (lk_at hL hl) (k ls hL)
theorem aw_astore (hx : p.tables.exec = Jvm.exec) (hb : c.code = cc) {i : Nat} {x : Nat} (hd : decode cc pc = .ok (.astore i, 2)) (hn : i < nL) (k : Aw p l e R s m args below meth c H locs cells slots Q ρ nL (pc + 2) ((i, .ref x) :: L.filter (f1 i)) S) : Aw p l e R s m args below meth c H locs cells slots Q ρ nL pc L (.ref x :: S) := by
  intro ls hL
  exact lv_astore hx hb hd hL hn (f1_map (ρ := ρ) i (.ref x) L) (fun ls' h' => k ls' h')
theorem aw_astore_n (hx : p.tables.exec = Jvm.exec) (hb : c.code = cc) {i : Fin 4} {x : Nat} (hd : decode cc pc = .ok (.astore_n i, 1)) (hn : (i : Nat) < nL) (k : Aw p l e R s m args below meth c H locs cells slots Q ρ nL (pc + 1) ((i, .ref x) :: L.filter (f1 i)) S) : Aw p l e R s m args below meth c H locs cells slots Q ρ nL pc L (.ref x :: S) := by
  intro ls hL
  exact lv_astore_n hx hb hd rfl hL hn (f1_map (ρ := ρ) i (.ref x) L) (fun ls' h' => k ls' h')
theorem aw_lload (hx : p.tables.exec = Jvm.exec) (hb : c.code = cc) {i : Nat} {x : Int64} (hd : decode cc pc = .ok (.lload i, 2)) (hl : lk L i = some (.long x)) (k : Aw p l e R s m args below meth c H locs cells slots Q ρ nL (pc + 2) L (.long x :: S)) : Aw p l e R s m args below meth c H locs cells slots Q ρ nL pc L S := by
  intro ls hL
  exact lv_lload hx hb hd (lk_at hL hl) (k ls hL)
theorem aw_lload_n (hx : p.tables.exec = Jvm.exec) (hb : c.code = cc) {i : Fin 4} {x : Int64} (hd : decode cc pc = .ok (.lload_n i, 1)) (hl : lk L i = some (.long x)) (k : Aw p l e R s m args below meth c H locs cells slots Q ρ nL (pc + 1) L (.long x :: S)) : Aw p l e R s m args below meth c H locs cells slots Q ρ nL pc L S := by
  intro ls hL
  exact lv_lload_n hx hb hd rfl (lk_at hL hl) (k ls hL)
theorem aw_lstore (hx : p.tables.exec = Jvm.exec) (hb : c.code = cc) {i : Nat} {x : Int64} (hd : decode cc pc = .ok (.lstore i, 2)) (hn : i + 1 < nL) (k : Aw p l e R s m args below meth c H locs cells slots Q ρ nL (pc + 2) ((i, .long x) :: L.filter (f2 i)) S) : Aw p l e R s m args below meth c H locs cells slots Q ρ nL pc L (.long x :: S) := by
  intro ls hL
  exact lv_lstore hx hb hd hL hn (f2_map (ρ := ρ) i (.long x) L) (fun ls' h' => k ls' h')
theorem aw_lstore_n (hx : p.tables.exec = Jvm.exec) (hb : c.code = cc) {i : Fin 4} {x : Int64} (hd : decode cc pc = .ok (.lstore_n i, 1)) (hn : (i : Nat) + 1 < nL) (k : Aw p l e R s m args below meth c H locs cells slots Q ρ nL (pc + 1) ((i, .long x) :: L.filter (f2 i)) S) : Aw p l e R s m args below meth c H locs cells slots Q ρ nL pc L (.long x :: S) := by
  intro ls hL
  exact lv_lstore_n hx hb hd rfl hL hn (f2_map (ρ := ρ) i (.long x) L) (fun ls' h' => k ls' h')
theorem aw_iinc (hx : p.tables.exec = Jvm.exec) (hb : c.code = cc) {i : Nat} {n : Int} {x v : Int32} (hd : decode cc pc = .ok (.iinc i n, 3)) (hv : Int32.ofInt n = v) (hl : lk L i = some (.int x)) (hn : i < nL) (k : Aw p l e R s m args below meth c H locs cells slots Q ρ nL (pc + 3) ((i, .int (x + v)) :: L.filter (f1 i)) S) : Aw p l e R s m args below meth c H locs cells slots Q ρ nL pc L S := by
  intro ls hL
  subst hv
  obtain ⟨q, hq⟩ := List.getElem?_of_mem (List.mem_map.mpr ⟨(i, Value.int x), lk_mem hl, rfl⟩ : (i, cv ρ (.int x)) ∈ L.map fun q => (q.1, cv ρ q.2))
  exact lv_iinc hx hb hd hL hq rfl hn (f1_map (ρ := ρ) i (.int (x + Int32.ofInt n)) L) (fun ls' h' => k ls' h')
theorem aw_iadd (hx : p.tables.exec = Jvm.exec) (hb : c.code = cc) {x z : Int32} (hd : decode cc pc = .ok (.iadd, 1))  (k : Aw p l e R s m args below meth c H locs cells slots Q ρ nL (pc + 1) L (.int (x + z) :: S)) : Aw p l e R s m args below meth c H locs cells slots Q ρ nL pc L (.int z :: .int x :: S) := by
  intro ls hL
  exact lv_iadd hx hb hd (k ls hL)
theorem aw_isub (hx : p.tables.exec = Jvm.exec) (hb : c.code = cc) {x z : Int32} (hd : decode cc pc = .ok (.isub, 1))  (k : Aw p l e R s m args below meth c H locs cells slots Q ρ nL (pc + 1) L (.int (x - z) :: S)) : Aw p l e R s m args below meth c H locs cells slots Q ρ nL pc L (.int z :: .int x :: S) := by
  intro ls hL
  exact lv_isub hx hb hd (k ls hL)
theorem aw_imul (hx : p.tables.exec = Jvm.exec) (hb : c.code = cc) {x z : Int32} (hd : decode cc pc = .ok (.imul, 1))  (k : Aw p l e R s m args below meth c H locs cells slots Q ρ nL (pc + 1) L (.int (x * z) :: S)) : Aw p l e R s m args below meth c H locs cells slots Q ρ nL pc L (.int z :: .int x :: S) := by
  intro ls hL
  exact lv_imul hx hb hd (k ls hL)
theorem aw_iand (hx : p.tables.exec = Jvm.exec) (hb : c.code = cc) {x z : Int32} (hd : decode cc pc = .ok (.iand, 1))  (k : Aw p l e R s m args below meth c H locs cells slots Q ρ nL (pc + 1) L (.int (x &&& z) :: S)) : Aw p l e R s m args below meth c H locs cells slots Q ρ nL pc L (.int z :: .int x :: S) := by
  intro ls hL
  exact lv_iand hx hb hd (k ls hL)
theorem aw_ior (hx : p.tables.exec = Jvm.exec) (hb : c.code = cc) {x z : Int32} (hd : decode cc pc = .ok (.ior, 1))  (k : Aw p l e R s m args below meth c H locs cells slots Q ρ nL (pc + 1) L (.int (x ||| z) :: S)) : Aw p l e R s m args below meth c H locs cells slots Q ρ nL pc L (.int z :: .int x :: S) := by
  intro ls hL
  exact lv_ior hx hb hd (k ls hL)
theorem aw_ixor (hx : p.tables.exec = Jvm.exec) (hb : c.code = cc) {x z : Int32} (hd : decode cc pc = .ok (.ixor, 1))  (k : Aw p l e R s m args below meth c H locs cells slots Q ρ nL (pc + 1) L (.int (x ^^^ z) :: S)) : Aw p l e R s m args below meth c H locs cells slots Q ρ nL pc L (.int z :: .int x :: S) := by
  intro ls hL
  exact lv_ixor hx hb hd (k ls hL)
theorem aw_ishl (hx : p.tables.exec = Jvm.exec) (hb : c.code = cc) {x z : Int32} (hd : decode cc pc = .ok (.ishl, 1))  (k : Aw p l e R s m args below meth c H locs cells slots Q ρ nL (pc + 1) L (.int (x <<< (z &&& 31)) :: S)) : Aw p l e R s m args below meth c H locs cells slots Q ρ nL pc L (.int z :: .int x :: S) := by
  intro ls hL
  exact lv_ishl hx hb hd (k ls hL)
theorem aw_ishr (hx : p.tables.exec = Jvm.exec) (hb : c.code = cc) {x z : Int32} (hd : decode cc pc = .ok (.ishr, 1))  (k : Aw p l e R s m args below meth c H locs cells slots Q ρ nL (pc + 1) L (.int (x >>> (z &&& 31)) :: S)) : Aw p l e R s m args below meth c H locs cells slots Q ρ nL pc L (.int z :: .int x :: S) := by
  intro ls hL
  exact lv_ishr hx hb hd (k ls hL)
theorem aw_iushr (hx : p.tables.exec = Jvm.exec) (hb : c.code = cc) {x z : Int32} (hd : decode cc pc = .ok (.iushr, 1))  (k : Aw p l e R s m args below meth c H locs cells slots Q ρ nL (pc + 1) L (.int ((x.toUInt32 >>> (z.toUInt32 &&& Int32.toUInt32 31)).toInt32) :: S)) : Aw p l e R s m args below meth c H locs cells slots Q ρ nL pc L (.int z :: .int x :: S) := by
  intro ls hL
  exact lv_iushr hx hb hd rfl (k ls hL)
theorem aw_lmul (hx : p.tables.exec = Jvm.exec) (hb : c.code = cc) {x z : Int64} (hd : decode cc pc = .ok (.lmul, 1))  (k : Aw p l e R s m args below meth c H locs cells slots Q ρ nL (pc + 1) L (.long (x * z) :: S)) : Aw p l e R s m args below meth c H locs cells slots Q ρ nL pc L (.long z :: .long x :: S) := by
  intro ls hL
  exact lv_lmul hx hb hd (k ls hL)
theorem aw_i2l (hx : p.tables.exec = Jvm.exec) (hb : c.code = cc) {x : Int32} (hd : decode cc pc = .ok (.i2l, 1))  (k : Aw p l e R s m args below meth c H locs cells slots Q ρ nL (pc + 1) L (.long x.toInt64 :: S)) : Aw p l e R s m args below meth c H locs cells slots Q ρ nL pc L (.int x :: S) := by
  intro ls hL
  exact lv_i2l hx hb hd rfl (k ls hL)
theorem aw_l2i (hx : p.tables.exec = Jvm.exec) (hb : c.code = cc) {x : Int64} (hd : decode cc pc = .ok (.l2i, 1))  (k : Aw p l e R s m args below meth c H locs cells slots Q ρ nL (pc + 1) L (.int x.toInt32 :: S)) : Aw p l e R s m args below meth c H locs cells slots Q ρ nL pc L (.long x :: S) := by
  intro ls hL
  exact lv_l2i hx hb hd rfl (k ls hL)
theorem aw_i2c (hx : p.tables.exec = Jvm.exec) (hb : c.code = cc) {x : Int32} (hd : decode cc pc = .ok (.i2c, 1))  (k : Aw p l e R s m args below meth c H locs cells slots Q ρ nL (pc + 1) L (.int (x.toUInt32 % 65536).toInt32 :: S)) : Aw p l e R s m args below meth c H locs cells slots Q ρ nL pc L (.int x :: S) := by
  intro ls hL
  exact lv_i2c hx hb hd rfl (k ls hL)
theorem aw_dup (hx : p.tables.exec = Jvm.exec) (hb : c.code = cc) {z : Value} (hd : decode cc pc = .ok (.dup, 1)) (hz : z.category = 1) (k : Aw p l e R s m args below meth c H locs cells slots Q ρ nL (pc + 1) L (z :: z :: S)) : Aw p l e R s m args below meth c H locs cells slots Q ρ nL pc L (z :: S) := by
  intro ls hL
  exact lv_dup hx hb hd (by rw [cv_cat]; exact hz) (k ls hL)
theorem aw_pop (hx : p.tables.exec = Jvm.exec) (hb : c.code = cc) {z : Value} (hd : decode cc pc = .ok (.pop, 1)) (hz : z.category = 1) (k : Aw p l e R s m args below meth c H locs cells slots Q ρ nL (pc + 1) L S) : Aw p l e R s m args below meth c H locs cells slots Q ρ nL pc L (z :: S) := by
  intro ls hL
  exact lv_pop hx hb hd (by rw [cv_cat]; exact hz) (k ls hL)
theorem aw_dup2 (hx : p.tables.exec = Jvm.exec) (hb : c.code = cc) {z w : Value} (hd : decode cc pc = .ok (.dup2, 1)) (hz : z.category = 1) (hw : w.category = 1) (k : Aw p l e R s m args below meth c H locs cells slots Q ρ nL (pc + 1) L (z :: w :: z :: w :: S)) : Aw p l e R s m args below meth c H locs cells slots Q ρ nL pc L (z :: w :: S) := by
  intro ls hL
  exact lv_dup2_11 hx hb hd (by rw [cv_cat]; exact hz) (by rw [cv_cat]; exact hw) (k ls hL)
theorem aw_dup_x1 (hx : p.tables.exec = Jvm.exec) (hb : c.code = cc) {z w : Value} (hd : decode cc pc = .ok (.dup_x1, 1)) (hz : z.category = 1) (hw : w.category = 1) (k : Aw p l e R s m args below meth c H locs cells slots Q ρ nL (pc + 1) L (z :: w :: z :: S)) : Aw p l e R s m args below meth c H locs cells slots Q ρ nL pc L (z :: w :: S) := by
  intro ls hL
  exact lv_dup_x1 hx hb hd (by rw [cv_cat]; exact hz) (by rw [cv_cat]; exact hw) (k ls hL)
theorem aw_dup_x2 (hx : p.tables.exec = Jvm.exec) (hb : c.code = cc) {z w u : Value} (hd : decode cc pc = .ok (.dup_x2, 1)) (hz : z.category = 1) (hw : w.category = 1) (hu : u.category = 1) (k : Aw p l e R s m args below meth c H locs cells slots Q ρ nL (pc + 1) L (z :: w :: u :: z :: S)) : Aw p l e R s m args below meth c H locs cells slots Q ρ nL pc L (z :: w :: u :: S) := by
  intro ls hL
  exact lv_dup_x2 hx hb hd (by rw [cv_cat]; exact hz) (by rw [cv_cat]; exact hw) (by rw [cv_cat]; exact hu) (k ls hL)
theorem aw_goto (hx : p.tables.exec = Jvm.exec) (hb : c.code = cc) {off : Int} (hd : decode cc pc = .ok (.goto off, 3)) (h0 : 0 ≤ (pc : Int) + off) (k : Aw p l e R s m args below meth c H locs cells slots Q ρ nL ((pc : Int) + off).toNat L S) : Aw p l e R s m args below meth c H locs cells slots Q ρ nL pc L S := by
  intro ls hL
  exact lv_goto hx hb hd (by omega) (k ls hL)
theorem aw_run1 (hx : p.tables.exec = Jvm.exec) (hb : c.code = cc) {i : Instr} {v : Int32} {L L' : List (Nat × Value)} {S S' : List Value} (hd : decode cc pc = .ok (i, ilen i)) (hl : lit i v pc = true) (hr : run1 nL i v L S = some (L', S')) (k : Aw p l e R s m args below meth c H locs cells slots Q ρ nL (nxt i pc) L' S') : Aw p l e R s m args below meth c H locs cells slots Q ρ nL pc L S := by
  cases i with
  | iconst n => simp only [run1, Option.some.injEq, Prod.mk.injEq] at hr; obtain ⟨rfl, rfl⟩ := hr; exact aw_iconst hx hb hd (of_decide_eq_true hl) k
  | bipush n => simp only [run1, Option.some.injEq, Prod.mk.injEq] at hr; obtain ⟨rfl, rfl⟩ := hr; exact aw_bipush hx hb hd (of_decide_eq_true hl) k
  | sipush n => simp only [run1, Option.some.injEq, Prod.mk.injEq] at hr; obtain ⟨rfl, rfl⟩ := hr; exact aw_sipush hx hb hd (of_decide_eq_true hl) k
  | lconst n => simp only [run1, Option.some.injEq, Prod.mk.injEq] at hr; obtain ⟨rfl, rfl⟩ := hr; exact aw_lconst hx hb hd k
  | goto off => simp only [run1, Option.some.injEq, Prod.mk.injEq] at hr; obtain ⟨rfl, rfl⟩ := hr; exact aw_goto hx hb hd (of_decide_eq_true hl) k
  | iload j => obtain ⟨x, e, h⟩ := lk_int hr; cases h; exact aw_iload hx hb hd e k
  | iload_n j => obtain ⟨x, e, h⟩ := lk_int hr; cases h; exact aw_iload_n hx hb hd e k
  | aload j => obtain ⟨x, e, h⟩ := lk_ref hr; cases h; exact aw_aload hx hb hd e k
  | aload_n j => obtain ⟨x, e, h⟩ := lk_ref hr; cases h; exact aw_aload_n hx hb hd e k
  | lload j => obtain ⟨x, e, h⟩ := lk_long hr; cases h; exact aw_lload hx hb hd e k
  | lload_n j => obtain ⟨x, e, h⟩ := lk_long hr; cases h; exact aw_lload_n hx hb hd e k
  | iinc j n =>
    simp only [run1] at hr
    split at hr
    · rename_i x e
      split at hr
      · rename_i hn
        cases hr
        exact aw_iinc hx hb hd (of_decide_eq_true hl) e hn k
      · cases hr
    · cases hr
  | istore j => 
    simp only [run1] at hr
    split at hr
    · split at hr
      · rename_i hn
        cases hr
        exact aw_istore hx hb hd hn k
      · cases hr
    · cases hr
  | istore_n j => 
    simp only [run1] at hr
    split at hr
    · split at hr
      · rename_i hn
        cases hr
        exact aw_istore_n hx hb hd hn k
      · cases hr
    · cases hr
  | astore j => 
    simp only [run1] at hr
    split at hr
    · split at hr
      · rename_i hn
        cases hr
        exact aw_astore hx hb hd hn k
      · cases hr
    · cases hr
  | astore_n j => 
    simp only [run1] at hr
    split at hr
    · split at hr
      · rename_i hn
        cases hr
        exact aw_astore_n hx hb hd hn k
      · cases hr
    · cases hr
  | lstore j => 
    simp only [run1] at hr
    split at hr
    · split at hr
      · rename_i hn
        cases hr
        exact aw_lstore hx hb hd hn k
      · cases hr
    · cases hr
  | lstore_n j => 
    simp only [run1] at hr
    split at hr
    · split at hr
      · rename_i hn
        cases hr
        exact aw_lstore_n hx hb hd hn k
      · cases hr
    · cases hr
  | iadd => simp only [run1] at hr; split at hr <;> cases hr; exact aw_iadd hx hb hd k
  | isub => simp only [run1] at hr; split at hr <;> cases hr; exact aw_isub hx hb hd k
  | imul => simp only [run1] at hr; split at hr <;> cases hr; exact aw_imul hx hb hd k
  | iand => simp only [run1] at hr; split at hr <;> cases hr; exact aw_iand hx hb hd k
  | ior => simp only [run1] at hr; split at hr <;> cases hr; exact aw_ior hx hb hd k
  | ixor => simp only [run1] at hr; split at hr <;> cases hr; exact aw_ixor hx hb hd k
  | ishl => simp only [run1] at hr; split at hr <;> cases hr; exact aw_ishl hx hb hd k
  | ishr => simp only [run1] at hr; split at hr <;> cases hr; exact aw_ishr hx hb hd k
  | iushr => simp only [run1] at hr; split at hr <;> cases hr; exact aw_iushr hx hb hd k
  | lmul => simp only [run1] at hr; split at hr <;> cases hr; exact aw_lmul hx hb hd k
  | i2l => simp only [run1] at hr; split at hr <;> cases hr; exact aw_i2l hx hb hd k
  | l2i => simp only [run1] at hr; split at hr <;> cases hr; exact aw_l2i hx hb hd k
  | i2c => simp only [run1] at hr; split at hr <;> cases hr; exact aw_i2c hx hb hd k
  | dup => simp only [run1] at hr; split at hr <;> cases hr <;> exact aw_dup hx hb hd rfl k
  | pop => simp only [run1] at hr; split at hr <;> cases hr <;> exact aw_pop hx hb hd rfl k
  | dup2 => simp only [run1] at hr; split at hr <;> cases hr <;> exact aw_dup2 hx hb hd rfl rfl k
  | dup_x1 => simp only [run1] at hr; split at hr <;> cases hr; exact aw_dup_x1 hx hb hd rfl rfl k
  | dup_x2 => simp only [run1] at hr; split at hr <;> cases hr; exact aw_dup_x2 hx hb hd rfl rfl rfl k
  | _ => simp [run1] at hr
theorem aw_seg (hx : p.tables.exec = Jvm.exec) (hb : c.code = cc) {pc' : Nat} {L' : List (Nat × Value)} {S' : List Value} (k : Aw p l e R s m args below meth c H locs cells slots Q ρ nL pc' L' S') : ∀ (sg : Seg) (pc : Nat) (L : List (Nat × Value)) (S : List Value), chk cc pc sg pc' = true → run nL sg L S = some (L', S') → Aw p l e R s m args below meth c H locs cells slots Q ρ nL pc L S := by
  intro sg
  induction sg with
  | nil =>
    intro pc L S hc hr
    cases hr
    have e : pc = pc' := by simpa [chk] using hc
    rw [e]
    exact k
  | cons q r ih =>
    obtain ⟨i, v⟩ := q
    intro pc L S hc hr
    simp only [chk, Bool.and_eq_true] at hc
    obtain ⟨⟨h1, h2⟩, h3⟩ := hc
    simp only [run] at hr
    split at hr
    · rename_i L1 S1 e
      refine aw_run1 hx hb ?_ h2 e (ih _ _ _ h3 hr)
      split at h1
      · rename_i z ez
        rw [ez, of_decide_eq_true h1]
      · cases h1
    · cases hr
/-- fewer locals, in any order: by their places -/
theorem aw_sub {L L' : List (Nat × Value)} {S : List Value} (ks : List Nat) (h : ks.filterMap (fun k => L[k]?) = L') (k : Aw p l e R s m args below meth c H locs cells slots Q ρ nL pc L' S) : Aw p l e R s m args below meth c H locs cells slots Q ρ nL pc L S := by
  intro ls hL
  refine k ls (lv_sub hL ks ?_)
  rw [← h]
  clear h hL k
  induction ks with
  | nil => rfl
  | cons a r ih =>
    unfold lv_pick at ih ⊢
    rw [List.filterMap_cons, List.filterMap_cons, List.getElem?_map]
    cases L[a]? with
    | none => simpa using ih
    | some q => simpa using ih
end AwR
