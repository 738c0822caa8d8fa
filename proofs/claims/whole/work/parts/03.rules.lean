/-! rules: my walks At, Sm -/
section At0
variable (K : Ctx) (y : Sys) (nL : Nat) (Q : State → Prop)
/-- the walk from a frame, for every heap that holds the table τ -/
def At (pc : Nat) (L : List (Nat × Value)) (S : List Value) (τ : Tau) : Prop :=
  ∀ (H : Heap) (locs : List Loc) (ls : Array Slot), lv_has ls nL (L.map fun q => (q.1, cv K.2.2.2.2.2.2.2.2.2.2.2.2.2.2 q.2)) → va_P K.2.2.2.2.2.2.2.2.2.2.2.2.1 vwCl (wl K.2.2.2.2.2.2.2.2.2.2.2.2.2.1 K.2.2.2.2.2.2.2.2.2.2.2.2.2.2 y τ) H → va_S (fr K.2.2.2.2.2.2.2.2.2.2.2.2.2.2 y) K.2.2.2.2.1.heap H locs →
    W K.1 K.2.1 K.2.2.1 K.2.2.2.1 K.2.2.2.2.1 K.2.2.2.2.2.1 K.2.2.2.2.2.2.1 K.2.2.2.2.2.2.2.1 K.2.2.2.2.2.2.2.2.1 K.2.2.2.2.2.2.2.2.2.1 H locs K.2.2.2.2.2.2.2.2.2.2.1 K.2.2.2.2.2.2.2.2.2.2.2.1 Q (F0 K.2.2.2.2.2.1 pc ls (S.map (cv K.2.2.2.2.2.2.2.2.2.2.2.2.2.2)))
end At0
/-- what holds all through a method -/
def Cx (K : Ctx) (y : Sys) (own : String) (cc : ByteArray) (nL d : Nat) : Prop :=
  K.1.tables.exec = Jvm.exec ∧ K.2.2.2.2.2.2.2.2.2.1.code = cc ∧ K.2.2.2.2.2.2.2.2.2.1.maxLocals = nL ∧ K.2.2.2.2.1.vm.findClass own = some K.2.2.2.2.2.1.cls ∧ (∀ w ∈ lw_g, w.before K.2.2.2.2.2.2.1 K.2.2.2.2.1 = true) ∧
  (d ≤ K.2.2.2.1.frames ∧ 64 * d ≤ K.2.2.2.1.locals ∧ K.2.2.2.2.2.2.2.2.2.2.1 ≤ K.2.2.2.1.cells ∧ K.2.2.2.2.2.2.2.2.2.2.2.1 ≤ K.2.2.2.1.slots) ∧
  Stt K.2.2.2.2.2.2.2.2.2.2.2.2.1 K.2.2.2.2.2.2.2.2.2.2.2.2.2.1 K.2.2.2.2.2.2.2.2.2.2.2.2.2.2 y K.2.2.2.2.1 K.2.2.2.2.1.heap ∧ K.2.2.2.2.2.2.2.2.1.locks = false
def lk : List (Nat × Value) → Nat → Option Value
  | [], _ => none
  | q :: r, i => if q.1 = i then some q.2 else lk r i
theorem lk_mem {L : List (Nat × Value)} {i : Nat} {v : Value} (h : lk L i = some v) : (i, v) ∈ L := by
  induction L with
  | nil => cases h
  | cons q r ih =>
    unfold lk at h
    by_cases e : q.1 = i
    · rw [if_pos e] at h
      cases h
      subst e
      exact List.mem_cons_self
    · rw [if_neg e] at h
      exact List.mem_cons_of_mem _ (ih h)
theorem lk_at {ls : Array Slot} {nL : Nat} {L : List (Nat × Value)} {ρ : Nat → Nat} (h : lv_has ls nL (L.map fun q => (q.1, cv ρ q.2))) {i : Nat} {v : Value} (hk : lk L i = some v) : ls[i]? = some (.val (cv ρ v)) :=
  h.2.2 (i, cv ρ v) (List.mem_map.mpr ⟨(i, v), lk_mem hk, rfl⟩)
def f1 (i : Nat) (q : Nat × Value) : Bool := !(q.1 == i) && !(q.1 + 1 == i && q.2.category == 2)
def f2 (i : Nat) (q : Nat × Value) : Bool := !(q.1 == i) && (!(q.1 == i + 1) && !(q.1 + 1 == i && q.2.category == 2))
theorem f1_map {ρ : Nat → Nat} (i : Nat) (v : Value) (L : List (Nat × Value)) : (i, cv ρ v) :: (L.map fun q => (q.1, cv ρ q.2)).filter (fun q => !(q.1 == i) && !(q.1 + 1 == i && q.2.category == 2)) = ((i, v) :: L.filter (f1 i)).map fun q => (q.1, cv ρ q.2) := by
  rw [List.map_cons, List.filter_map]
  congr 2
  apply List.filter_congr
  intro q _
  simp [f1, cv_cat]
theorem f2_map {ρ : Nat → Nat} (i : Nat) (v : Value) (L : List (Nat × Value)) : (i, cv ρ v) :: (L.map fun q => (q.1, cv ρ q.2)).filter (fun q => !(q.1 == i) && (!(q.1 == i + 1) && !(q.1 + 1 == i && q.2.category == 2))) = ((i, v) :: L.filter (f2 i)).map fun q => (q.1, cv ρ q.2) := by
  rw [List.map_cons, List.filter_map]
  congr 2
  apply List.filter_congr
  intro q _
  simp [f2, cv_cat]
abbrev Seg : Type := List (Instr × Int32)
def ilen : Instr → Nat
  | .bipush _ => 2 | .iload _ => 2 | .aload _ => 2 | .lload _ => 2 | .istore _ => 2 | .astore _ => 2 | .lstore _ => 2
  | .sipush _ => 3 | .iinc _ _ => 3 | .goto _ => 3
  | _ => 1
/-- one instruction that touches neither heap nor other methods -/
def run1 (nL : Nat) (i : Instr) (v : Int32) (L : List (Nat × Value)) (S : List Value) : Option (List (Nat × Value) × List Value) :=
  match i with
  | .iconst _ => some (L, .int v :: S)
  | .bipush _ => some (L, .int v :: S)
  | .sipush _ => some (L, .int v :: S)
  | .lconst n => some (L, .long (Int64.ofNat n) :: S)
  | .goto _ => some (L, S)
  | .iload k => match lk L k with | some (.int x) => some (L, .int x :: S) | _ => none
  | .iload_n k => match lk L k with | some (.int x) => some (L, .int x :: S) | _ => none
  | .aload k => match lk L k with | some (.ref x) => some (L, .ref x :: S) | _ => none
  | .aload_n k => match lk L k with | some (.ref x) => some (L, .ref x :: S) | _ => none
  | .lload k => match lk L k with | some (.long x) => some (L, .long x :: S) | _ => none
  | .lload_n k => match lk L k with | some (.long x) => some (L, .long x :: S) | _ => none
  | .iinc k _ => match lk L k with | some (.int x) => if k < nL then some ((k, .int (x + v)) :: L.filter (f1 k), S) else none | _ => none
  | .istore k => match S with | .int x :: S => if k < nL then some ((k, .int x) :: L.filter (f1 k), S) else none | _ => none
  | .istore_n k => match S with | .int x :: S => if (k : Nat) < nL then some ((k, .int x) :: L.filter (f1 k), S) else none | _ => none
  | .astore k => match S with | .ref x :: S => if k < nL then some ((k, .ref x) :: L.filter (f1 k), S) else none | _ => none
  | .astore_n k => match S with | .ref x :: S => if (k : Nat) < nL then some ((k, .ref x) :: L.filter (f1 k), S) else none | _ => none
  | .lstore k => match S with | .long x :: S => if k + 1 < nL then some ((k, .long x) :: L.filter (f2 k), S) else none | _ => none
  | .lstore_n k => match S with | .long x :: S => if (k : Nat) + 1 < nL then some ((k, .long x) :: L.filter (f2 k), S) else none | _ => none
  | .iadd => match S with | .int b :: .int a :: S => some (L, .int (a + b) :: S) | _ => none
  | .isub => match S with | .int b :: .int a :: S => some (L, .int (a - b) :: S) | _ => none
  | .imul => match S with | .int b :: .int a :: S => some (L, .int (a * b) :: S) | _ => none
  | .iand => match S with | .int b :: .int a :: S => some (L, .int (a &&& b) :: S) | _ => none
  | .ior => match S with | .int b :: .int a :: S => some (L, .int (a ||| b) :: S) | _ => none
  | .ixor => match S with | .int b :: .int a :: S => some (L, .int (a ^^^ b) :: S) | _ => none
  | .ishl => match S with | .int b :: .int a :: S => some (L, .int (a <<< (b &&& 31)) :: S) | _ => none
  | .ishr => match S with | .int b :: .int a :: S => some (L, .int (a >>> (b &&& 31)) :: S) | _ => none
  | .iushr => match S with | .int b :: .int a :: S => some (L, .int ((a.toUInt32 >>> (b.toUInt32 &&& Int32.toUInt32 31)).toInt32) :: S) | _ => none
  | .lmul => match S with | .long b :: .long a :: S => some (L, .long (a * b) :: S) | _ => none
  | .i2l => match S with | .int a :: S => some (L, .long a.toInt64 :: S) | _ => none
  | .l2i => match S with | .long a :: S => some (L, .int a.toInt32 :: S) | _ => none
  | .i2c => match S with | .int a :: S => some (L, .int (a.toUInt32 % 65536).toInt32 :: S) | _ => none
  | .dup => match S with | .int a :: S => some (L, .int a :: .int a :: S) | .ref a :: S => some (L, .ref a :: .ref a :: S) | _ => none
  | .pop => match S with | .int _ :: S => some (L, S) | .ref _ :: S => some (L, S) | _ => none
  | .dup2 => match S with | .int a :: .ref b :: S => some (L, .int a :: .ref b :: .int a :: .ref b :: S) | .int a :: .int b :: S => some (L, .int a :: .int b :: .int a :: .int b :: S) | _ => none
  | .dup_x1 => match S with | .int a :: .ref b :: S => some (L, .int a :: .ref b :: .int a :: S) | _ => none
  | .dup_x2 => match S with | .int a :: .int b :: .ref c :: S => some (L, .int a :: .int b :: .ref c :: .int a :: S) | _ => none
  | _ => none
def run (nL : Nat) : Seg → List (Nat × Value) → List Value → Option (List (Nat × Value) × List Value)
  | [], L, S => some (L, S)
  | (i, v) :: r, L, S => match run1 nL i v L S with | some (L, S) => run nL r L S | none => none
def nxt (i : Instr) (pc : Nat) : Nat := match i with
  | .goto off => ((pc : Int) + off).toNat
  | _ => pc + ilen i
def lit (i : Instr) (v : Int32) (pc : Nat) : Bool := match i with
  | .iconst n => decide (Int32.ofInt n = v)
  | .bipush n => decide ((Int8.ofInt n).toInt32 = v)
  | .sipush n => decide ((Int16.ofInt n).toInt32 = v)
  | .iinc _ n => decide (Int32.ofInt n = v)
  | .goto off => decide (0 ≤ (pc : Int) + off)
  | _ => true
def chk (cc : ByteArray) (pc : Nat) : Seg → Nat → Bool
  | [], pc' => pc == pc'
  | (i, v) :: r, pc' => (match decode cc pc with | .ok q => decide (q = (i, ilen i)) | _ => false) && lit i v pc && chk cc (nxt i pc) r pc'
section AtR
variable {K : Ctx} {y : Sys} {nL d : Nat} {Q : State → Prop} {own : String} {cc : ByteArray} {pc : Nat} {L : List (Nat × Value)} {S : List Value} {τ : Tau}
theorem at_iconst (C : Cx K y own cc nL d) {n : Int} {v : Int32} (hd : decode cc pc = .ok (.iconst n, 1)) (hv : Int32.ofInt n = v) (k : At K y nL Q (pc + 1) L (.int v :: S) τ) : At K y nL Q pc L S τ := by
  obtain ⟨p, l, e, R, s, m, args, below, meth, c, cells, slots, D, cA, ρ⟩ := K
  obtain ⟨hx, hb, hml, hown, hts, hR, hst, hlk⟩ := C
  intro H locs ls hL hP hS
  exact lv_iconst hx hb hd hv (k H locs ls hL hP hS)
theorem at_bipush (C : Cx K y own cc nL d) {n : Int} {v : Int32} (hd : decode cc pc = .ok (.bipush n, 2)) (hv : (Int8.ofInt n).toInt32 = v) (k : At K y nL Q (pc + 2) L (.int v :: S) τ) : At K y nL Q pc L S τ := by
  obtain ⟨p, l, e, R, s, m, args, below, meth, c, cells, slots, D, cA, ρ⟩ := K
  obtain ⟨hx, hb, hml, hown, hts, hR, hst, hlk⟩ := C
  intro H locs ls hL hP hS
  exact lv_bipush hx hb hd hv (k H locs ls hL hP hS)
theorem at_sipush (C : Cx K y own cc nL d) {n : Int} {v : Int32} (hd : decode cc pc = .ok (.sipush n, 3)) (hv : (Int16.ofInt n).toInt32 = v) (k : At K y nL Q (pc + 3) L (.int v :: S) τ) : At K y nL Q pc L S τ := by
  obtain ⟨p, l, e, R, s, m, args, below, meth, c, cells, slots, D, cA, ρ⟩ := K
  obtain ⟨hx, hb, hml, hown, hts, hR, hst, hlk⟩ := C
  intro H locs ls hL hP hS
  exact lv_sipush hx hb hd hv (k H locs ls hL hP hS)
theorem at_lconst (C : Cx K y own cc nL d) {n : Fin 2} (hd : decode cc pc = .ok (.lconst n, 1))  (k : At K y nL Q (pc + 1) L (.long (Int64.ofNat n) :: S) τ) : At K y nL Q pc L S τ := by
  obtain ⟨p, l, e, R, s, m, args, below, meth, c, cells, slots, D, cA, ρ⟩ := K
  obtain ⟨hx, hb, hml, hown, hts, hR, hst, hlk⟩ := C
  intro H locs ls hL hP hS
  exact lv_lconst hx hb hd rfl (k H locs ls hL hP hS)
theorem at_iload (C : Cx K y own cc nL d) {i : Nat} {x : Int32} (hd : decode cc pc = .ok (.iload i, 2)) (hl : lk L i = some (.int x)) (k : At K y nL Q (pc + 2) L (.int x :: S) τ) : At K y nL Q pc L S τ := by
  obtain ⟨p, l, e, R, s, m, args, below, meth, c, cells, slots, D, cA, ρ⟩ := K
  obtain ⟨hx, hb, hml, hown, hts, hR, hst, hlk⟩ := C
  intro H locs ls hL hP hS
  exact lv_iload hx hb hd (lk_at hL hl) (k H locs ls hL hP hS)
theorem at_iload_n (C : Cx K y own cc nL d) {i : Fin 4} {x : Int32} (hd : decode cc pc = .ok (.iload_n i, 1)) (hl : lk L i = some (.int x)) (k : At K y nL Q (pc + 1) L (.int x :: S) τ) : At K y nL Q pc L S τ := by
  obtain ⟨p, l, e, R, s, m, args, below, meth, c, cells, slots, D, cA, ρ⟩ := K
  obtain ⟨hx, hb, hml, hown, hts, hR, hst, hlk⟩ := C
  intro H locs ls hL hP hS
  exact lv_iload_n hx hb hd rfl (lk_at hL hl) (k H locs ls hL hP hS)
theorem at_istore (C : Cx K y own cc nL d) {i : Nat} {x : Int32} (hd : decode cc pc = .ok (.istore i, 2)) (hn : i < nL) (k : At K y nL Q (pc + 2) ((i, .int x) :: L.filter (f1 i)) S τ) : At K y nL Q pc L (.int x :: S) τ := by
  obtain ⟨p, l, e, R, s, m, args, below, meth, c, cells, slots, D, cA, ρ⟩ := K
  obtain ⟨hx, hb, hml, hown, hts, hR, hst, hlk⟩ := C
  intro H locs ls hL hP hS
  exact lv_istore hx hb hd hL hn (f1_map (ρ := ρ) i (.int x) L) (fun ls' h' => k H locs ls' h' hP hS)
theorem at_istore_n (C : Cx K y own cc nL d) {i : Fin 4} {x : Int32} (hd : decode cc pc = .ok (.istore_n i, 1)) (hn : (i : Nat) < nL) (k : At K y nL Q (pc + 1) ((i, .int x) :: L.filter (f1 i)) S τ) : At K y nL Q pc L (.int x :: S) τ := by
  obtain ⟨p, l, e, R, s, m, args, below, meth, c, cells, slots, D, cA, ρ⟩ := K
  obtain ⟨hx, hb, hml, hown, hts, hR, hst, hlk⟩ := C
  intro H locs ls hL hP hS
  exact lv_istore_n hx hb hd rfl hL hn (f1_map (ρ := ρ) i (.int x) L) (fun ls' h' => k H locs ls' h' hP hS)
theorem at_aload (C : Cx K y own cc nL d) {i : Nat} {x : Nat} (hd : decode cc pc = .ok (.aload i, 2)) (hl : lk L i = some (.ref x)) (k : At K y nL Q (pc + 2) L (.ref x :: S) τ) : At K y nL Q pc L S τ := by
  obtain ⟨p, l, e, R, s, m, args, below, meth, c, cells, slots, D, cA, ρ⟩ := K
  obtain ⟨hx, hb, hml, hown, hts, hR, hst, hlk⟩ := C
  intro H locs ls hL hP hS
  exact lv_aload hx hb hd (lk_at hL hl) (k H locs ls hL hP hS)
theorem at_aload_n (C : Cx K y own cc nL d) {i : Fin 4} {x : Nat} (hd : decode cc pc = .ok (.aload_n i, 1)) (hl : lk L i = some (.ref x)) (k : At K y nL Q (pc + 1) L (.ref x :: S) τ) : At K y nL Q pc L S τ := by
  obtain ⟨p, l, e, R, s, m, args, below, meth, c, cells, slots, D, cA, ρ⟩ := K
  obtain ⟨hx, hb, hml, hown, hts, hR, hst, hlk⟩ := C
  intro H locs ls hL hP hS
  exact lv_aload_n hx hb hd rfl (lk_at hL hl) (k H locs ls hL hP hS)
theorem at_astore (C : Cx K y own cc nL d) {i : Nat} {x : Nat} (hd : decode cc pc = .ok (.astore i, 2)) (hn : i < nL) (k : At K y nL Q (pc + 2) ((i, .ref x) :: L.filter (f1 i)) S τ) : At K y nL Q pc L (.ref x :: S) τ := by
  obtain ⟨p, l, e, R, s, m, args, below, meth, c, cells, slots, D, cA, ρ⟩ := K
  obtain ⟨hx, hb, hml, hown, hts, hR, hst, hlk⟩ := C
  intro H locs ls hL hP hS
  exact lv_astore hx hb hd hL hn (f1_map (ρ := ρ) i (.ref x) L) (fun ls' h' => k H locs ls' h' hP hS)
theorem at_astore_n (C : Cx K y own cc nL d) {i : Fin 4} {x : Nat} (hd : decode cc pc = .ok (.astore_n i, 1)) (hn : (i : Nat) < nL) (k : At K y nL Q (pc + 1) ((i, .ref x) :: L.filter (f1 i)) S τ) : At K y nL Q pc L (.ref x :: S) τ := by
  obtain ⟨p, l, e, R, s, m, args, below, meth, c, cells, slots, D, cA, ρ⟩ := K
  obtain ⟨hx, hb, hml, hown, hts, hR, hst, hlk⟩ := C
  intro H locs ls hL hP hS
  exact lv_astore_n hx hb hd rfl hL hn (f1_map (ρ := ρ) i (.ref x) L) (fun ls' h' => k H locs ls' h' hP hS)
theorem at_lload (C : Cx K y own cc nL d) {i : Nat} {x : Int64} (hd : decode cc pc = .ok (.lload i, 2)) (hl : lk L i = some (.long x)) (k : At K y nL Q (pc + 2) L (.long x :: S) τ) : At K y nL Q pc L S τ := by
  obtain ⟨p, l, e, R, s, m, args, below, meth, c, cells, slots, D, cA, ρ⟩ := K
  obtain ⟨hx, hb, hml, hown, hts, hR, hst, hlk⟩ := C
  intro H locs ls hL hP hS
  exact lv_lload hx hb hd (lk_at hL hl) (k H locs ls hL hP hS)
theorem at_lload_n (C : Cx K y own cc nL d) {i : Fin 4} {x : Int64} (hd : decode cc pc = .ok (.lload_n i, 1)) (hl : lk L i = some (.long x)) (k : At K y nL Q (pc + 1) L (.long x :: S) τ) : At K y nL Q pc L S τ := by
  obtain ⟨p, l, e, R, s, m, args, below, meth, c, cells, slots, D, cA, ρ⟩ := K
  obtain ⟨hx, hb, hml, hown, hts, hR, hst, hlk⟩ := C
  intro H locs ls hL hP hS
  exact lv_lload_n hx hb hd rfl (lk_at hL hl) (k H locs ls hL hP hS)
theorem at_lstore (C : Cx K y own cc nL d) {i : Nat} {x : Int64} (hd : decode cc pc = .ok (.lstore i, 2)) (hn : i + 1 < nL) (k : At K y nL Q (pc + 2) ((i, .long x) :: L.filter (f2 i)) S τ) : At K y nL Q pc L (.long x :: S) τ := by
  obtain ⟨p, l, e, R, s, m, args, below, meth, c, cells, slots, D, cA, ρ⟩ := K
  obtain ⟨hx, hb, hml, hown, hts, hR, hst, hlk⟩ := C
  intro H locs ls hL hP hS
  exact lv_lstore hx hb hd hL hn (f2_map (ρ := ρ) i (.long x) L) (fun ls' h' => k H locs ls' h' hP hS)
theorem at_lstore_n (C : Cx K y own cc nL d) {i : Fin 4} {x : Int64} (hd : decode cc pc = .ok (.lstore_n i, 1)) (hn : (i : Nat) + 1 < nL) (k : At K y nL Q (pc + 1) ((i, .long x) :: L.filter (f2 i)) S τ) : At K y nL Q pc L (.long x :: S) τ := by
  obtain ⟨p, l, e, R, s, m, args, below, meth, c, cells, slots, D, cA, ρ⟩ := K
  obtain ⟨hx, hb, hml, hown, hts, hR, hst, hlk⟩ := C
  intro H locs ls hL hP hS
  exact lv_lstore_n hx hb hd rfl hL hn (f2_map (ρ := ρ) i (.long x) L) (fun ls' h' => k H locs ls' h' hP hS)
theorem at_iinc (C : Cx K y own cc nL d) {i : Nat} {n : Int} {x v : Int32} (hd : decode cc pc = .ok (.iinc i n, 3)) (hv : Int32.ofInt n = v) (hl : lk L i = some (.int x)) (hn : i < nL) (k : At K y nL Q (pc + 3) ((i, .int (x + v)) :: L.filter (f1 i)) S τ) : At K y nL Q pc L S τ := by
  obtain ⟨p, l, e, R, s, m, args, below, meth, c, cells, slots, D, cA, ρ⟩ := K
  obtain ⟨hx, hb, hml, hown, hts, hR, hst, hlk⟩ := C
  intro H locs ls hL hP hS
  subst hv
  obtain ⟨q, hq⟩ := List.getElem?_of_mem (List.mem_map.mpr ⟨(i, Value.int x), lk_mem hl, rfl⟩ : (i, cv ρ (.int x)) ∈ L.map fun q => (q.1, cv ρ q.2))
  exact lv_iinc hx hb hd hL hq rfl hn (f1_map (ρ := ρ) i (.int (x + Int32.ofInt n)) L) (fun ls' h' => k H locs ls' h' hP hS)
theorem at_iadd (C : Cx K y own cc nL d) {x z : Int32} (hd : decode cc pc = .ok (.iadd, 1))  (k : At K y nL Q (pc + 1) L (.int (x + z) :: S) τ) : At K y nL Q pc L (.int z :: .int x :: S) τ := by
  obtain ⟨p, l, e, R, s, m, args, below, meth, c, cells, slots, D, cA, ρ⟩ := K
  obtain ⟨hx, hb, hml, hown, hts, hR, hst, hlk⟩ := C
  intro H locs ls hL hP hS
  exact lv_iadd hx hb hd (k H locs ls hL hP hS)
theorem at_isub (C : Cx K y own cc nL d) {x z : Int32} (hd : decode cc pc = .ok (.isub, 1))  (k : At K y nL Q (pc + 1) L (.int (x - z) :: S) τ) : At K y nL Q pc L (.int z :: .int x :: S) τ := by
  obtain ⟨p, l, e, R, s, m, args, below, meth, c, cells, slots, D, cA, ρ⟩ := K
  obtain ⟨hx, hb, hml, hown, hts, hR, hst, hlk⟩ := C
  intro H locs ls hL hP hS
  exact lv_isub hx hb hd (k H locs ls hL hP hS)
theorem at_imul (C : Cx K y own cc nL d) {x z : Int32} (hd : decode cc pc = .ok (.imul, 1))  (k : At K y nL Q (pc + 1) L (.int (x * z) :: S) τ) : At K y nL Q pc L (.int z :: .int x :: S) τ := by
  obtain ⟨p, l, e, R, s, m, args, below, meth, c, cells, slots, D, cA, ρ⟩ := K
  obtain ⟨hx, hb, hml, hown, hts, hR, hst, hlk⟩ := C
  intro H locs ls hL hP hS
  exact lv_imul hx hb hd (k H locs ls hL hP hS)
theorem at_iand (C : Cx K y own cc nL d) {x z : Int32} (hd : decode cc pc = .ok (.iand, 1))  (k : At K y nL Q (pc + 1) L (.int (x &&& z) :: S) τ) : At K y nL Q pc L (.int z :: .int x :: S) τ := by
  obtain ⟨p, l, e, R, s, m, args, below, meth, c, cells, slots, D, cA, ρ⟩ := K
  obtain ⟨hx, hb, hml, hown, hts, hR, hst, hlk⟩ := C
  intro H locs ls hL hP hS
  exact lv_iand hx hb hd (k H locs ls hL hP hS)
theorem at_ior (C : Cx K y own cc nL d) {x z : Int32} (hd : decode cc pc = .ok (.ior, 1))  (k : At K y nL Q (pc + 1) L (.int (x ||| z) :: S) τ) : At K y nL Q pc L (.int z :: .int x :: S) τ := by
  obtain ⟨p, l, e, R, s, m, args, below, meth, c, cells, slots, D, cA, ρ⟩ := K
  obtain ⟨hx, hb, hml, hown, hts, hR, hst, hlk⟩ := C
  intro H locs ls hL hP hS
  exact lv_ior hx hb hd (k H locs ls hL hP hS)
theorem at_ixor (C : Cx K y own cc nL d) {x z : Int32} (hd : decode cc pc = .ok (.ixor, 1))  (k : At K y nL Q (pc + 1) L (.int (x ^^^ z) :: S) τ) : At K y nL Q pc L (.int z :: .int x :: S) τ := by
  obtain ⟨p, l, e, R, s, m, args, below, meth, c, cells, slots, D, cA, ρ⟩ := K
  obtain ⟨hx, hb, hml, hown, hts, hR, hst, hlk⟩ := C
  intro H locs ls hL hP hS
  exact lv_ixor hx hb hd (k H locs ls hL hP hS)
theorem at_ishl (C : Cx K y own cc nL d) {x z : Int32} (hd : decode cc pc = .ok (.ishl, 1))  (k : At K y nL Q (pc + 1) L (.int (x <<< (z &&& 31)) :: S) τ) : At K y nL Q pc L (.int z :: .int x :: S) τ := by
  obtain ⟨p, l, e, R, s, m, args, below, meth, c, cells, slots, D, cA, ρ⟩ := K
  obtain ⟨hx, hb, hml, hown, hts, hR, hst, hlk⟩ := C
  intro H locs ls hL hP hS
  exact lv_ishl hx hb hd (k H locs ls hL hP hS)
theorem at_ishr (C : Cx K y own cc nL d) {x z : Int32} (hd : decode cc pc = .ok (.ishr, 1))  (k : At K y nL Q (pc + 1) L (.int (x >>> (z &&& 31)) :: S) τ) : At K y nL Q pc L (.int z :: .int x :: S) τ := by
  obtain ⟨p, l, e, R, s, m, args, below, meth, c, cells, slots, D, cA, ρ⟩ := K
  obtain ⟨hx, hb, hml, hown, hts, hR, hst, hlk⟩ := C
  intro H locs ls hL hP hS
  exact lv_ishr hx hb hd (k H locs ls hL hP hS)
theorem at_iushr (C : Cx K y own cc nL d) {x z : Int32} (hd : decode cc pc = .ok (.iushr, 1))  (k : At K y nL Q (pc + 1) L (.int ((x.toUInt32 >>> (z.toUInt32 &&& Int32.toUInt32 31)).toInt32) :: S) τ) : At K y nL Q pc L (.int z :: .int x :: S) τ := by
  obtain ⟨p, l, e, R, s, m, args, below, meth, c, cells, slots, D, cA, ρ⟩ := K
  obtain ⟨hx, hb, hml, hown, hts, hR, hst, hlk⟩ := C
  intro H locs ls hL hP hS
  exact lv_iushr hx hb hd rfl (k H locs ls hL hP hS)
theorem at_lmul (C : Cx K y own cc nL d) {x z : Int64} (hd : decode cc pc = .ok (.lmul, 1))  (k : At K y nL Q (pc + 1) L (.long (x * z) :: S) τ) : At K y nL Q pc L (.long z :: .long x :: S) τ := by
  obtain ⟨p, l, e, R, s, m, args, below, meth, c, cells, slots, D, cA, ρ⟩ := K
  obtain ⟨hx, hb, hml, hown, hts, hR, hst, hlk⟩ := C
  intro H locs ls hL hP hS
  exact lv_lmul hx hb hd (k H locs ls hL hP hS)
theorem at_i2l (C : Cx K y own cc nL d) {x : Int32} (hd : decode cc pc = .ok (.i2l, 1))  (k : At K y nL Q (pc + 1) L (.long x.toInt64 :: S) τ) : At K y nL Q pc L (.int x :: S) τ := by
  obtain ⟨p, l, e, R, s, m, args, below, meth, c, cells, slots, D, cA, ρ⟩ := K
  obtain ⟨hx, hb, hml, hown, hts, hR, hst, hlk⟩ := C
  intro H locs ls hL hP hS
  exact lv_i2l hx hb hd rfl (k H locs ls hL hP hS)
theorem at_l2i (C : Cx K y own cc nL d) {x : Int64} (hd : decode cc pc = .ok (.l2i, 1))  (k : At K y nL Q (pc + 1) L (.int x.toInt32 :: S) τ) : At K y nL Q pc L (.long x :: S) τ := by
  obtain ⟨p, l, e, R, s, m, args, below, meth, c, cells, slots, D, cA, ρ⟩ := K
  obtain ⟨hx, hb, hml, hown, hts, hR, hst, hlk⟩ := C
  intro H locs ls hL hP hS
  exact lv_l2i hx hb hd rfl (k H locs ls hL hP hS)
theorem at_i2c (C : Cx K y own cc nL d) {x : Int32} (hd : decode cc pc = .ok (.i2c, 1))  (k : At K y nL Q (pc + 1) L (.int (x.toUInt32 % 65536).toInt32 :: S) τ) : At K y nL Q pc L (.int x :: S) τ := by
  obtain ⟨p, l, e, R, s, m, args, below, meth, c, cells, slots, D, cA, ρ⟩ := K
  obtain ⟨hx, hb, hml, hown, hts, hR, hst, hlk⟩ := C
  intro H locs ls hL hP hS
  exact lv_i2c hx hb hd rfl (k H locs ls hL hP hS)
theorem at_dup (C : Cx K y own cc nL d) {z : Value} (hd : decode cc pc = .ok (.dup, 1)) (hz : z.category = 1) (k : At K y nL Q (pc + 1) L (z :: z :: S) τ) : At K y nL Q pc L (z :: S) τ := by
  obtain ⟨p, l, e, R, s, m, args, below, meth, c, cells, slots, D, cA, ρ⟩ := K
  obtain ⟨hx, hb, hml, hown, hts, hR, hst, hlk⟩ := C
  intro H locs ls hL hP hS
  exact lv_dup hx hb hd (by rw [cv_cat]; exact hz) (k H locs ls hL hP hS)
theorem at_pop (C : Cx K y own cc nL d) {z : Value} (hd : decode cc pc = .ok (.pop, 1)) (hz : z.category = 1) (k : At K y nL Q (pc + 1) L S τ) : At K y nL Q pc L (z :: S) τ := by
  obtain ⟨p, l, e, R, s, m, args, below, meth, c, cells, slots, D, cA, ρ⟩ := K
  obtain ⟨hx, hb, hml, hown, hts, hR, hst, hlk⟩ := C
  intro H locs ls hL hP hS
  exact lv_pop hx hb hd (by rw [cv_cat]; exact hz) (k H locs ls hL hP hS)
theorem at_dup2 (C : Cx K y own cc nL d) {z w : Value} (hd : decode cc pc = .ok (.dup2, 1)) (hz : z.category = 1) (hw : w.category = 1) (k : At K y nL Q (pc + 1) L (z :: w :: z :: w :: S) τ) : At K y nL Q pc L (z :: w :: S) τ := by
  obtain ⟨p, l, e, R, s, m, args, below, meth, c, cells, slots, D, cA, ρ⟩ := K
  obtain ⟨hx, hb, hml, hown, hts, hR, hst, hlk⟩ := C
  intro H locs ls hL hP hS
  exact lv_dup2_11 hx hb hd (by rw [cv_cat]; exact hz) (by rw [cv_cat]; exact hw) (k H locs ls hL hP hS)
theorem at_dup_x1 (C : Cx K y own cc nL d) {z w : Value} (hd : decode cc pc = .ok (.dup_x1, 1)) (hz : z.category = 1) (hw : w.category = 1) (k : At K y nL Q (pc + 1) L (z :: w :: z :: S) τ) : At K y nL Q pc L (z :: w :: S) τ := by
  obtain ⟨p, l, e, R, s, m, args, below, meth, c, cells, slots, D, cA, ρ⟩ := K
  obtain ⟨hx, hb, hml, hown, hts, hR, hst, hlk⟩ := C
  intro H locs ls hL hP hS
  exact lv_dup_x1 hx hb hd (by rw [cv_cat]; exact hz) (by rw [cv_cat]; exact hw) (k H locs ls hL hP hS)
theorem at_dup_x2 (C : Cx K y own cc nL d) {z w u : Value} (hd : decode cc pc = .ok (.dup_x2, 1)) (hz : z.category = 1) (hw : w.category = 1) (hu : u.category = 1) (k : At K y nL Q (pc + 1) L (z :: w :: u :: z :: S) τ) : At K y nL Q pc L (z :: w :: u :: S) τ := by
  obtain ⟨p, l, e, R, s, m, args, below, meth, c, cells, slots, D, cA, ρ⟩ := K
  obtain ⟨hx, hb, hml, hown, hts, hR, hst, hlk⟩ := C
  intro H locs ls hL hP hS
  exact lv_dup_x2 hx hb hd (by rw [cv_cat]; exact hz) (by rw [cv_cat]; exact hw) (by rw [cv_cat]; exact hu) (k H locs ls hL hP hS)
theorem at_goto (C : Cx K y own cc nL d) {off : Int} (hd : decode cc pc = .ok (.goto off, 3)) (h0 : 0 ≤ (pc : Int) + off) (k : At K y nL Q ((pc : Int) + off).toNat L S τ) : At K y nL Q pc L S τ := by
  obtain ⟨p, l, e, R, s, m, args, below, meth, c, cells, slots, D, cA, ρ⟩ := K
  obtain ⟨hx, hb, hml, hown, hts, hR, hst, hlk⟩ := C
  intro H locs ls hL hP hS
  exact lv_goto hx hb hd (by omega) (k H locs ls hL hP hS)
end AtR
