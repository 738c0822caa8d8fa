/-! PURE PART. Literals under simp; views; the world's relation -/
theorem ald_lit {τ : Tau} {c n j : Nat} {k : Int32 → Option (Int32 × Tau)} (h : (OfNat.ofNat j : Nat) < n) (hj : (OfNat.ofNat j : Nat) < 2 ^ 31) : ald τ c n (OfNat.ofNat j) k = k (τ c (OfNat.ofNat j)) := ald_nI h hj
theorem ast_lit {τ : Tau} {c n j : Nat} {v : Int32} {k : Tau → Option (Int32 × Tau)} (h : (OfNat.ofNat j : Nat) < n) (hj : (OfNat.ofNat j : Nat) < 2 ^ 31) : ast τ c n (OfNat.ofNat j) v k = k (up τ c (OfNat.ofNat j) v) := ast_nI h hj
theorem litA {n m : Nat} : (OfNat.ofNat n : Int32) + nI m = nI (OfNat.ofNat n + m) := nI_add n m
theorem litM {n m : Nat} : (OfNat.ofNat n : Int32) * nI m = nI (OfNat.ofNat n * m) := nI_mul n m
theorem litA' {n m : Nat} : nI m + (OfNat.ofNat n : Int32) = nI (m + OfNat.ofNat n) := nI_add m n
theorem litS {n m : Nat} (h : (OfNat.ofNat n : Nat) ≤ m) : nI m - (OfNat.ofNat n : Int32) = nI (m - OfNat.ofNat n) := nI_sub h
theorem litS' {n m : Nat} (h : m ≤ (OfNat.ofNat n : Nat)) : (OfNat.ofNat n : Int32) - nI m = nI (OfNat.ofNat n - m) := nI_sub h
theorem lit_lt {n m : Nat} (hn : (OfNat.ofNat n : Nat) < 2 ^ 31) (hm : m < 2 ^ 31) : (nI m < (OfNat.ofNat n : Int32)) ↔ m < (OfNat.ofNat n : Nat) := nI_ltI hm hn
theorem lit_le {n m : Nat} (hn : (OfNat.ofNat n : Nat) < 2 ^ 31) (hm : m < 2 ^ 31) : (nI m ≤ (OfNat.ofNat n : Int32)) ↔ m ≤ (OfNat.ofNat n : Nat) := nI_leI hm hn
theorem lit_eq {n m : Nat} (hn : (OfNat.ofNat n : Nat) < 2 ^ 31) (hm : m < 2 ^ 31) : (nI m = (OfNat.ofNat n : Int32)) ↔ m = (OfNat.ofNat n : Nat) := nI_eq hm hn
theorem lit_lt' {n m : Nat} (hn : (OfNat.ofNat n : Nat) < 2 ^ 31) (hm : m < 2 ^ 31) : ((OfNat.ofNat n : Int32) < nI m) ↔ (OfNat.ofNat n : Nat) < m := nI_ltI hn hm
theorem lit_le' {n m : Nat} (hn : (OfNat.ofNat n : Nat) < 2 ^ 31) (hm : m < 2 ^ 31) : ((OfNat.ofNat n : Int32) ≤ nI m) ↔ (OfNat.ofNat n : Nat) ≤ m := nI_leI hn hm
theorem lit_eq' {n m : Nat} (hn : (OfNat.ofNat n : Nat) < 2 ^ 31) (hm : m < 2 ^ 31) : ((OfNat.ofNat n : Int32) = nI m) ↔ (OfNat.ofNat n : Nat) = m := nI_eq hn hm
theorem within_in {F lo hi j : Nat} {τ : Tau} (h : (OfNat.ofNat lo : Nat) ≤ j ∧ j ≤ (OfNat.ofNat hi : Nat)) (h2 : (OfNat.ofNat hi : Nat) < 2 ^ 31) : X10_within F (nI j) (OfNat.ofNat lo) (OfNat.ofNat hi) τ = some (1, τ) := by
  rw [X10_within_eq, bI_t (show (OfNat.ofNat lo : Int32) ≤ nI j ∧ nI j ≤ OfNat.ofNat hi from (in_iff (lo := OfNat.ofNat lo) (hi := OfNat.ofNat hi) (by omega) (by omega) (by omega)).mpr h)]
theorem within_out {F lo hi j : Nat} {τ : Tau} (h : j < (OfNat.ofNat lo : Nat) ∨ (OfNat.ofNat hi : Nat) < j) (hj : j < 2 ^ 31) (h1 : (OfNat.ofNat lo : Nat) < 2 ^ 31) (h2 : (OfNat.ofNat hi : Nat) < 2 ^ 31) : X10_within F (nI j) (OfNat.ofNat lo) (OfNat.ofNat hi) τ = some (0, τ) := by
  rw [X10_within_eq, bI_f (fun z => by have := (in_iff (lo := OfNat.ofNat lo) (hi := OfNat.ofNat hi) (by omega) (by omega) (by omega)).mp z; omega)]
/-- the parts of a table that a relation looks at -/
def lim (c : Nat) : Nat := if c = 38 then 2 else if 15 ≤ c ∧ c ≤ 31 ∧ c % 2 = 1 then 1 else lnX (1 + c)
def vX (b : Nat) (tx : Tau) : Tau := fun c j => if ((15 ≤ c ∧ c ≤ 43) ∨ (46 ≤ c ∧ c ≤ 50)) ∧ j < lim c then tx (b + c) j else 0
def vM (w : Nat → Int32) : Nat → Int32 := fun k => if (257 ≤ k ∧ k < 760) ∨ (1360 ≤ k ∧ k < 2244) then w k else 0
def rsX (lo hi : Nat) (x : Tau) : Tau := fun c j => if lo ≤ c ∧ c ≤ hi then x c j else 0
def rsM (lo hi : Nat) (w : Nat → Int32) : Nat → Int32 := fun k => if lo ≤ k ∧ k < hi then w k else 0
theorem vX_up {b c j : Nat} {tx : Tau} {v : Int32} (h : c < b + 15 ∨ b + 50 < c ∨ (b + 43 < c ∧ c < b + 46)) : vX b (up tx c j v) = vX b tx := by
  funext c' j'
  unfold vX
  by_cases hc : ((15 ≤ c' ∧ c' ≤ 43) ∨ (46 ≤ c' ∧ c' ≤ 50)) ∧ j' < lim c'
  · rw [if_pos hc, if_pos hc, up_nc (by omega)]
  · rw [if_neg hc, if_neg hc]
theorem vX_up1 {b c j : Nat} {tx : Tau} {v : Int32} (h : (15 ≤ c ∧ c ≤ 43) ∨ (46 ≤ c ∧ c ≤ 50)) (hj : j < lim c) : vX b (up tx (b + c) j v) = up (vX b tx) c j v := by
  funext c' j'
  unfold vX
  by_cases hc : ((15 ≤ c' ∧ c' ≤ 43) ∨ (46 ≤ c' ∧ c' ≤ 50)) ∧ j' < lim c'
  · rw [if_pos hc, up_if, up_if, if_pos hc]
    by_cases e : c' = c ∧ j' = j
    · rw [if_pos e, if_pos ⟨by omega, e.2⟩]
    · rw [if_neg e, if_neg]
      rintro ⟨e1, e2⟩
      exact e ⟨by omega, e2⟩
  · rw [if_neg hc, up_if, if_neg, if_neg hc]
    rintro ⟨rfl, rfl⟩
    exact hc ⟨h, hj⟩
theorem vX_congr {b : Nat} {tx tx' : Tau} (h : ∀ c j, (15 ≤ c ∧ c ≤ 43) ∨ (46 ≤ c ∧ c ≤ 50) → j < lim c → tx' (b + c) j = tx (b + c) j) : vX b tx' = vX b tx := by
  funext c' j'
  unfold vX
  by_cases hc : ((15 ≤ c' ∧ c' ≤ 43) ∨ (46 ≤ c' ∧ c' ≤ 50)) ∧ j' < lim c'
  · rw [if_pos hc, if_pos hc, h _ _ hc.1 hc.2]
  · rw [if_neg hc, if_neg hc]
theorem vM_upd {w : Nat → Int32} {k : Nat} {v : Int32} (h : k < 257 ∨ (760 ≤ k ∧ k < 1360) ∨ 2244 ≤ k) : vM (upd w k v) = vM w := by
  funext k'
  unfold vM
  by_cases hc : (257 ≤ k' ∧ k' < 760) ∨ (1360 ≤ k' ∧ k' < 2244)
  · rw [if_pos hc, if_pos hc, upd_n (by omega)]
  · rw [if_neg hc, if_neg hc]
theorem vM_upd1 {w : Nat → Int32} {k : Nat} {v : Int32} (h : (257 ≤ k ∧ k < 760) ∨ (1360 ≤ k ∧ k < 2244)) : vM (upd w k v) = upd (vM w) k v := by
  funext k'
  by_cases e : k' = k
  · subst e
    rw [upd_k]
    unfold vM
    rw [if_pos h, upd_k]
  · rw [upd_n e]
    unfold vM
    rw [upd_n e]
theorem vM_congr {w w' : Nat → Int32} (h : ∀ k, (257 ≤ k ∧ k < 760) ∨ (1360 ≤ k ∧ k < 2244) → w' k = w k) : vM w' = vM w := by
  funext k'
  unfold vM
  by_cases hc : (257 ≤ k' ∧ k' < 760) ∨ (1360 ≤ k' ∧ k' < 2244)
  · rw [if_pos hc, if_pos hc, h _ hc]
  · rw [if_neg hc, if_neg hc]
theorem vX_at {b c j : Nat} {tx : Tau} (h : (15 ≤ c ∧ c ≤ 43) ∨ (46 ≤ c ∧ c ≤ 50)) (hj : j < lim c) : vX b tx c j = tx (b + c) j := if_pos ⟨h, hj⟩
theorem vM_at {w : Nat → Int32} {k : Nat} (h : (257 ≤ k ∧ k < 760) ∨ (1360 ≤ k ∧ k < 2244)) : vM w k = w k := if_pos h
theorem rsX_at {lo hi c j : Nat} {x : Tau} (h : lo ≤ c ∧ c ≤ hi) : rsX lo hi x c j = x c j := if_pos h
theorem rsM_at {lo hi k : Nat} {w : Nat → Int32} (h : lo ≤ k ∧ k < hi) : rsM lo hi w k = w k := if_pos h
theorem rsX_up {lo hi c j : Nat} {x : Tau} {v : Int32} (h : c < lo ∨ hi < c) : rsX lo hi (up x c j v) = rsX lo hi x := by
  funext c' j'
  unfold rsX
  by_cases hc : lo ≤ c' ∧ c' ≤ hi
  · rw [if_pos hc, if_pos hc, up_nc (by omega)]
  · rw [if_neg hc, if_neg hc]
theorem rsM_upd {lo hi k : Nat} {w : Nat → Int32} {v : Int32} (h : k < lo ∨ hi ≤ k) : rsM lo hi (upd w k v) = rsM lo hi w := by
  funext k'
  unfold rsM
  by_cases hc : lo ≤ k' ∧ k' < hi
  · rw [if_pos hc, if_pos hc, upd_n (by omega)]
  · rw [if_neg hc, if_neg hc]
def rsL (w : Nat → Int32) : Nat → Int32 := fun k => if k = 257 ∨ (1360 ≤ k ∧ k < 2244) then w k else 0
theorem rsL_at {k : Nat} {w : Nat → Int32} (h : k = 257 ∨ (1360 ≤ k ∧ k < 2244)) : rsL w k = w k := if_pos h
theorem rsL_upd {k : Nat} {w : Nat → Int32} {v : Int32} (h : k ≠ 257 ∧ (k < 1360 ∨ 2244 ≤ k)) : rsL (upd w k v) = rsL w := by
  funext k'
  unfold rsL
  by_cases hc : k' = 257 ∨ (1360 ≤ k' ∧ k' < 2244)
  · rw [if_pos hc, if_pos hc, upd_n (by omega)]
  · rw [if_neg hc, if_neg hc]
theorem rsX_congr {lo hi : Nat} {x x' : Tau} (h : ∀ c j, lo ≤ c → c ≤ hi → x' c j = x c j) : rsX lo hi x' = rsX lo hi x := by
  funext c' j'
  unfold rsX
  by_cases hc : lo ≤ c' ∧ c' ≤ hi
  · rw [if_pos hc, if_pos hc, h _ _ hc.1 hc.2]
  · rw [if_neg hc, if_neg hc]
theorem rsM_congr {lo hi : Nat} {w w' : Nat → Int32} (h : ∀ k, lo ≤ k → k < hi → w' k = w k) : rsM lo hi w' = rsM lo hi w := by
  funext k'
  unfold rsM
  by_cases hc : lo ≤ k' ∧ k' < hi
  · rw [if_pos hc, if_pos hc, h _ hc.1 hc.2]
  · rw [if_neg hc, if_neg hc]
/-! THE LAW: steps (kind, number), their types, what the class keeps of them -/
def okOp (o : Nat × Nat) : Prop := (o.1 ≤ 10 ∨ (23 ≤ o.1 ∧ o.1 ≤ 32)) ∧ (o.1 = 0 → o.2 ≤ 9999) ∧ (o.1 = 26 → 1 ≤ o.2 ∧ o.2 ≤ 9999)
def enc (o : Nat × Nat) : List Nat := if o.1 = 0 then [32 + o.2] else if o.1 < 23 then [o.1 - 1] else if o.1 = 26 then [32 + o.2, 13] else if o.1 < 30 then [o.1 - 13] else if o.1 = 30 then [19] else [o.1 - 14]
def encs (l : List (Nat × Nat)) : List Nat := l.flatMap enc
def tstep (o : Nat × Nat) (s : List Bool) : Option (List Bool) :=
  if o.1 ≤ 10 then (if s.length < 31 then some (false :: s) else none)
  else match s with
    | [] => none
    | a :: r => if o.1 = 26 then (if a = false ∧ r.length < 30 then some (false :: r) else none) else if o.1 = 30 then (if a = true then some (true :: r) else none)
      else match r with
        | [] => none
        | b :: r => if o.1 ≤ 25 then (if a = false ∧ b = false then some (false :: r) else none) else if o.1 ≤ 29 then (if a = false ∧ b = false then some (true :: r) else none) else (if a = true ∧ b = true then some (true :: r) else none)
def tyc : List (Nat × Nat) → List Bool → Option (List Bool)
  | [], s => some s
  | o :: l, s => (tstep o s).bind (tyc l)
theorem tyc_append (l l' : List (Nat × Nat)) (s : List Bool) : tyc (l ++ l') s = (tyc l s).bind (tyc l') := by
  induction l generalizing s with
  | nil => rfl
  | cons o l ih =>
    show (tstep o s).bind (tyc (l ++ l')) = ((tstep o s).bind (tyc l)).bind (tyc l')
    cases tstep o s with
    | none => rfl
    | some s' => exact ih s'
def Lin (ops : List (Nat × Nat)) (i : Nat) (x : Tau) (w : Nat → Int32) : Prop := ∃ wd a m z, wd < 3 ∧ a ≤ m ∧ m ≤ z ∧ z ≤ ops.length ∧ w (1360 + i) = nI a ∧ w (1376 + i) = nI m ∧ w (1392 + i) = nI z ∧ w (1408 + i) = nI (20 + wd) ∧
  x 39 i = nI wd ∧ x 40 i = nI (encs (ops.take a)).length ∧ x 41 i = (if m = z then -1 else nI (encs (ops.take m)).length) ∧ x 42 i = nI (encs (ops.take z)).length ∧ tyc ((ops.take m).drop a) [] = some [false] ∧ (m < z → tyc ((ops.take z).drop m) [] = some [true])
def Rlaw (x : Tau) (w : Nat → Int32) : Prop := ∃ (ops : List (Nat × Nat)) (nL : Nat), ops.length ≤ 400 ∧ (encs ops).length ≤ 400 ∧ (∀ o ∈ ops, okOp o) ∧ (∀ i o, ops[i]? = some o → w (1424 + 2 * i) = nI o.1 ∧ (o.1 = 0 ∨ o.1 = 26 → w (1425 + 2 * i) = nI o.2)) ∧
  (∀ j v, (encs ops)[j]? = some v → x 43 j = nI v) ∧ x 38 1 = nI (encs ops).length ∧ nL ≤ 16 ∧ x 38 0 = nI nL ∧ w 257 = nI nL ∧ ∀ i, i < nL → Lin ops i x w
/-! the other parts of a world -/
def Rlin (x : Tau) (w : Nat → Int32) : Prop := w 258 = x 46 1 ∧ w 259 = x 46 2 ∧ w 260 = x 46 3
def Rsay (x : Tau) (w : Nat → Int32) : Prop := ∀ k, k < 120 → w (261 + k) = x 47 k
def Cou (nP nM i : Nat) (x : Tau) (w : Nat → Int32) : Prop := x 48 (4 * i) = w (381 + 4 * i) ∧
  ((∃ m p, m < nM ∧ p < nP ∧ x 48 (4 * i + 1) = 1 ∧ w (381 + 4 * i + 1) = 11 ∧ x 48 (4 * i + 2) = nI m ∧ w (381 + 4 * i + 2) = nI m ∧ x 48 (4 * i + 3) = nI p ∧ w (381 + 4 * i + 3) = nI p) ∨
   (∃ m, m < nM ∧ x 48 (4 * i + 1) = 2 ∧ w (381 + 4 * i + 1) = 12 ∧ x 48 (4 * i + 2) = nI m ∧ w (381 + 4 * i + 2) = nI m) ∨
   (∃ p, p < nP ∧ x 48 (4 * i + 1) = 3 ∧ w (381 + 4 * i + 1) = 13 ∧ x 48 (4 * i + 2) = nI p ∧ w (381 + 4 * i + 2) = nI p ∧ x 48 (4 * i + 3) = w (381 + 4 * i + 3)) ∨
   (∃ m, m < nM ∧ x 48 (4 * i + 1) = 4 ∧ w (381 + 4 * i + 1) = 14 ∧ x 48 (4 * i + 2) = nI m ∧ w (381 + 4 * i + 2) = nI m ∧ x 48 (4 * i + 3) = w (381 + 4 * i + 3)))
def Rcou (nP nM : Nat) (x : Tau) (w : Nat → Int32) : Prop := ∃ c, c ≤ 16 ∧ x 46 2 = nI c ∧ w 259 = nI c ∧ ∀ i, i < c → Cou nP nM i x w
def Rwan (q : Nat → Nat) (x : Tau) (w : Nat → Int32) : Prop := ∀ p, p < 10 → q p ≤ 6 ∧ x 50 p = nI (q p) ∧ w (445 + 7 * p) = nI (q p) ∧ ∀ j, j < q p → w (446 + 7 * p + j) = x 49 (6 * p + j)
/-- a told row: at c (its size), c + 1, and at a of the reference -/
def Rrow (c a cap : Nat) (P : Int32 → Prop) (x : Tau) (w : Nat → Int32) : Prop := ∃ s, s ≤ cap ∧ x c 0 = nI s ∧ w a = nI s ∧ ∀ i, i < s → x (c + 1) i = w (a + 1 + i) ∧ P (w (a + 1 + i))
def Rloa (x : Tau) (w : Nat → Int32) : Prop := ∃ s, s ≤ 10 ∧ x 21 0 = nI s ∧ w 608 = nI s ∧ ∀ i, i < s → ∃ g v, 1 ≤ g ∧ g ≤ 30 ∧ v ≤ 99 ∧ x 22 i = nI (100 * g + v) ∧ w (609 + 2 * i) = nI g ∧ w (610 + 2 * i) = nI v
def Rpro (x : Tau) (w : Nat → Int32) : Prop := ∃ s, s ≤ 12 ∧ x 23 0 = nI s ∧ w 629 = nI s ∧ ∀ i, i < s → ∃ a b h, a < 8 ∧ b < 8 ∧ h < 4 ∧ x 24 i = nI (64 * h + 8 * b + a) ∧ w (630 + 3 * i) = nI a ∧ w (631 + 3 * i) = nI b ∧ w (632 + 3 * i) = nI h
def Rbor (x : Tau) (w : Nat → Int32) : Prop := ∃ s, s ≤ 14 ∧ x 25 0 = nI s ∧ w 674 = nI s ∧ ∀ i, i < s → ∃ a b, a < 8 ∧ b < 8 ∧ a ≠ b ∧ x 26 i = nI (8 * a + b) ∧ w (675 + 2 * i) = nI a ∧ w (676 + 2 * i) = nI b
/-- an interpreter: five digits, each once -/
def dgt (r k : Nat) : Nat := r / 10 ^ (4 - k) % 10
def isIp (r : Nat) : Prop := r < 100000 ∧ (∀ k, k < 5 → dgt r k < 5) ∧ ∀ k l, k < 5 → l < 5 → dgt r k = dgt r l → k = l
def Rint (x : Tau) (w : Nat → Int32) : Prop := ∃ s, s ≤ 6 ∧ x 31 0 = nI s ∧ w 729 = nI s ∧ ∀ i, i < s → ∃ r, isIp r ∧ x 32 i = nI r ∧ ∀ k, k < 5 → w (730 + 5 * i + k) = nI (dgt r k)
def Rcel (c a n m : Nat) (x : Tau) (w : Nat → Int32) : Prop := ∀ k, k < n → ∃ v, v ≤ m ∧ x c k = nI v ∧ w (a + k) = nI v
def Rtab (x : Tau) (w : Nat → Int32) : Prop := ∀ k, k < 9 → x 34 k = w (554 + k) ∧ x 35 k = w (563 + k) ∧ -9 ≤ (w (554 + k)).toInt ∧ (w (554 + k)).toInt ≤ 9 ∧ -9 ≤ (w (563 + k)).toInt ∧ (w (563 + k)).toInt ≤ 9
def Wd0 (nP nM : Nat) (q : Nat → Nat) (x : Tau) (w : Nat → Int32) : Prop :=
  Rlin (rsX 46 46 x) (rsM 258 261 w) ∧ Rsay (rsX 47 47 x) (rsM 261 381 w) ∧ Rcou nP nM (rsX 46 48 x) (rsM 259 445 w) ∧ Rwan q (rsX 49 50 x) (rsM 445 515 w) ∧ Rlaw (rsX 38 43 x) (rsL w) ∧
  Rrow 15 515 8 (fun v => ∃ h, h < 12 ∧ v = nI h) (rsX 15 16 x) (rsM 515 524 w) ∧ Rrow 17 536 8 (fun v => v = -2 ∨ ∃ h, h < 16 ∧ v = nI h) (rsX 17 18 x) (rsM 536 545 w) ∧ Rrow 19 545 8 (fun v => ∃ h, 1 ≤ h ∧ h ≤ 99 ∧ v = nI h) (rsX 19 20 x) (rsM 545 554 w) ∧
  Rloa (rsX 21 22 x) (rsM 608 629 w) ∧ Rpro (rsX 23 24 x) (rsM 629 666 w) ∧ Rbor (rsX 25 26 x) (rsM 674 703 w) ∧ Rrow 27 703 12 (fun _ => True) (rsX 27 28 x) (rsM 703 716 w) ∧ Rrow 29 716 12 (fun _ => True) (rsX 29 30 x) (rsM 716 729 w) ∧ Rint (rsX 31 32 x) (rsM 729 760 w) ∧
  Rcel 33 524 12 99 (rsX 33 33 x) (rsM 524 536 w) ∧ Rtab (rsX 34 35 x) (rsM 554 572 w) ∧ Rcel 36 572 36 99 (rsX 36 36 x) (rsM 572 608 w) ∧ Rcel 37 666 8 255 (rsX 37 37 x) (rsM 666 674 w)
/-- the told things, texts and the law of the world at b, against the reference's row -/
def Wd (nP nM : Nat) (q : Nat → Nat) (b : Nat) (tx : Tau) (w : Nat → Int32) : Prop := Wd0 nP nM q (vX b tx) (vM w)
