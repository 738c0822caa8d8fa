/-! PURE PART. Maps: colourings counted colour by colour, and land by land -/
def insL (S : Nat → Bool) (l : Nat) : Nat → Bool := fun j => (j == l) || S j
def unL (c T : Nat → Bool) : Nat → Bool := fun j => c j || T j
def dfL (S T : Nat → Bool) : Nat → Bool := fun j => S j && !T j
def noL : Nat → Bool := fun _ => false
def ssL : Nat → (Nat → Bool) → ((Nat → Bool) → Nat) → Nat
  | 0, _, g => g noL
  | n + 1, S, g => ssL n S g + if S n = true then ssL n S (fun T => g (insL T n)) else 0
def empL (S : Nat → Bool) : Bool := (List.range 8).all fun j => !S j
def vL (ok : (Nat → Bool) → Bool) : List (Nat → Bool) → (Nat → Bool) → Nat
  | [], S => if empL S = true then 1 else 0
  | c :: cls, S => ssL 8 S (fun T => if ok (unL c T) = true then vL ok cls (dfL S T) else 0)
theorem ss_congr : ∀ n S (g g' : (Nat → Bool) → Nat), (∀ T, (∀ j, T j = true → S j = true ∧ j < n) → g T = g' T) → ssL n S g = ssL n S g' := by
  intro n
  induction n with
  | zero => intro S g g' h; exact h _ (fun j hj => absurd (show false = true from hj) (by decide))
  | succ n ih =>
    intro S g g' h
    show ssL n S g + (if S n = true then ssL n S (fun T => g (insL T n)) else 0) = ssL n S g' + if S n = true then ssL n S (fun T => g' (insL T n)) else 0
    rw [ih S g g' (fun T hT => h T (fun j hj => ⟨(hT j hj).1, by have := (hT j hj).2; omega⟩))]
    by_cases e : S n = true
    · rw [if_pos e, if_pos e, ih S _ (fun T => g' (insL T n)) (fun T hT => h _ (fun j hj => by
        unfold insL at hj
        by_cases q : j = n
        · subst q; exact ⟨e, by omega⟩
        · have : (j == n) = false := beq_eq_false_iff_ne.mpr q
          rw [this, Bool.false_or] at hj
          exact ⟨(hT j hj).1, by have := (hT j hj).2; omega⟩))]
    · rw [if_neg e, if_neg e]
theorem ss_add : ∀ n S (g g' : (Nat → Bool) → Nat), ssL n S (fun T => g T + g' T) = ssL n S g + ssL n S g' := by
  intro n
  induction n with
  | zero => intro S g g'; rfl
  | succ n ih =>
    intro S g g'
    show ssL n S (fun T => g T + g' T) + (if S n = true then ssL n S (fun T => g (insL T n) + g' (insL T n)) else 0) = (ssL n S g + if S n = true then ssL n S (fun T => g (insL T n)) else 0) + (ssL n S g' + if S n = true then ssL n S (fun T => g' (insL T n)) else 0)
    rw [ih S g g', ih S (fun T => g (insL T n)) (fun T => g' (insL T n))]
    split <;> omega
theorem ss_zero : ∀ n S, ssL n S (fun _ => 0) = 0 := by
  intro n
  induction n with
  | zero => intro S; rfl
  | succ n ih =>
    intro S
    show ssL n S (fun _ => 0) + (if S n = true then ssL n S (fun _ => 0) else 0) = 0
    rw [ih]
    split <;> rfl
theorem ss_low : ∀ n S S' (g : (Nat → Bool) → Nat), (∀ j, j < n → S j = S' j) → ssL n S g = ssL n S' g := by
  intro n
  induction n with
  | zero => intro S S' g _; rfl
  | succ n ih =>
    intro S S' g h
    show ssL n S g + (if S n = true then ssL n S (fun T => g (insL T n)) else 0) = ssL n S' g + if S' n = true then ssL n S' (fun T => g (insL T n)) else 0
    rw [ih S S' g (fun j hj => h j (by omega)), ih S S' (fun T => g (insL T n)) (fun j hj => h j (by omega)), h n (by omega)]
theorem ins_comm (T : Nat → Bool) (a b : Nat) : insL (insL T a) b = insL (insL T b) a := by
  funext j
  show ((j == b) || ((j == a) || T j)) = ((j == a) || ((j == b) || T j))
  cases (j == a) <;> cases (j == b) <;> rfl
theorem ins_ne {S : Nat → Bool} {l j : Nat} (h : j ≠ l) : insL S l j = S j := by
  show ((j == l) || S j) = S j
  rw [beq_eq_false_iff_ne.mpr h, Bool.false_or]
theorem ins_at {S : Nat → Bool} {l : Nat} : insL S l l = true := by
  show ((l == l) || S l) = true
  rw [beq_self_eq_true, Bool.true_or]
theorem ss_ins : ∀ n S l (g : (Nat → Bool) → Nat), l < n → S l = false → ssL n (insL S l) g = ssL n S (fun T => g T + g (insL T l)) := by
  intro n
  induction n with
  | zero => intro S l g h; exact absurd h (Nat.not_lt_zero l)
  | succ n ih =>
    intro S l g hl hS
    show ssL n (insL S l) g + (if insL S l n = true then ssL n (insL S l) (fun T => g (insL T n)) else 0) = ssL n S (fun T => g T + g (insL T l)) + if S n = true then ssL n S (fun T => g (insL T n) + g (insL (insL T n) l)) else 0
    by_cases e : l = n
    · subst e
      rw [if_pos ins_at, hS, if_neg (by decide), ss_low l (insL S l) S g (fun j hj => ins_ne (by omega)), ss_low l (insL S l) S (fun T => g (insL T l)) (fun j hj => ins_ne (by omega)), ← ss_add]
      rfl
    · rw [ins_ne (show n ≠ l from fun z => e z.symm), ih S l g (by omega) hS, ih S l (fun T => g (insL T n)) (by omega) hS]
      have : (fun T => g (insL T n) + g (insL (insL T n) l)) = fun T => g (insL T n) + g (insL (insL T l) n) := funext fun T => by rw [ins_comm T n l]
      rw [this]
def wL (ok : (Nat → Bool) → Bool) : List (Nat → Bool) → List (Nat → Bool) → Nat → (Nat → Bool) → Nat
  | _, [], _, _ => 0
  | pre, c :: cls, l, S => vL ok (pre ++ insL c l :: cls) S + wL ok (pre ++ [c]) cls l S
theorem ss_w (ok : (Nat → Bool) → Bool) (c : Nat → Bool) (l : Nat) (S : Nat → Bool) : ∀ cls pre, ssL 8 S (fun T => if ok (unL c T) = true then wL ok pre cls l (dfL S T) else 0) = wL ok (c :: pre) cls l S := by
  intro cls
  induction cls with
  | nil =>
    intro pre
    show ssL 8 S (fun T => if ok (unL c T) = true then 0 else 0) = 0
    have : (fun T => if ok (unL c T) = true then (0 : Nat) else 0) = fun _ => 0 := funext fun T => by split <;> rfl
    rw [this, ss_zero]
  | cons d cls ih =>
    intro pre
    have : (fun T => if ok (unL c T) = true then wL ok pre (d :: cls) l (dfL S T) else 0) = fun T => (if ok (unL c T) = true then vL ok (pre ++ insL d l :: cls) (dfL S T) else 0) + (if ok (unL c T) = true then wL ok (pre ++ [d]) cls l (dfL S T) else 0) := funext fun T => by
      show (if ok (unL c T) = true then vL ok (pre ++ insL d l :: cls) (dfL S T) + wL ok (pre ++ [d]) cls l (dfL S T) else 0) = _
      split <;> rfl
    rw [this, ss_add, ih (pre ++ [d])]
    rfl
theorem land_step (ok : (Nat → Bool) → Bool) {l : Nat} (hl : l < 8) : ∀ cls S, S l = false → vL ok cls (insL S l) = wL ok [] cls l S := by
  intro cls
  induction cls with
  | nil =>
    intro S _
    show (if empL (insL S l) = true then 1 else 0) = 0
    rw [if_neg]
    intro h
    have := List.all_eq_true.mp h l (List.mem_range.mpr hl)
    rw [ins_at] at this
    exact absurd this (by decide)
  | cons c cls ih =>
    intro S hS
    show ssL 8 (insL S l) (fun T => if ok (unL c T) = true then vL ok cls (dfL (insL S l) T) else 0) = vL ok ([] ++ insL c l :: cls) S + wL ok ([] ++ [c]) cls l S
    rw [ss_ins 8 S l _ hl hS]
    have : ssL 8 S (fun T => (if ok (unL c T) = true then vL ok cls (dfL (insL S l) T) else 0) + (if ok (unL c (insL T l)) = true then vL ok cls (dfL (insL S l) (insL T l)) else 0)) = ssL 8 S (fun T => (if ok (unL c T) = true then wL ok [] cls l (dfL S T) else 0) + (if ok (unL (insL c l) T) = true then vL ok cls (dfL S T) else 0)) := by
      refine ss_congr 8 S _ _ (fun T hT => ?_)
      have hTl : T l = false := by
        cases q : T l
        · rfl
        · have := (hT l q).1
          rw [hS] at this
          exact absurd this (by decide)
      have e1 : dfL (insL S l) T = insL (dfL S T) l := by
        funext j
        by_cases q : j = l
        · subst q
          rw [ins_at]
          show (insL S j j && !T j) = true
          rw [ins_at, hTl]
          rfl
        · rw [ins_ne q]
          show (insL S l j && !T j) = (S j && !T j)
          rw [ins_ne q]
      have e2 : unL c (insL T l) = unL (insL c l) T := by
        funext j
        show (c j || ((j == l) || T j)) = (((j == l) || c j) || T j)
        cases c j <;> cases (j == l) <;> rfl
      have e3 : dfL (insL S l) (insL T l) = dfL S T := by
        funext j
        show (insL S l j && !insL T l j) = (S j && !T j)
        by_cases q : j = l
        · subst q
          rw [ins_at, ins_at, hS]
          rfl
        · rw [ins_ne q, ins_ne q]
      have e4 : dfL S T l = false := by
        show (S l && !T l) = false
        rw [hS]
        rfl
      rw [e1, e2, e3, ih (dfL S T) e4]
    rw [this, ss_add, ss_w]
    exact Nat.add_comm _ _
theorem ss_none : ∀ n S (g : (Nat → Bool) → Nat), (∀ j, j < n → S j = false) → ssL n S g = g noL := by
  intro n
  induction n with
  | zero => intro S g _; rfl
  | succ n ih =>
    intro S g h
    show ssL n S g + (if S n = true then ssL n S (fun T => g (insL T n)) else 0) = g noL
    rw [ih S g (fun j hj => h j (by omega)), h n (by omega)]
    rfl
theorem un_no (c : Nat → Bool) : unL c noL = c := funext fun j => Bool.or_false _
theorem df_no (S : Nat → Bool) : dfL S noL = S := funext fun j => by show (S j && !false) = S j; rw [Bool.not_false, Bool.and_true]
theorem v_none (ok : (Nat → Bool) → Bool) {S : Nat → Bool} (h : ∀ j, j < 8 → S j = false) (c : Nat → Bool) (cls : List (Nat → Bool)) : vL ok (c :: cls) S = if ok c = true then vL ok cls S else 0 := by
  show ssL 8 S (fun T => if ok (unL c T) = true then vL ok cls (dfL S T) else 0) = _
  rw [ss_none 8 S _ h, un_no, df_no]
theorem w_swap (ok : (Nat → Bool) → Bool) {S : Nat → Bool} {l : Nat} {c d : Nat → Bool} (h : ∀ xs, vL ok (c :: d :: xs) S = vL ok (d :: c :: xs) S) : ∀ cls p, wL ok (c :: d :: p) cls l S = wL ok (d :: c :: p) cls l S := by
  intro cls
  induction cls with
  | nil => intro p; rfl
  | cons x cls ih =>
    intro p
    show vL ok (c :: d :: (p ++ insL x l :: cls)) S + wL ok (c :: d :: (p ++ [x])) cls l S = vL ok (d :: c :: (p ++ insL x l :: cls)) S + wL ok (d :: c :: (p ++ [x])) cls l S
    rw [h, ih]
theorem v_swap (ok : (Nat → Bool) → Bool) : ∀ m, m ≤ 8 → ∀ S : Nat → Bool, (∀ j, j < 8 - m → S j = false) → ∀ c d cls, vL ok (c :: d :: cls) S = vL ok (d :: c :: cls) S := by
  intro m
  induction m with
  | zero =>
    intro _ S h c d cls
    rw [v_none ok h, v_none ok h, v_none ok h, v_none ok h]
    cases ok c <;> cases ok d <;> rfl
  | succ m ih =>
    intro hm S h c d cls
    by_cases e : S (8 - (m + 1)) = true
    · have hS : S = insL (dfL S (insL noL (8 - (m + 1)))) (8 - (m + 1)) := by
        funext j
        by_cases q : j = 8 - (m + 1)
        · rw [q, ins_at, e]
        · rw [ins_ne q]
          show S j = (S j && !insL noL (8 - (m + 1)) j)
          rw [ins_ne q]
          show S j = (S j && !false)
          rw [Bool.not_false, Bool.and_true]
      have hl : dfL S (insL noL (8 - (m + 1))) (8 - (m + 1)) = false := by
        show (S (8 - (m + 1)) && !insL noL (8 - (m + 1)) (8 - (m + 1))) = false
        rw [ins_at, Bool.not_true, Bool.and_false]
      have hs : ∀ j, j < 8 - m → dfL S (insL noL (8 - (m + 1))) j = false := by
        intro j hj
        by_cases q : j = 8 - (m + 1)
        · rw [q]; exact hl
        · show (S j && !insL noL (8 - (m + 1)) j) = false
          rw [h j (by omega)]
          rfl
      have sw := ih (by omega) (dfL S (insL noL (8 - (m + 1)))) hs
      rw [hS, land_step ok (by omega) _ _ hl, land_step ok (by omega) _ _ hl]
      show vL ok (insL c (8 - (m + 1)) :: d :: cls) _ + (vL ok (c :: insL d (8 - (m + 1)) :: cls) _ + wL ok (c :: d :: []) cls _ _) = vL ok (insL d (8 - (m + 1)) :: c :: cls) _ + (vL ok (d :: insL c (8 - (m + 1)) :: cls) _ + wL ok (d :: c :: []) cls _ _)
      rw [w_swap ok (fun xs => sw c d xs) cls [], sw (insL c (8 - (m + 1))) d cls, sw c (insL d (8 - (m + 1))) cls]
      omega
    · refine ih (by omega) S (fun j hj => ?_) c d cls
      by_cases q : j = 8 - (m + 1)
      · rw [q]
        cases z : S (8 - (m + 1))
        · rfl
        · exact absurd z e
      · exact h j (by omega)
theorem v_swap_pre (ok : (Nat → Bool) → Bool) (c d : Nat → Bool) (cls : List (Nat → Bool)) : ∀ (pre : List (Nat → Bool)) (S : Nat → Bool), vL ok (pre ++ c :: d :: cls) S = vL ok (pre ++ d :: c :: cls) S := by
  intro pre
  induction pre with
  | nil => intro S; exact v_swap ok 8 (Nat.le_refl _) S (fun j hj => by omega) c d cls
  | cons x pre ih =>
    intro S
    show ssL 8 S (fun T => if ok (unL x T) = true then vL ok (pre ++ c :: d :: cls) (dfL S T) else 0) = ssL 8 S (fun T => if ok (unL x T) = true then vL ok (pre ++ d :: c :: cls) (dfL S T) else 0)
    exact ss_congr 8 S _ _ (fun T _ => by rw [ih])
def zsL (e : Nat) : List (Nat → Bool) := List.replicate e noL
theorem w_empties (ok : (Nat → Bool) → Bool) (l : Nat) (S : Nat → Bool) : ∀ e pre, wL ok pre (zsL (e + 1)) l S = (e + 1) * vL ok (pre ++ insL noL l :: zsL e) S := by
  intro e
  induction e with
  | zero =>
    intro pre
    show vL ok (pre ++ insL noL l :: []) S + 0 = (0 + 1) * vL ok (pre ++ insL noL l :: []) S
    rw [Nat.zero_add, Nat.one_mul, Nat.add_zero]
  | succ e ih =>
    intro pre
    show vL ok (pre ++ insL noL l :: zsL (e + 1)) S + wL ok (pre ++ [noL]) (zsL (e + 1)) l S = (e + 1 + 1) * vL ok (pre ++ insL noL l :: zsL (e + 1)) S
    rw [ih (pre ++ [noL]), List.append_assoc]
    show _ + (e + 1) * vL ok (pre ++ noL :: insL noL l :: zsL e) S = _
    rw [v_swap_pre ok noL (insL noL l) (zsL e) pre S, Nat.succ_mul (e + 1)]
    show vL ok (pre ++ insL noL l :: zsL (e + 1)) S + (e + 1) * vL ok (pre ++ insL noL l :: zsL (e + 1)) S = _
    omega
