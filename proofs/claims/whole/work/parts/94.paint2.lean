/-! PURE PART. Maps: the class's count against the model's -/
def restL (l : Nat) : Nat → Bool := fun j => decide (l ≤ j ∧ j < 8)
def sP (ok : (Nat → Bool) → Bool) (f : List (Nat → Bool) → Nat) (l : Nat) : List (Nat → Bool) → List (Nat → Bool) → Nat
  | _, [] => 0
  | p, c :: cls => (if ok (insL c l) = true then f (p ++ insL c l :: cls) else 0) + sP ok f l (p ++ [c]) cls
def pX (ok : (Nat → Bool) → Bool) (k : Nat) : Nat → List (Nat → Bool) → Nat
  | 0, p => if p.length = k then 1 else 0
  | m + 1, p => sP ok (pX ok k m) (7 - m) [] p + if p.length < 5 then pX ok k m (p ++ [insL noL (7 - m)]) else 0
def sk (f : Nat → Nat) : Nat → Nat
  | 0 => 0
  | n + 1 => sk f n + f n
theorem sk_congr {f g : Nat → Nat} : ∀ n, (∀ k, k < n → f k = g k) → sk f n = sk g n := by
  intro n
  induction n with
  | zero => intro _; rfl
  | succ n ih =>
    intro h
    show sk f n + f n = sk g n + g n
    rw [ih (fun k hk => h k (by omega)), h n (by omega)]
theorem sk_add (f g : Nat → Nat) : ∀ n, sk (fun k => f k + g k) n = sk f n + sk g n := by
  intro n
  induction n with
  | zero => rfl
  | succ n ih =>
    show sk (fun k => f k + g k) n + (f n + g n) = (sk f n + f n) + (sk g n + g n)
    rw [ih]
    omega
theorem sk_mul (c : Nat) (f : Nat → Nat) : ∀ n, sk (fun k => c * f k) n = c * sk f n := by
  intro n
  induction n with
  | zero => rfl
  | succ n ih =>
    show sk (fun k => c * f k) n + c * f n = c * (sk f n + f n)
    rw [ih, Nat.mul_add]
theorem sk_zero : ∀ n, sk (fun _ => 0) n = 0 := by
  intro n
  induction n with
  | zero => rfl
  | succ n ih =>
    show sk (fun _ => 0) n + 0 = 0
    rw [ih]
theorem sk_one {a : Nat} {f : Nat → Nat} : ∀ n, a < n → (∀ k, k < n → k ≠ a → f k = 0) → sk f n = f a := by
  intro n
  induction n with
  | zero => intro h; exact absurd h (Nat.not_lt_zero a)
  | succ n ih =>
    intro h hz
    show sk f n + f n = f a
    by_cases e : a = n
    · subst e
      rw [sk_congr (g := fun _ => 0) a (fun k hk => hz k (by omega) (by omega)), sk_zero, Nat.zero_add]
    · rw [ih (by omega) (fun k hk => hz k (by omega)), hz n (by omega) (fun z => e z.symm), Nat.add_zero]
def ff : Nat → Nat → Nat
  | _, 0 => 1
  | e, d + 1 => e * ff (e - 1) d
def coF (q a k : Nat) : Nat := if a ≤ k then ff (q - a) (k - a) else 0
theorem coF_S {q a k : Nat} (h : a < k) : coF q a k = (q - a) * coF q (a + 1) k := by
  unfold coF
  rw [if_pos (by omega), if_pos (by omega), show k - a = (k - (a + 1)) + 1 by omega, show q - (a + 1) = q - a - 1 by omega]
  rfl
theorem rest_ins {l : Nat} (h : l < 8) : restL l = insL (restL (l + 1)) l ∧ restL (l + 1) l = false := by
  constructor
  · funext j
    by_cases e : j = l
    · subst e
      rw [ins_at]
      exact decide_eq_true ⟨Nat.le_refl _, h⟩
    · rw [ins_ne e]
      unfold restL
      exact decide_eq_decide.mpr (by omega)
  · exact decide_eq_false (by omega)
theorem pX_lo (ok : (Nat → Bool) → Bool) (k : Nat) : ∀ m p, k < p.length → pX ok k m p = 0 := by
  intro m
  induction m with
  | zero => intro p h; exact if_neg (by omega)
  | succ m ih =>
    intro p h
    have hs : ∀ (cls pre : List (Nat → Bool)), k < (pre ++ cls).length → sP ok (pX ok k m) (7 - m) pre cls = 0 := by
      intro cls
      induction cls with
      | nil => intro pre _; rfl
      | cons c cls ihc =>
        intro pre hp
        show (if ok (insL c (7 - m)) = true then pX ok k m (pre ++ insL c (7 - m) :: cls) else 0) + sP ok (pX ok k m) (7 - m) (pre ++ [c]) cls = 0
        rw [ihc (pre ++ [c]) (by rw [List.append_assoc]; exact hp), ih _ (by rw [List.length_append, List.length_cons] at hp ⊢; exact hp)]
        split <;> rfl
    show sP ok (pX ok k m) (7 - m) [] p + (if p.length < 5 then pX ok k m (p ++ [insL noL (7 - m)]) else 0) = 0
    rw [hs p [] h, ih _ (by rw [List.length_append]; omega)]
    split <;> rfl
theorem w_split (ok : (Nat → Bool) → Bool) (l : Nat) (S : Nat → Bool) (ys : List (Nat → Bool)) (F : List (Nat → Bool) → Nat) (hF : ∀ p c cls, vL ok (p ++ insL c l :: (cls ++ ys)) S = if ok (insL c l) = true then F (p ++ insL c l :: cls) else 0) : ∀ xs p, wL ok p (xs ++ ys) l S = sP ok F l p xs + wL ok (p ++ xs) ys l S := by
  intro xs
  induction xs with
  | nil =>
    intro p
    show wL ok p ys l S = 0 + wL ok (p ++ []) ys l S
    rw [List.append_nil, Nat.zero_add]
  | cons c xs ih =>
    intro p
    show vL ok (p ++ insL c l :: (xs ++ ys)) S + wL ok (p ++ [c]) (xs ++ ys) l S = ((if ok (insL c l) = true then F (p ++ insL c l :: xs) else 0) + sP ok F l (p ++ [c]) xs) + wL ok (p ++ c :: xs) ys l S
    rw [ih (p ++ [c]), hF p c xs, List.append_assoc]
    show _ + (_ + wL ok (p ++ c :: xs) ys l S) = _
    omega
theorem v_bad (ok : (Nat → Bool) → Bool) (hmono : ∀ c T, ok (unL c T) = true → ok c = true) {c : Nat → Bool} (hc : ¬ ok c = true) (cls : List (Nat → Bool)) : ∀ (p : List (Nat → Bool)) (S : Nat → Bool), vL ok (p ++ c :: cls) S = 0 := by
  intro p
  induction p with
  | nil =>
    intro S
    show ssL 8 S (fun T => if ok (unL c T) = true then vL ok cls (dfL S T) else 0) = 0
    have : (fun T => if ok (unL c T) = true then vL ok cls (dfL S T) else 0) = fun _ => 0 := funext fun T => if_neg (fun z => hc (hmono c T z))
    rw [this, ss_zero]
  | cons x p ih =>
    intro S
    show ssL 8 S (fun T => if ok (unL x T) = true then vL ok (p ++ c :: cls) (dfL S T) else 0) = 0
    have : (fun T => if ok (unL x T) = true then vL ok (p ++ c :: cls) (dfL S T) else 0) = fun _ => 0 := funext fun T => by rw [ih]; split <;> rfl
    rw [this, ss_zero]
theorem v_ok (ok : (Nat → Bool) → Bool) {S : Nat → Bool} (h : ∀ j, j < 8 → S j = false) : ∀ cls : List (Nat → Bool), (∀ c ∈ cls, ok c = true) → vL ok cls S = 1 := by
  intro cls
  induction cls with
  | nil =>
    intro _
    show (if empL S = true then 1 else 0) = 1
    rw [if_pos]
    exact List.all_eq_true.mpr (fun j hj => by rw [h j (List.mem_range.mp hj)]; rfl)
  | cons c cls ih =>
    intro hc
    rw [v_none ok h, if_pos (hc c (List.mem_cons_self)), ih (fun d hd => hc d (List.mem_cons_of_mem _ hd))]
theorem sP_sk (ok : (Nat → Bool) → Bool) (l : Nat) (co : Nat → Nat) (P : Nat → List (Nat → Bool) → Nat) (a : Nat) (F : List (Nat → Bool) → Nat) (hF : ∀ p, p.length = a → (∀ c ∈ p, ok c = true) → F p = sk (fun k => co k * P k p) 6) : ∀ xs p, (p ++ xs).length = a → (∀ c ∈ p ++ xs, ok c = true) → sP ok F l p xs = sk (fun k => co k * sP ok (P k) l p xs) 6 := by
  intro xs
  induction xs with
  | nil =>
    intro p _ _
    show 0 = sk (fun k => co k * 0) 6
    rw [sk_congr (g := fun _ => 0) 6 (fun k _ => Nat.mul_zero _), sk_zero]
  | cons c xs ih =>
    intro p hl hc
    have e1 : sP ok F l p (c :: xs) = (if ok (insL c l) = true then F (p ++ insL c l :: xs) else 0) + sP ok F l (p ++ [c]) xs := rfl
    have e2 : (fun k => co k * sP ok (P k) l p (c :: xs)) = fun k => co k * (if ok (insL c l) = true then P k (p ++ insL c l :: xs) else 0) + co k * sP ok (P k) l (p ++ [c]) xs := funext fun k => Nat.mul_add _ _ _
    rw [e1, e2, sk_add, ih (p ++ [c]) (by rw [List.append_assoc]; exact hl) (fun d hd => hc d (by rw [List.append_assoc] at hd; exact hd))]
    congr 1
    by_cases e : ok (insL c l) = true
    · rw [if_pos e, hF _ (by rw [List.length_append, List.length_cons] at hl ⊢; exact hl) (fun d hd => ?_)]
      · exact sk_congr 6 (fun k _ => by rw [if_pos e])
      · rcases List.mem_append.mp hd with h | h
        · exact hc d (List.mem_append_left _ h)
        · rcases List.mem_cons.mp h with h | h
          · rw [h]; exact e
          · exact hc d (List.mem_append_right _ (List.mem_cons_of_mem _ h))
    · rw [if_neg e, sk_congr (g := fun _ => 0) 6 (fun k _ => by rw [if_neg e, Nat.mul_zero]), sk_zero]
theorem paint_id (ok : (Nat → Bool) → Bool) (hmono : ∀ c T, ok (unL c T) = true → ok c = true) (h0 : ok noL = true) (h1 : ∀ l, ok (insL noL l) = true) {q : Nat} (hq : q ≤ 5) : ∀ m, m ≤ 8 → ∀ p : List (Nat → Bool), p.length ≤ q → (∀ c ∈ p, ok c = true) → vL ok (p ++ zsL (q - p.length)) (restL (8 - m)) = sk (fun k => coF q p.length k * pX ok k m p) 6 := by
  intro m
  induction m with
  | zero =>
    intro _ p hp hc
    rw [v_ok ok (S := restL (8 - 0)) (fun j hj => decide_eq_false (by omega)) _ (fun c h => by
      rcases List.mem_append.mp h with h | h
      · exact hc c h
      · rw [List.eq_of_mem_replicate h]; exact h0), sk_one (a := p.length) (f := fun k => coF q p.length k * pX ok k 0 p) 6 (by omega) (fun k _ hk => by
      show coF q p.length k * (if p.length = k then 1 else 0) = 0
      rw [if_neg (fun z => hk z.symm), Nat.mul_zero])]
    show 1 = coF q p.length p.length * (if p.length = p.length then 1 else 0)
    unfold coF
    rw [if_pos rfl, if_pos (Nat.le_refl _), Nat.sub_self]
    rfl
  | succ m ih =>
    intro hm p hp hc
    have hl : 7 - m < 8 := by omega
    obtain ⟨r1, r2⟩ := rest_ins hl
    rw [show 7 - m + 1 = 8 - m by omega] at r1 r2
    rw [show 8 - (m + 1) = 7 - m by omega, r1, land_step ok hl _ _ r2]
    have IH := ih (by omega)
    rw [w_split ok (7 - m) (restL (8 - m)) (zsL (q - p.length)) (fun p' => vL ok (p' ++ zsL (q - p.length)) (restL (8 - m))) (fun p' c cls => by
      by_cases e : ok (insL c (7 - m)) = true
      · rw [if_pos e, List.append_assoc]
        rfl
      · rw [if_neg e]
        exact v_bad ok hmono e _ _ _) p []]
    rw [sP_sk ok (7 - m) (coF q p.length) (fun k => pX ok k m) p.length _ (fun p' hp' hc' => by
      have := IH p' (by omega) hc'
      rw [hp'] at this
      exact this) p [] rfl hc, List.nil_append]
    have e2 : (fun k => coF q p.length k * pX ok k (m + 1) p) = fun k => coF q p.length k * sP ok (pX ok k m) (7 - m) [] p + coF q p.length k * (if p.length < 5 then pX ok k m (p ++ [insL noL (7 - m)]) else 0) := funext fun k => Nat.mul_add _ _ _
    rw [e2, sk_add]
    congr 1
    have hlen : (p ++ [insL noL (7 - m)]).length = p.length + 1 := by rw [List.length_append]; rfl
    have e3 : ∀ k, k < 6 → coF q p.length k * (if p.length < 5 then pX ok k m (p ++ [insL noL (7 - m)]) else 0) = (q - p.length) * (coF q (p.length + 1) k * pX ok k m (p ++ [insL noL (7 - m)])) := by
      intro k hk
      by_cases c1 : p.length < k
      · rw [coF_S c1, if_pos (by omega), Nat.mul_assoc]
      · have z : pX ok k m (p ++ [insL noL (7 - m)]) = 0 := pX_lo ok k m _ (by rw [hlen]; omega)
        rw [z, Nat.mul_zero, Nat.mul_zero]
        split <;> exact Nat.mul_zero _
    rw [sk_congr 6 e3, sk_mul]
    by_cases c2 : q - p.length = 0
    · rw [c2, Nat.zero_mul]
      rfl
    · obtain ⟨e, he⟩ : ∃ e, q - p.length = e + 1 := ⟨q - p.length - 1, by omega⟩
      have IH2 := IH (p ++ [insL noL (7 - m)]) (by rw [hlen]; omega) (fun c h => by
        rcases List.mem_append.mp h with h | h
        · exact hc c h
        · rw [List.mem_singleton.mp h]; exact h1 _)
      rw [hlen, show q - (p.length + 1) = e by omega, List.append_assoc] at IH2
      rw [← IH2, he, w_empties]
      rfl
