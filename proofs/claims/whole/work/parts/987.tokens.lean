/-! PURE PART. Texts: tokens -/
def tkd (b : Nat) : Nat := if b = 32 ∨ b = 10 then 0 else if (97 ≤ b ∧ b ≤ 122) ∨ (65 ≤ b ∧ b ≤ 90) then 1 else if 48 ≤ b ∧ b ≤ 57 then 2 else if b = 59 ∨ b = 43 ∨ b = 45 ∨ b = 42 ∨ b = 47 ∨ b = 40 ∨ b = 41 ∨ b = 60 ∨ b = 61 ∨ b = 62 then 3 else 4
theorem tkd0 {b : Nat} : tkd b = 0 ↔ b = 32 ∨ b = 10 := by
  unfold tkd
  repeat' split
  all_goals omega
theorem tkd1 {b : Nat} : tkd b = 1 ↔ (97 ≤ b ∧ b ≤ 122) ∨ (65 ≤ b ∧ b ≤ 90) := by
  unfold tkd
  repeat' split
  all_goals omega
theorem tkd2 {b : Nat} : tkd b = 2 ↔ 48 ≤ b ∧ b ≤ 57 := by
  unfold tkd
  repeat' split
  all_goals omega
theorem tkd3 {b : Nat} : tkd b = 3 ↔ b = 59 ∨ b = 43 ∨ b = 45 ∨ b = 42 ∨ b = 47 ∨ b = 40 ∨ b = 41 ∨ b = 60 ∨ b = 61 ∨ b = 62 := by
  unfold tkd
  repeat' split
  all_goals omega
theorem tkd_lt {b : Nat} : tkd b < 5 := by
  unfold tkd
  repeat' split
  all_goals omega
/-- the end of a run of kind k, from p on -/
def trnF (y : Nat → Nat) (k : Nat) : Nat → Nat → Nat
  | 0, p => p
  | m + 1, p => if tkd (y p) = k then trnF y k m (p + 1) else p
def trn (y : Nat → Nat) (l k p : Nat) : Nat := trnF y k (l - p) p
theorem trn_s {y : Nat → Nat} {l k p : Nat} (h : p < l) (hk : tkd (y p) = k) : trn y l k p = trn y l k (p + 1) := by
  unfold trn
  rw [show l - p = (l - (p + 1)) + 1 from by omega]
  show (if tkd (y p) = k then trnF y k (l - (p + 1)) (p + 1) else p) = _
  rw [if_pos hk]
theorem trn_n {y : Nat → Nat} {l k p : Nat} (h : p < l) (hk : tkd (y p) ≠ k) : trn y l k p = p := by
  unfold trn
  rw [show l - p = (l - (p + 1)) + 1 from by omega]
  show (if tkd (y p) = k then trnF y k (l - (p + 1)) (p + 1) else p) = _
  rw [if_neg hk]
theorem trn_e {y : Nat → Nat} {l k p : Nat} (h : l ≤ p) : trn y l k p = p := by
  unfold trn
  rw [show l - p = 0 from by omega]
  rfl
theorem trn_b {y : Nat → Nat} {l k : Nat} : ∀ (m p : Nat), p + m = l → p ≤ trn y l k p ∧ trn y l k p ≤ l ∧ (∀ j, p ≤ j → j < trn y l k p → tkd (y j) = k) ∧ (trn y l k p < l → tkd (y (trn y l k p)) ≠ k) := by
  intro m
  induction m with
  | zero =>
    intro p h
    rw [trn_e (by omega)]
    exact ⟨by omega, by omega, fun j _ _ => by omega, fun _ => by omega⟩
  | succ m ih =>
    intro p h
    by_cases hk : tkd (y p) = k
    · rw [trn_s (by omega) hk]
      obtain ⟨a, b, c, d⟩ := ih (p + 1) (by omega)
      refine ⟨by omega, b, fun j h1 h2 => ?_, d⟩
      by_cases e : j = p
      · rw [e]; exact hk
      · exact c j (by omega) h2
    · rw [trn_n (by omega) hk]
      exact ⟨by omega, by omega, fun j _ _ => by omega, fun _ => hk⟩
def ten (y : Nat → Nat) (l p : Nat) : Nat := if trn y l 0 p < l then (if tkd (y (trn y l 0 p)) = 1 then trn y l 1 (trn y l 0 p) else if tkd (y (trn y l 0 p)) = 2 then trn y l 2 (trn y l 0 p) else trn y l 0 p + 1) else trn y l 0 p
theorem ten_b {y : Nat → Nat} {l p : Nat} (hp : p ≤ l) : trn y l 0 p ≤ ten y l p ∧ ten y l p ≤ l ∧ (trn y l 0 p < l → trn y l 0 p < ten y l p) := by
  obtain ⟨a, b, c, d⟩ := trn_b (y := y) (l := l) (k := 0) (l - p) p (by omega)
  unfold ten
  by_cases h : trn y l 0 p < l
  · rw [if_pos h]
    by_cases h1 : tkd (y (trn y l 0 p)) = 1
    · rw [if_pos h1]
      obtain ⟨a', b', -, -⟩ := trn_b (y := y) (l := l) (k := 1) (l - (trn y l 0 p + 1)) (trn y l 0 p + 1) (by omega)
      rw [trn_s h h1]
      exact ⟨by omega, b', fun _ => by omega⟩
    · rw [if_neg h1]
      by_cases h2 : tkd (y (trn y l 0 p)) = 2
      · rw [if_pos h2]
        obtain ⟨a', b', -, -⟩ := trn_b (y := y) (l := l) (k := 2) (l - (trn y l 0 p + 1)) (trn y l 0 p + 1) (by omega)
        rw [trn_s h h2]
        exact ⟨by omega, b', fun _ => by omega⟩
      · rw [if_neg h2]
        exact ⟨by omega, by omega, fun _ => by omega⟩
  · rw [if_neg h]
    exact ⟨by omega, by omega, fun z => absurd z h⟩
/-- which constant a word is: 0, or 6 .. 29 -/
def isBb (y : Nat → Nat) (p e s : Nat) : Bool := decide (e - p = sL s) && (List.range (sL s)).all fun k => y (p + k) == (sB s).getD k 0
theorem isBb_iff {y : Nat → Nat} {p e s : Nat} : isBb y p e s = true ↔ isB y p e s := by
  unfold isBb isB
  rw [Bool.and_eq_true, decide_eq_true_eq, List.all_eq_true]
  constructor
  · intro h
    exact ⟨h.1, fun k hk => beq_iff_eq.mp (h.2 k (List.mem_range.mpr hk))⟩
  · intro h
    exact ⟨h.1, fun k hk => beq_iff_eq.mpr (h.2 k (List.mem_range.mp hk))⟩
def widF (y : Nat → Nat) (p e : Nat) : Nat → Nat
  | 0 => 0
  | m + 1 => if 6 ≤ m ∧ isBb y p e m = true then m else widF y p e m
def wid (y : Nat → Nat) (p e : Nat) : Nat := widF y p e 30
theorem str_d : ∀ s, s < 30 → ∀ t, t < 30 → sB s = sB t → s = t := by decide +kernel
theorem isB_one {y : Nat → Nat} {p e s t : Nat} (hs : s < 30) (ht : t < 30) (h1 : isB y p e s) (h2 : isB y p e t) : s = t := by
  refine str_d s hs t ht ?_
  have hl : (sB s).length = (sB t).length := h1.1.symm.trans h2.1
  refine List.ext_getElem hl fun i a b => ?_
  have e1 := h1.2 i a
  have e2 := h2.2 i b
  rw [List.getD_eq_getElem?_getD, List.getElem?_eq_getElem a, Option.getD_some] at e1
  rw [List.getD_eq_getElem?_getD, List.getElem?_eq_getElem b, Option.getD_some] at e2
  exact e1.symm.trans e2
theorem wid_is {y : Nat → Nat} {p e s : Nat} (h6 : 6 ≤ s) (hs : s < 30) : isB y p e s ↔ wid y p e = s := by
  have key : ∀ m, m ≤ 30 → (widF y p e m = 0 ∧ ∀ c, 6 ≤ c → c < m → ¬ isB y p e c) ∨ (6 ≤ widF y p e m ∧ widF y p e m < m ∧ isB y p e (widF y p e m)) := by
    intro m
    induction m with
    | zero => exact fun _ => .inl ⟨rfl, fun c _ h => by omega⟩
    | succ m ih =>
      intro hm
      rw [show widF y p e (m + 1) = if 6 ≤ m ∧ isBb y p e m = true then m else widF y p e m from rfl]
      by_cases h : 6 ≤ m ∧ isBb y p e m = true
      · rw [if_pos h]
        exact .inr ⟨h.1, by omega, isBb_iff.mp h.2⟩
      · rw [if_neg h]
        rcases ih (by omega) with ⟨a, b⟩ | ⟨a, b, c⟩
        · refine .inl ⟨a, fun c h1 h2 h3 => ?_⟩
          by_cases e' : c = m
          · exact h ⟨by omega, isBb_iff.mpr (e' ▸ h3)⟩
          · exact b c h1 (by omega) h3
        · exact .inr ⟨a, by omega, c⟩
  unfold wid
  rcases key 30 (Nat.le_refl _) with ⟨a, b⟩ | ⟨a, b, c⟩
  · exact ⟨fun h => absurd h (b s h6 hs), fun h => by omega⟩
  · exact ⟨fun h => isB_one b hs c h, fun h => h ▸ c⟩
theorem wid_lt {y : Nat → Nat} {p e : Nat} : wid y p e = 0 ∨ (6 ≤ wid y p e ∧ wid y p e < 30) := by
  by_cases h : 6 ≤ wid y p e ∧ wid y p e < 30
  · exact .inr h
  · left
    have key : ∀ m, m ≤ 30 → widF y p e m = 0 ∨ (6 ≤ widF y p e m ∧ widF y p e m < m) := by
      intro m
      induction m with
      | zero => exact fun _ => .inl rfl
      | succ m ih =>
        intro hm
        rw [show widF y p e (m + 1) = if 6 ≤ m ∧ isBb y p e m = true then m else widF y p e m from rfl]
        by_cases h : 6 ≤ m ∧ isBb y p e m = true
        · rw [if_pos h]
          exact .inr ⟨h.1, by omega⟩
        · rw [if_neg h]
          rcases ih (by omega) with a | a
          · exact .inl a
          · exact .inr (by omega)
    rcases key 30 (Nat.le_refl _) with a | a
    · exact a
    · exact absurd a h
/-- the words of a text of kind a -/
def lwL (a : Nat) : List Nat := if a = 0 then [10, 11, 12, 6, 7, 8, 9, 13, 14, 15, 16, 17, 18, 19, 20, 21, 22] else if a = 1 then [23, 17, 18] else if a = 2 then [24, 25, 26, 27, 28] else [23, 29]
def wcd (a u : Nat) : Nat := if a = 0 then (if u < 3 then 20 + u else if u < 7 then u else 34 + u) else if a = 1 then 8 + u else if a = 2 then (if u = 0 then 7 else 10 + u) else (if u = 0 then 8 else 15)
/-- a token: the end, an unknown one, a number, a sign, a word -/
abbrev Tok : Type := Option (Option (Nat ⊕ (Nat ⊕ Nat)))
abbrev Tok.fin : Tok := none
abbrev Tok.unk : Tok := some none
abbrev Tok.num (n : Nat) : Tok := some (some (Sum.inl n))
abbrev Tok.sgn (b : Nat) : Tok := some (some (Sum.inr (Sum.inl b)))
abbrev Tok.wrd (u : Nat) : Tok := some (some (Sum.inr (Sum.inr u)))
def Tok.val : Tok → Nat
  | some (some (Sum.inl n)) => n
  | some (some (Sum.inr (Sum.inl n))) => n
  | some (some (Sum.inr (Sum.inr n))) => n
  | _ => 0
theorem Tok.num_inj {n m : Nat} (h : Tok.num n = Tok.num m) : n = m := congrArg Tok.val h
theorem Tok.sgn_inj {n m : Nat} (h : Tok.sgn n = Tok.sgn m) : n = m := congrArg Tok.val h
theorem Tok.wrd_inj {n m : Nat} (h : Tok.wrd n = Tok.wrd m) : n = m := congrArg Tok.val h
theorem Tok.cs {motive : Tok → Prop} (fin : motive Tok.fin) (unk : motive Tok.unk) (num : ∀ n, motive (Tok.num n)) (sgn : ∀ b, motive (Tok.sgn b)) (wrd : ∀ u, motive (Tok.wrd u)) (t : Tok) : motive t := by
  rcases t with _ | _ | n | b | u
  · exact fin
  · exact unk
  · exact num n
  · exact sgn b
  · exact wrd u
def nmV (y : Nat → Nat) (s : Nat) : Nat → Nat
  | 0 => 0
  | m + 1 => 10 * nmV y s m + y (s + m) - 48
def tokA (a : Nat) (y : Nat → Nat) (l p : Nat) : Tok :=
  if trn y l 0 p < l then
    (if tkd (y (trn y l 0 p)) = 1 then (if (lwL a).idxOf (wid y (trn y l 0 p) (ten y l p)) < (lwL a).length then .wrd ((lwL a).idxOf (wid y (trn y l 0 p) (ten y l p))) else .unk)
     else if tkd (y (trn y l 0 p)) = 2 then (if ten y l p - trn y l 0 p ≤ 4 then .num (nmV y (trn y l 0 p) (ten y l p - trn y l 0 p)) else .unk)
     else if tkd (y (trn y l 0 p)) = 3 then .sgn (y (trn y l 0 p)) else .unk)
  else .fin
def cM (a : Nat) : Tok → Int32
  | none => 0
  | some none => 1
  | some (some (Sum.inl _)) => 2
  | some (some (Sum.inr (Sum.inl b))) => nI (100 + b)
  | some (some (Sum.inr (Sum.inr u))) => nI (wcd a u)
def kX : Tok → Int32
  | none => 5
  | some none => 4
  | some (some (Sum.inl _)) => 2
  | some (some (Sum.inr (Sum.inl _))) => 3
  | some (some (Sum.inr (Sum.inr _))) => 1
def vXk : Tok → Int32 → Prop
  | some (some (Sum.inl n)), v => v = nI n
  | some (some (Sum.inr (Sum.inl n))), v => v = nI n
  | some (some (Sum.inr (Sum.inr n))), v => v = nI n
  | _, _ => True
/-! the model's next token -/
def MB (a : Nat) (y : Nat → Nat) (l : Nat) (τ : Tau) : Prop := τ 0 16 = nI l ∧ τ 0 12 = nI a ∧ ∀ i, i < l → y i < 256 ∧ τ 8 i = nI (y i)
theorem MB.congr {a l : Nat} {y : Nat → Nat} {τ τ' : Tau} (h : MB a y l τ) (h1 : τ' 0 16 = τ 0 16) (h2 : τ' 0 12 = τ 0 12) (h3 : ∀ j, τ' 8 j = τ 8 j) : MB a y l τ' := by
  obtain ⟨a1, a2, a3⟩ := h
  exact ⟨h1.trans a1, h2.trans a2, fun i hi => ⟨(a3 i hi).1, (h3 i).trans (a3 i hi).2⟩⟩
theorem see_M {F a l p : Nat} {y : Nat → Nat} {τ : Tau} (hB : MB a y l τ) (hl : l ≤ 400) (hp : p ≤ l) : X11_see F (nI p) τ = some (if p < l then nI (y p) else -1, τ) := by
  unfold X11_see
  rw [hB.1]
  by_cases h : p < l
  · rw [if_neg (nI_ge h (by omega)), ald_nI (by omega) (by omega), (hB.2.2 p h).2, if_pos h]
  · rw [if_pos (nI_le (by omega) (by omega)), if_neg h]
theorem let_M {F b : Nat} {τ : Tau} (hb : b < 256) : X11_isLetter F (nI b) τ = some (bI (tkd b = 1), τ) := by
  unfold X11_isLetter
  rw [X11_isIn_eq, cal_some]
  by_cases h1 : 97 ≤ b ∧ b ≤ 122
  · rw [bI_t (show (97 : Int32) ≤ nI b ∧ nI b ≤ 122 from (in_iff (lo := 97) (hi := 122) (by decide) (by omega) (by decide)).mpr h1), if_neg n10, bI_t (tkd1.mpr (.inl h1))]
  · rw [bI_f (show ¬ (((97 : Int32) ≤ nI b ∧ nI b ≤ 122)) from fun z => h1 ((in_iff (lo := 97) (hi := 122) (by decide) (by omega) (by decide)).mp z)), if_pos rfl, X11_isIn_eq, cal_some]
    by_cases h2 : 65 ≤ b ∧ b ≤ 90
    · rw [bI_t (show (65 : Int32) ≤ nI b ∧ nI b ≤ 90 from (in_iff (lo := 65) (hi := 90) (by decide) (by omega) (by decide)).mpr h2), if_neg n10, bI_t (tkd1.mpr (.inr h2))]
    · rw [bI_f (show ¬ (((65 : Int32) ≤ nI b ∧ nI b ≤ 90)) from fun z => h2 ((in_iff (lo := 65) (hi := 90) (by decide) (by omega) (by decide)).mp z)), if_pos rfl, bI_f (fun z => (tkd1.mp z).elim h1 h2)]
theorem let_m1 {F : Nat} {τ : Tau} : X11_isLetter F (-1) τ = some (0, τ) := by
  unfold X11_isLetter X11_isIn
  rw [if_pos (by decide), cal_some, if_pos rfl, if_pos (by decide), cal_some, if_pos rfl]
theorem dig_M {F b : Nat} {τ : Tau} (hb : b < 256) : X11_isDigit F (nI b) τ = some (bI (tkd b = 2), τ) := by
  unfold X11_isDigit
  rw [X11_isIn_eq, cal_some, narB]
  by_cases h1 : 48 ≤ b ∧ b ≤ 57
  · rw [bI_t (show (48 : Int32) ≤ nI b ∧ nI b ≤ 57 from (in_iff (lo := 48) (hi := 57) (by decide) (by omega) (by decide)).mpr h1), bI_t (tkd2.mpr h1)]
  · rw [bI_f (show ¬ (((48 : Int32) ≤ nI b ∧ nI b ≤ 57)) from fun z => h1 ((in_iff (lo := 48) (hi := 57) (by decide) (by omega) (by decide)).mp z)), bI_f (fun z => h1 (tkd2.mp z))]
theorem dig_m1 {F : Nat} {τ : Tau} : X11_isDigit F (-1) τ = some (0, τ) := by
  unfold X11_isDigit X11_isIn
  rw [if_pos (by decide), cal_some, nar0]
theorem is_M' {F s p e a l : Nat} {y : Nat → Nat} {τ : Tau} (hF : 5000 ≤ F) (hpe : p ≤ e) (he : e ≤ l) (hl : l ≤ 400) (h17 : τ 0 17 = nI e) (h19 : τ 0 19 = nI p) (hB : MB a y l τ) (h6 : 6 ≤ s) (hs : s < 30) : X11_is F s τ = some (bI (wid y p e = s), τ) := by
  obtain ⟨b, b1, b2⟩ := is_M hF hs hpe he hl h17 h19 hB.2.2
  rw [b1]
  by_cases h : wid y p e = s
  · rw [bI_t h, bI_t (b2.mpr ((wid_is h6 hs).mpr h))]
  · rw [bI_f h, bI_f (fun z => h ((wid_is h6 hs).mp (b2.mp z)))]
theorem word_M {F p e a l : Nat} {y : Nat → Nat} {τ : Tau} (hF : 5000 ≤ F) (hpe : p ≤ e) (he : e ≤ l) (hl : l ≤ 400) (h17 : τ 0 17 = nI e) (h19 : τ 0 19 = nI p) (hB : MB a y l τ) (ha : a < 4) : X11_wordOf F τ = some (cM a (if (lwL a).idxOf (wid y p e) < (lwL a).length then .wrd ((lwL a).idxOf (wid y p e)) else .unk), τ) := by
  have q : ∀ s, 6 ≤ s → s < 30 → X11_is F s τ = some (bI (wid y p e = s), τ) := fun s h6 hs => is_M' hF hpe he hl h17 h19 hB h6 hs
  have hw := wid_lt (y := y) (p := p) (e := e)
  generalize wid y p e = D at q hw ⊢
  have hD : D = 0 ∨ D = 6 ∨ D = 7 ∨ D = 8 ∨ D = 9 ∨ D = 10 ∨ D = 11 ∨ D = 12 ∨ D = 13 ∨ D = 14 ∨ D = 15 ∨ D = 16 ∨ D = 17 ∨ D = 18 ∨ D = 19 ∨ D = 20 ∨ D = 21 ∨ D = 22 ∨ D = 23 ∨ D = 24 ∨ D = 25 ∨ D = 26 ∨ D = 27 ∨ D = 28 ∨ D = 29 := by omega
  have hA : a = 0 ∨ a = 1 ∨ a = 2 ∨ a = 3 := by omega
  unfold X11_wordOf X11_lawWord X11_courtWord X11_asked
  rw [hB.2.1]
  clear hw hB h17 h19
  rcases hA with rfl | rfl | rfl | rfl
  · rw [if_pos (by decide), q 6 (by decide) (by decide), cal_some, q 7 (by decide) (by decide), cal_some, q 8 (by decide) (by decide), cal_some, q 9 (by decide) (by decide), cal_some, q 10 (by decide) (by decide), cal_some, q 11 (by decide) (by decide), cal_some, q 12 (by decide) (by decide), cal_some, q 13 (by decide) (by decide), cal_some, q 14 (by decide) (by decide), cal_some, q 15 (by decide) (by decide), cal_some, q 16 (by decide) (by decide), cal_some, q 17 (by decide) (by decide), cal_some, q 18 (by decide) (by decide), cal_some, q 19 (by decide) (by decide), cal_some, q 20 (by decide) (by decide), cal_some, q 21 (by decide) (by decide), cal_some, q 22 (by decide) (by decide), cal_some]
    rcases hD with rfl | rfl | rfl | rfl | rfl | rfl | rfl | rfl | rfl | rfl | rfl | rfl | rfl | rfl | rfl | rfl | rfl | rfl | rfl | rfl | rfl | rfl | rfl | rfl | rfl <;> rfl
  · rw [if_neg (by decide), if_pos (by decide), q 23 (by decide) (by decide), cal_some, q 17 (by decide) (by decide), cal_some, q 18 (by decide) (by decide), cal_some]
    rcases hD with rfl | rfl | rfl | rfl | rfl | rfl | rfl | rfl | rfl | rfl | rfl | rfl | rfl | rfl | rfl | rfl | rfl | rfl | rfl | rfl | rfl | rfl | rfl | rfl | rfl <;> rfl
  · rw [if_neg (by decide), if_neg (by decide), if_pos (by decide), q 24 (by decide) (by decide), cal_some, q 25 (by decide) (by decide), cal_some, q 26 (by decide) (by decide), cal_some, q 27 (by decide) (by decide), cal_some, q 28 (by decide) (by decide), cal_some]
    rcases hD with rfl | rfl | rfl | rfl | rfl | rfl | rfl | rfl | rfl | rfl | rfl | rfl | rfl | rfl | rfl | rfl | rfl | rfl | rfl | rfl | rfl | rfl | rfl | rfl | rfl <;> rfl
  · rw [if_neg (by decide), if_neg (by decide), if_neg (by decide), q 23 (by decide) (by decide), cal_some, q 29 (by decide) (by decide), cal_some]
    rcases hD with rfl | rfl | rfl | rfl | rfl | rfl | rfl | rfl | rfl | rfl | rfl | rfl | rfl | rfl | rfl | rfl | rfl | rfl | rfl | rfl | rfl | rfl | rfl | rfl | rfl <;> rfl
