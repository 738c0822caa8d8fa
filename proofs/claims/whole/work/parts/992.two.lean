/-! PURE PART. Texts: two readers side by side -/
def tk (a : Nat) (y : Nat → Nat) (l i : Nat) : Tok := tokA a y l (pls y l i)
def EnvT (a : Nat) (y : Nat → Nat) (l N : Nat) (Bx Bm : Tau) : Prop := a < 4 ∧ l ≤ 400 ∧ XT a y l N Bx ∧ MB a y l Bm ∧ stt y l N = l ∧ ∀ j, j < N → stt y l j < l
def frX (c j : Nat) : Prop := (c = 197 ∧ j ≠ 0 ∧ j ≠ 3) ∨ (c = 203 ∧ j = 1) ∨ c = 208 ∨ c = 210
def frM (c j : Nat) : Prop := (c = 0 ∧ (j = 14 ∨ (17 ≤ j ∧ j ≤ 22) ∨ j = 24)) ∨ c = 6 ∨ c = 7
def XS (a : Nat) (y : Nat → Nat) (l N : Nat) (B : Tau) (i : Nat) (τ : Tau) : Prop := τ 197 1 = 0 ∧ τ 197 2 = -1 ∧ XC a y l i τ ∧ i ≤ N ∧ ∀ c j, ¬ frX c j → τ c j = B c j
def MS (a : Nat) (y : Nat → Nat) (l : Nat) (B : Tau) (i : Nat) (τ : Tau) : Prop := τ 0 21 = 0 ∧ MT a y l (pls y l i) τ ∧ ∀ c j, ¬ frM c j → τ c j = B c j
def XD (B : Tau) (k p : Nat) (τ : Tau) : Prop := (0 < k ∧ k < 4) ∧ τ 197 1 = nI k ∧ τ 197 2 = nI p ∧ ∀ c j, ¬ frX c j → τ c j = B c j
def MD (B : Tau) (k p : Nat) (τ : Tau) : Prop := τ 0 21 = nI k ∧ τ 0 22 = nI p ∧ ∀ c j, ¬ frM c j → τ c j = B c j
def tokOK (a : Nat) : Tok → Prop
  | some (some (Sum.inl n)) => n ≤ 9999
  | some (some (Sum.inr (Sum.inl b))) => tkd b = 3
  | some (some (Sum.inr (Sum.inr u))) => u < (lwL a).length
  | _ => True
theorem tk_ok {a l i : Nat} {y : Nat → Nat} : tokOK a (tk a y l i) := by
  unfold tk
  by_cases h : stt y l i < l
  · rw [tok_at h]
    by_cases c1 : tkd (y (stt y l i)) = 1
    · rw [if_pos c1]
      by_cases c : (lwL a).idxOf (wid y (stt y l i) (pls y l (i + 1))) < (lwL a).length
      · rw [if_pos c]; exact c
      · rw [if_neg c]; trivial
    · rw [if_neg c1]
      by_cases c2 : tkd (y (stt y l i)) = 2
      · rw [if_pos c2]
        by_cases c : pls y l (i + 1) - stt y l i ≤ 4
        · rw [if_pos c]
          obtain ⟨p1, p2, p3, p4⟩ := stt_b (y := y) (l := l) (j := i)
          have hten : pls y l (i + 1) = trn y l 2 (stt y l i) := by
            show ten y l (pls y l i) = _
            unfold ten; exact (if_pos h).trans ((if_neg c1).trans (if_pos c2))
          obtain ⟨-, -, r3, -⟩ := trn_b (y := y) (l := l) (k := 2) (l - stt y l i) (stt y l i) (by omega)
          rw [← hten] at r3
          have hlt := nmV_lt (a := 0) (l := 0) (y := y) (s := stt y l i) (pls y l (i + 1) - stt y l i) (fun j hj => tkd2.mp (r3 _ (by omega) (by omega)))
          have hp : 10 ^ (pls y l (i + 1) - stt y l i) ≤ 10 ^ 4 := Nat.pow_le_pow_right (by decide) c
          show nmV y (stt y l i) (pls y l (i + 1) - stt y l i) ≤ 9999
          omega
        · rw [if_neg c]; trivial
      · rw [if_neg c2]
        by_cases c3 : tkd (y (stt y l i)) = 3
        · rw [if_pos c3]; exact c3
        · rw [if_neg c3]; trivial
  · unfold tokA
    rw [if_neg (show ¬ trn y l 0 (pls y l i) < l from h)]
    trivial
theorem tk_N {a l N i : Nat} {y : Nat → Nat} (h : stt y l N = l) (hi : i ≤ N) (hf : tk a y l i ≠ .fin) : i < N := by
  by_cases e : i = N
  · exact absurd (e ▸ tok_fin h) hf
  · omega
/-! codes and kinds -/
theorem wcd_tab : ∀ a, a < 4 → ∀ u, u < (lwL a).length → 3 ≤ wcd a u ∧ wcd a u ≤ 50 ∧ ∀ v, v < (lwL a).length → wcd a u = wcd a v → u = v := by decide +kernel
theorem sgn_rng {b : Nat} (h : tkd b = 3) : 40 ≤ b ∧ b ≤ 62 := by
  have := tkd3.mp h
  omega
theorem cM_sg {a : Nat} {t : Tok} (ha : a < 4) (ht : tokOK a t) {c : Nat} (hc : 40 ≤ c) (hc2 : c ≤ 62) : cM a t = nI (100 + c) ↔ t = .sgn c := by
  cases t using Tok.cs with
  | fin => exact ⟨fun z => absurd ((nI_eq (a := 0) (by omega) (by omega)).mp z) (by omega), fun z => (nomatch z)⟩
  | unk => exact ⟨fun z => absurd ((nI_eq (a := 1) (by omega) (by omega)).mp z) (by omega), fun z => (nomatch z)⟩
  | num n => exact ⟨fun z => absurd ((nI_eq (a := 2) (by omega) (by omega)).mp z) (by omega), fun z => (nomatch z)⟩
  | sgn b =>
    have hb := sgn_rng ht
    constructor
    · intro z
      have := (nI_eq (a := 100 + b) (by omega) (by omega)).mp z
      rw [show b = c from by omega]
    · intro z
      have z := Tok.sgn_inj z
      rw [z]; rfl
  | wrd u =>
    have := wcd_tab a ha u ht
    exact ⟨fun z => absurd ((nI_eq (a := wcd a u) (by omega) (by omega)).mp z) (by omega), fun z => (nomatch z)⟩
theorem cM_wd {a : Nat} {t : Tok} (ha : a < 4) (ht : tokOK a t) {v : Nat} (hv : v < (lwL a).length) : cM a t = nI (wcd a v) ↔ t = .wrd v := by
  have hw := wcd_tab a ha v hv
  cases t using Tok.cs with
  | fin => exact ⟨fun z => absurd ((nI_eq (a := 0) (by omega) (by omega)).mp z) (by omega), fun z => (nomatch z)⟩
  | unk => exact ⟨fun z => absurd ((nI_eq (a := 1) (by omega) (by omega)).mp z) (by omega), fun z => (nomatch z)⟩
  | num n => exact ⟨fun z => absurd ((nI_eq (a := 2) (by omega) (by omega)).mp z) (by omega), fun z => (nomatch z)⟩
  | sgn b =>
    have hb := sgn_rng ht
    exact ⟨fun z => absurd ((nI_eq (a := 100 + b) (by omega) (by omega)).mp z) (by omega), fun z => (nomatch z)⟩
  | wrd u =>
    have hu := wcd_tab a ha u ht
    constructor
    · intro z
      rw [hu.2.2 v hv ((nI_eq (by omega) (by omega)).mp z)]
    · intro z
      have z := Tok.wrd_inj z
      rw [z]; rfl
theorem cM_nm {a : Nat} {t : Tok} (ha : a < 4) (ht : tokOK a t) : cM a t = 2 ↔ ∃ n, t = .num n := by
  cases t using Tok.cs with
  | fin => exact ⟨fun z => absurd ((nI_eq (a := 0) (b := 2) (by omega) (by omega)).mp z) (by omega), fun ⟨n, z⟩ => (nomatch z)⟩
  | unk => exact ⟨fun z => absurd ((nI_eq (a := 1) (b := 2) (by omega) (by omega)).mp z) (by omega), fun ⟨n, z⟩ => (nomatch z)⟩
  | num n => exact ⟨fun _ => ⟨n, rfl⟩, fun _ => rfl⟩
  | sgn b =>
    have hb := sgn_rng ht
    exact ⟨fun z => absurd ((nI_eq (a := 100 + b) (b := 2) (by omega) (by omega)).mp z) (by omega), fun ⟨n, z⟩ => (nomatch z)⟩
  | wrd u =>
    have := wcd_tab a ha u ht
    exact ⟨fun z => absurd ((nI_eq (a := wcd a u) (b := 2) (by omega) (by omega)).mp z) (by omega), fun ⟨n, z⟩ => (nomatch z)⟩
theorem cM_fn {a : Nat} {t : Tok} (ha : a < 4) (ht : tokOK a t) : cM a t = 0 ↔ t = .fin := by
  cases t using Tok.cs with
  | fin => exact ⟨fun _ => rfl, fun _ => rfl⟩
  | unk => exact ⟨fun z => absurd ((nI_eq (a := 1) (b := 0) (by omega) (by omega)).mp z) (by omega), fun z => (nomatch z)⟩
  | num n => exact ⟨fun z => absurd ((nI_eq (a := 2) (b := 0) (by omega) (by omega)).mp z) (by omega), fun z => (nomatch z)⟩
  | sgn b =>
    have hb := sgn_rng ht
    exact ⟨fun z => absurd ((nI_eq (a := 100 + b) (b := 0) (by omega) (by omega)).mp z) (by omega), fun z => (nomatch z)⟩
  | wrd u =>
    have := wcd_tab a ha u ht
    exact ⟨fun z => absurd ((nI_eq (a := wcd a u) (b := 0) (by omega) (by omega)).mp z) (by omega), fun z => (nomatch z)⟩
/-! the class's questions at a token -/
def sgv : Tok → Int32
  | some (some (Sum.inr (Sum.inl b))) => nI b
  | _ => 32
theorem sgv_eq {a : Nat} {t : Tok} (ht : tokOK a t) {c : Nat} (h1 : 40 ≤ c) (h2 : c ≤ 62) : sgv t = nI c ↔ t = .sgn c := by
  cases t using Tok.cs with
  | sgn b =>
    have hb := sgn_rng ht
    constructor
    · intro z
      rw [(nI_eq (a := b) (by omega) (by omega)).mp z]
    · intro z
      have z := Tok.sgn_inj z
      rw [z]; rfl
  | fin => exact ⟨fun z => absurd ((nI_eq (a := 32) (by omega) (by omega)).mp z) (by omega), fun z => (nomatch z)⟩
  | unk => exact ⟨fun z => absurd ((nI_eq (a := 32) (by omega) (by omega)).mp z) (by omega), fun z => (nomatch z)⟩
  | num n => exact ⟨fun z => absurd ((nI_eq (a := 32) (by omega) (by omega)).mp z) (by omega), fun z => (nomatch z)⟩
  | wrd n => exact ⟨fun z => absurd ((nI_eq (a := 32) (by omega) (by omega)).mp z) (by omega), fun z => (nomatch z)⟩
theorem xs_sign {F a l N i : Nat} {y : Nat → Nat} {B τ : Tau} (h : XS a y l N B i τ) : X6_signHere F τ = some (sgv (tk a y l i), τ) := by
  obtain ⟨h1, h2, ⟨c1, c2, c3, c4⟩, h4, h5⟩ := h
  have ht := tk_ok (a := a) (y := y) (l := l) (i := i)
  unfold X6_signHere
  rw [if_pos h1, c2]
  change vXk (tk a y l i) _ at c3
  change (if kX (tk a y l i) = 3 then _ else _) = _
  generalize tk a y l i = t at ht c3 ⊢
  cases t using Tok.cs with
  | sgn b =>
    have hb := sgn_rng ht
    rw [show τ 197 6 = nI b from c3, if_pos (show kX (Tok.sgn b) = 3 from rfl), by_ch2 (nI b) (q := b) (by rw [pk_tn (by omega)]; omega) (by omega)]
    rfl
  | fin => exact if_neg (show ¬ (5 : Int32) = 3 by decide)
  | unk => exact if_neg (show ¬ (4 : Int32) = 3 by decide)
  | num n => exact if_neg (show ¬ (2 : Int32) = 3 by decide)
  | wrd n => exact if_neg (show ¬ (1 : Int32) = 3 by decide)
theorem xs_isW {F a l N i u : Nat} {y : Nat → Nat} {B τ : Tau} (h : XS a y l N B i τ) (ha : a < 4) (hu : u < 17) : (tk a y l i = .wrd u → X6_isWord F (nI u) τ = some (1, τ)) ∧ (tk a y l i ≠ .wrd u → X6_isWord F (nI u) τ = some (0, τ)) := by
  obtain ⟨h1, h2, ⟨c1, c2, c3, c4⟩, h4, h5⟩ := h
  have ht := tk_ok (a := a) (y := y) (l := l) (i := i)
  unfold X6_isWord
  rw [if_pos h1, c2]
  change vXk (tk a y l i) _ at c3
  change (_ → (if kX (tk a y l i) = 1 then _ else _) = _) ∧ (_ → (if kX (tk a y l i) = 1 then _ else _) = _)
  generalize tk a y l i = t at ht c3 ⊢
  have ln := (lwL_len a ha).1
  cases t using Tok.cs with
  | wrd v =>
    have hv : v < 17 := by have : v < (lwL a).length := ht; omega
    rw [show τ 197 6 = nI v from c3, if_pos (show kX (Tok.wrd v) = 1 from rfl)]
    refine ⟨fun z => ?_, fun z => ?_⟩
    · have z := Tok.wrd_inj z
      rw [if_pos (by rw [z])]
    · rw [if_neg (fun e => z (by rw [(nI_eq (by omega) (by omega)).mp e]))]
  | fin => exact ⟨fun z => (nomatch z), fun _ => if_neg (show ¬ (5 : Int32) = 1 by decide)⟩
  | unk => exact ⟨fun z => (nomatch z), fun _ => if_neg (show ¬ (4 : Int32) = 1 by decide)⟩
  | num n => exact ⟨fun z => (nomatch z), fun _ => if_neg (show ¬ (2 : Int32) = 1 by decide)⟩
  | sgn n => exact ⟨fun z => (nomatch z), fun _ => if_neg (show ¬ (3 : Int32) = 1 by decide)⟩
theorem xs_word {F a l N i : Nat} {y : Nat → Nat} {B τ : Tau} (h : XS a y l N B i τ) : (∃ u, tk a y l i = .wrd u ∧ X6_wordHere F τ = some (nI u, τ)) ∨ ((∀ u, tk a y l i ≠ .wrd u) ∧ X6_wordHere F τ = some (-1, τ)) := by
  obtain ⟨h1, h2, ⟨c1, c2, c3, c4⟩, h4, h5⟩ := h
  unfold X6_wordHere
  rw [if_pos h1, c2]
  change vXk (tk a y l i) _ at c3
  change (∃ u, _ ∧ (if kX (tk a y l i) = 1 then _ else _) = _) ∨ (_ ∧ (if kX (tk a y l i) = 1 then _ else _) = _)
  generalize tk a y l i = t at c3 ⊢
  cases t using Tok.cs with
  | wrd v => exact .inl ⟨v, rfl, by rw [show τ 197 6 = nI v from c3, if_pos (show kX (Tok.wrd v) = 1 from rfl)]⟩
  | fin => exact .inr ⟨fun u z => (nomatch z), if_neg (show ¬ (5 : Int32) = 1 by decide)⟩
  | unk => exact .inr ⟨fun u z => (nomatch z), if_neg (show ¬ (4 : Int32) = 1 by decide)⟩
  | num n => exact .inr ⟨fun u z => (nomatch z), if_neg (show ¬ (2 : Int32) = 1 by decide)⟩
  | sgn n => exact .inr ⟨fun u z => (nomatch z), if_neg (show ¬ (3 : Int32) = 1 by decide)⟩
theorem xs_num {F a l N i : Nat} {y : Nat → Nat} {B τ : Tau} (h : XS a y l N B i τ) : (∃ n, tk a y l i = .num n ∧ X6_isNumber F τ = some (1, τ) ∧ X6_numberHere F τ = some (nI n, τ)) ∨ ((∀ n, tk a y l i ≠ .num n) ∧ X6_isNumber F τ = some (0, τ)) := by
  obtain ⟨h1, h2, ⟨c1, c2, c3, c4⟩, h4, h5⟩ := h
  unfold X6_isNumber X6_numberHere
  rw [if_pos h1, c2]
  change vXk (tk a y l i) _ at c3
  change (∃ n, _ ∧ (if kX (tk a y l i) = 2 then _ else _) = _ ∧ _) ∨ (_ ∧ (if kX (tk a y l i) = 2 then _ else _) = _)
  generalize tk a y l i = t at c3 ⊢
  cases t using Tok.cs with
  | num v => exact .inl ⟨v, rfl, if_pos (show kX (Tok.num v) = 2 from rfl), by rw [show τ 197 6 = nI v from c3]⟩
  | fin => exact .inr ⟨fun u z => (nomatch z), if_neg (show ¬ (5 : Int32) = 2 by decide)⟩
  | unk => exact .inr ⟨fun u z => (nomatch z), if_neg (show ¬ (4 : Int32) = 2 by decide)⟩
  | wrd n => exact .inr ⟨fun u z => (nomatch z), if_neg (show ¬ (1 : Int32) = 2 by decide)⟩
  | sgn n => exact .inr ⟨fun u z => (nomatch z), if_neg (show ¬ (3 : Int32) = 2 by decide)⟩
theorem xs_goes {F a l N i : Nat} {y : Nat → Nat} {B τ : Tau} (h : XS a y l N B i τ) : (tk a y l i = .fin → X6_goesOn F τ = some (0, τ)) ∧ (tk a y l i ≠ .fin → X6_goesOn F τ = some (1, τ)) := by
  obtain ⟨h1, h2, ⟨c1, c2, c3, c4⟩, h4, h5⟩ := h
  unfold X6_goesOn
  rw [if_pos h1, c2]
  change (_ → (if kX (tk a y l i) = 5 then _ else _) = _) ∧ (_ → (if kX (tk a y l i) = 5 then _ else _) = _)
  generalize tk a y l i = t
  cases t using Tok.cs with
  | fin => exact ⟨fun _ => if_pos (show kX Tok.fin = 5 from rfl), fun z => absurd rfl z⟩
  | num v => exact ⟨fun z => (nomatch z), fun _ => if_neg (show ¬ (2 : Int32) = 5 by decide)⟩
  | unk => exact ⟨fun z => (nomatch z), fun _ => if_neg (show ¬ (4 : Int32) = 5 by decide)⟩
  | wrd n => exact ⟨fun z => (nomatch z), fun _ => if_neg (show ¬ (1 : Int32) = 5 by decide)⟩
  | sgn n => exact ⟨fun z => (nomatch z), fun _ => if_neg (show ¬ (3 : Int32) = 5 by decide)⟩
/-! moving on, and refusing -/
theorem XT.congr {a l N : Nat} {y : Nat → Nat} {τ τ' : Tau} (h : XT a y l N τ) (h1 : τ' 197 3 = τ 197 3) (h2 : ∀ c j, 199 ≤ c ∧ c ≤ 202 → τ' c j = τ c j) : XT a y l N τ' := by
  obtain ⟨x1, x2, x3⟩ := h
  exact ⟨h1.trans x1, x2, fun j hj => by
    obtain ⟨x4, x5, x6⟩ := x3 j hj
    exact ⟨(h2 _ _ (by omega)).trans x4, by rw [h2 _ _ (by omega)]; exact x5, (h2 _ _ (by omega)).trans x6⟩⟩
theorem xs_skip {F a l N i : Nat} {y : Nat → Nat} {Bx Bm τ : Tau} (E : EnvT a y l N Bx Bm) (h : XS a y l N Bx i τ) (hi : i < N) : ∃ τ', X6_skip F τ = some (0, τ') ∧ XS a y l N Bx (i + 1) τ' ∧ ∀ c j, ¬ (c = 197 ∧ 4 ≤ j ∧ j ≤ 7) → τ' c j = τ c j := by
  obtain ⟨e1, e2, e3, e4, e5, e6⟩ := E
  obtain ⟨h1, h2, ⟨c1, c2, c3, c4⟩, h4, h5⟩ := h
  unfold frX at h5
  have hT : XT a y l N τ := e3.congr (h5 _ _ (by omega)) (fun c j hc => h5 _ _ (by omega))
  obtain ⟨τ', t1, t2, t3⟩ := skip_to (F := F) (k := i + 1) h1 hT (by rw [c1]; exact litA') (by omega)
  refine ⟨τ', t1, ⟨(t3 _ _ (by omega)).trans h1, (t3 _ _ (by omega)).trans h2, t2, by omega, fun c j hc => ?_⟩, t3⟩
  unfold frX at hc
  exact (t3 c j (by omega)).trans (h5 c j hc)
theorem ms_next {F a l N i : Nat} {y : Nat → Nat} {Bx Bm τ : Tau} (hF : 5000 ≤ F) (E : EnvT a y l N Bx Bm) (h : MS a y l Bm i τ) : ∃ τ', X11_next0 F τ = some (0, τ') ∧ MS a y l Bm (i + 1) τ' ∧ ∀ c j, ¬ (c = 0 ∧ 17 ≤ j ∧ j ≤ 20) → τ' c j = τ c j := by
  obtain ⟨e1, e2, e3, e4, e5, e6⟩ := E
  obtain ⟨h1, h2, h5⟩ := h
  unfold frM at h5
  have hB : MB a y l τ := e4.congr (h5 _ _ (by omega)) (h5 _ _ (by omega)) (fun j => h5 _ _ (by omega))
  obtain ⟨τ', t1, t2, t3⟩ := next_M (p := pls y l (i + 1)) hF e1 e2 (pls_b _) hB h2.1
  refine ⟨τ', t1, ⟨(t3 _ _ (by omega)).trans h1, t2, fun c j hc => ?_⟩, t3⟩
  unfold frM at hc
  exact (t3 c j (by omega)).trans (h5 c j hc)
theorem xs_ref {F a l N i k : Nat} {y : Nat → Nat} {Bx τ : Tau} (h : XS a y l N Bx i τ) (hk : 0 < k ∧ k < 4) : ∃ τ', X6_refuse F (nI k) τ = some (0, τ') ∧ XD Bx k (stt y l i) τ' ∧ ∀ c j, c ≠ 197 → τ' c j = τ c j := by
  obtain ⟨h1, h2, ⟨c1, c2, c3, c4⟩, h4, h5⟩ := h
  refine ⟨up (up τ 197 1 (nI k)) 197 2 (nI (stt y l i)), ?_, ⟨hk, by rw [up_nj (by decide), up_c], up_c, fun c j hc => ?_⟩, fun c j hc => by rw [up_nc hc, up_nc hc]⟩
  · unfold X6_refuse
    rw [if_pos h1, pst_eq, up_nj (show (7 : Nat) ≠ 1 by decide), c4, pst_eq]
  · have hc' := hc
    unfold frX at hc'
    rw [up_if, if_neg (by omega), up_if, if_neg (by omega)]
    exact h5 c j hc
theorem ms_bad {F a l i k : Nat} {y : Nat → Nat} {Bm τ : Tau} (h : MS a y l Bm i τ) : ∃ τ', X11_bad F (nI k) τ = some (0, τ') ∧ MD Bm k (stt y l i) τ' := by
  obtain ⟨h1, ⟨m1, m2, m3, m4⟩, h5⟩ := h
  refine ⟨up (up τ 0 21 (nI k)) 0 22 (nI (stt y l i)), ?_, ⟨by rw [up_nj (by decide), up_c], up_c, fun c j hc => ?_⟩⟩
  · unfold X11_bad
    rw [pst_eq, up_nj (show (19 : Nat) ≠ 21 by decide), m3, pst_eq]
    rfl
  · have hc' := hc
    unfold frM at hc'
    rw [up_if, if_neg (by omega), up_if, if_neg (by omega)]
    exact h5 c j hc
theorem ms_code {a l i : Nat} {y : Nat → Nat} {Bm τ : Tau} (h : MS a y l Bm i τ) : τ 0 18 = cM a (tk a y l i) := h.2.1.2.1
theorem ms_num {a l i n : Nat} {y : Nat → Nat} {Bm τ : Tau} (h : MS a y l Bm i τ) (ht : tk a y l i = .num n) : τ 0 20 = nI n := h.2.1.2.2.2 n ht
/-! a dead reader answers nothing -/
theorem xd0 {B τ : Tau} {k p : Nat} (h : XD B k p τ) : ¬ τ 197 1 = 0 := by
  obtain ⟨⟨h1, h2⟩, h3, -⟩ := h
  rw [h3]
  exact nI_ne0 h1 (by omega)
theorem xd_sign {F : Nat} {B τ : Tau} {k p : Nat} (h : XD B k p τ) : X6_signHere F τ = some (32, τ) := if_neg (xd0 h)
theorem xd_isW {F : Nat} {B τ : Tau} {k p : Nat} {u : Int32} (h : XD B k p τ) : X6_isWord F u τ = some (0, τ) := if_neg (xd0 h)
theorem xd_word {F : Nat} {B τ : Tau} {k p : Nat} (h : XD B k p τ) : X6_wordHere F τ = some (-1, τ) := if_neg (xd0 h)
theorem xd_num {F : Nat} {B τ : Tau} {k p : Nat} (h : XD B k p τ) : X6_isNumber F τ = some (0, τ) := if_neg (xd0 h)
theorem xd_goes {F : Nat} {B τ : Tau} {k p : Nat} (h : XD B k p τ) : X6_goesOn F τ = some (0, τ) := if_neg (xd0 h)
theorem xd_ref {F : Nat} {B τ : Tau} {k p : Nat} {u : Int32} (h : XD B k p τ) : X6_refuse F u τ = some (0, τ) := if_neg (xd0 h)
theorem xd_skip {F : Nat} {B τ : Tau} {k p : Nat} (h : XD B k p τ) : X6_skip F τ = some (0, τ) := if_neg (xd0 h)
theorem xd_takeS {F : Nat} {B τ : Tau} {k p : Nat} {c : Int32} (h : XD B k p τ) (hc : (32 : Int32) ≠ c) : X6_takeSign F c τ = some (0, τ) := by
  unfold X6_takeSign
  rw [xd_sign h, cal_some, if_neg hc, xd_ref h, cal_some]
theorem xd_takeN {F : Nat} {B τ : Tau} {k p : Nat} {c d : Int32} (h : XD B k p τ) : X6_takeNumber F c d τ = some (0, τ) := by
  unfold X6_takeNumber
  rw [xd_num h, cal_some, if_pos rfl, xd_ref h, cal_some]
theorem xd_takeW {F : Nat} {B τ : Tau} {k p : Nat} {c : Int32} (h : XD B k p τ) : X6_takeWord F c τ = some (0, τ) := by
  unfold X6_takeWord
  rw [xd_isW h, cal_some, if_pos rfl, xd_ref h, cal_some]
