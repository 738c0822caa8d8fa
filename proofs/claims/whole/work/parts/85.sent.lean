/-! PURE PART. Steps: sent -/
def pc (A : Nat) : Nat := sm (fun _ => 1) 8 A
theorem bitc_fin : ∀ A, A < 256 → (∀ F τ, X_Integer_bitCount__I_I F (nI A) τ = some (nI (pc A), τ)) := by
  have : ∀ A, A < 256 → ((((((((nI A - ((ushr (nI A) 1) &&& 1431655765)) &&& 858993459) + ((ushr (nI A - ((ushr (nI A) 1) &&& 1431655765)) 2) &&& 858993459)) + (ushr (((nI A - ((ushr (nI A) 1) &&& 1431655765)) &&& 858993459) + ((ushr (nI A - ((ushr (nI A) 1) &&& 1431655765)) 2) &&& 858993459)) 4)) &&& 252645135) + (ushr (((((nI A - ((ushr (nI A) 1) &&& 1431655765)) &&& 858993459) + ((ushr (nI A - ((ushr (nI A) 1) &&& 1431655765)) 2) &&& 858993459)) + (ushr (((nI A - ((ushr (nI A) 1) &&& 1431655765)) &&& 858993459) + ((ushr (nI A - ((ushr (nI A) 1) &&& 1431655765)) 2) &&& 858993459)) 4)) &&& 252645135) 8)) + (ushr ((((((nI A - ((ushr (nI A) 1) &&& 1431655765)) &&& 858993459) + ((ushr (nI A - ((ushr (nI A) 1) &&& 1431655765)) 2) &&& 858993459)) + (ushr (((nI A - ((ushr (nI A) 1) &&& 1431655765)) &&& 858993459) + ((ushr (nI A - ((ushr (nI A) 1) &&& 1431655765)) 2) &&& 858993459)) 4)) &&& 252645135) + (ushr (((((nI A - ((ushr (nI A) 1) &&& 1431655765)) &&& 858993459) + ((ushr (nI A - ((ushr (nI A) 1) &&& 1431655765)) 2) &&& 858993459)) + (ushr (((nI A - ((ushr (nI A) 1) &&& 1431655765)) &&& 858993459) + ((ushr (nI A - ((ushr (nI A) 1) &&& 1431655765)) 2) &&& 858993459)) 4)) &&& 252645135) 8)) 16)) &&& 63) = nI (pc A) := by decide +kernel
  intro A hA F τ
  exact congrArg (fun z => some (z, τ)) (this A hA)
theorem or_fin : ∀ A, A < 256 → ∀ j, j < 8 → (A / 2 ^ j % 2 = 0 → nI A ||| nI (2 ^ j) = nI (A + 2 ^ j)) := by decide +kernel
theorem an_fin : ∀ A, A < 256 → ∀ j, j < 8 → (A / 2 ^ j % 2 = 1 → nI A &&& (nI (2 ^ j) ^^^ (-1)) = nI (A - 2 ^ j)) := by decide +kernel
theorem pcm_fin : ∀ A, A < 256 → ∀ j, j < 8 → (A / 2 ^ j % 2 = 1 → pc (A - 2 ^ j) + 1 = pc A ∧ 2 ^ j ≤ A) := by decide +kernel
theorem co_fin : ∀ n, n < 9 → ∀ A, A < 2 ^ n → (pc A = n - pc (2 ^ n - 1 - A) ∧ pc (2 ^ n - 1 - A) ≤ n) ∧ ∀ j, j < n → (2 ^ n - 1 - A) / 2 ^ j % 2 = 1 - A / 2 ^ j % 2 := by decide +kernel
def pbN : Nat → Nat → Nat
  | 0, _ => 0
  | m + 1, A => A % 2 + pbN m (A / 2)
theorem pb_fin : ∀ A, A < 256 → pbN 8 A = pc A := by decide +kernel
theorem bits_M {F A : Nat} {τ : Tau} (hF : 5000 ≤ F) (hA : A < 256) : X11_bitsOf F (nI A) τ = some (nI (pc A), τ) := by
  have key : ∀ (m A acc f : Nat), A < 2 ^ m → m ≤ 8 → m < f → X11_bitsOf_L4 F f (nI acc) (nI A) τ = some (nI (acc + pbN m A), τ) := by
    intro m
    induction m with
    | zero =>
      intro A acc f hA _ hf
      obtain ⟨g, rfl, -⟩ := fuel hf
      have : A = 0 := by rw [Nat.pow_zero] at hA; omega
      subst this
      unfold X11_bitsOf_L4
      rw [if_pos (by decide)]
      rfl
    | succ m ih =>
      intro A acc f hA hm hf
      obtain ⟨g, rfl, -⟩ := fuel hf
      have hp : 2 ^ (m + 1) ≤ 2 ^ 8 := Nat.pow_le_pow_right (by decide) hm
      have hh : A / 2 < 2 ^ m := by rw [Nat.pow_succ] at hA; omega
      have z : ∀ m, pbN m 0 = 0 := by
        intro m
        induction m with
        | zero => rfl
        | succ m ih => show 0 % 2 + pbN m (0 / 2) = 0; rw [Nat.zero_div, ih]
      conv => lhs; unfold X11_bitsOf_L4
      by_cases e : A = 0
      · subst e
        rw [if_pos (by decide), z]
        rfl
      · rw [if_neg (show ¬ nI A ≤ 0 by rw [show (0 : Int32) = nI 0 from rfl, nI_leI (by omega) (by omega)]; omega), an1 (by omega), nI_add, show shr (nI A) 1 = nI (A / 2) from nI_shr (k := 1) (by omega) (by decide), ih (A / 2) _ g hh (by omega) (by omega), Nat.add_assoc]
        rfl
  unfold X11_bitsOf
  rw [show X11_bitsOf_L4 F F 0 (nI A) τ = _ from key 8 A 0 F hA (Nat.le_refl _) (by omega), Nat.zero_add, pb_fin A hA]
def mxF (t : Nat → Nat) (S : Nat) : Nat → Nat → Nat → Nat
  | 0, _, acc => acc
  | m + 1, j, acc => mxF t S m (j + 1) (if S / 2 ^ j % 2 = 1 then max acc (t j) else acc)
def bfF (S : Nat) : Nat → Nat → Bool → Bool
  | 0, _, b => b
  | m + 1, j, b => bfF S m (j + 1) (if S / 2 ^ j % 2 = 1 then true else b)
theorem bf_fin : ∀ n, n < 9 → ∀ S, S < 2 ^ n → (S ≠ 0 → bfF S n 0 false = true) := by decide +kernel
def mo (W : Nat → Nat) (n : Nat) : Nat → Nat → Nat
  | 0, _ => 0
  | k + 1, S => mxF (fun j => W (6 * (n - (k + 1)) + j) + mo W n k (S - 2 ^ j)) S n 0 0
theorem mxF_le {t : Nat → Nat} {S B : Nat} (ht : ∀ j, S / 2 ^ j % 2 = 1 → t j ≤ B) : ∀ m j acc, acc ≤ B → mxF t S m j acc ≤ B := by
  intro m
  induction m with
  | zero => intro j acc h; exact h
  | succ m ih =>
    intro j acc h
    refine ih _ _ ?_
    by_cases e : S / 2 ^ j % 2 = 1
    · rw [if_pos e]; have := ht j e; omega
    · rw [if_neg e]; exact h
theorem mxF_ge {t : Nat → Nat} {S : Nat} : ∀ m j acc, acc ≤ mxF t S m j acc ∧ ∀ i, j ≤ i → i < j + m → S / 2 ^ i % 2 = 1 → t i ≤ mxF t S m j acc := by
  intro m
  induction m with
  | zero => intro j acc; exact ⟨Nat.le_refl _, fun i h1 h2 => absurd h1 (by omega)⟩
  | succ m ih =>
    intro j acc
    obtain ⟨a, b⟩ := ih (j + 1) (if S / 2 ^ j % 2 = 1 then max acc (t j) else acc)
    refine ⟨Nat.le_trans ?_ a, fun i h1 h2 h3 => ?_⟩
    · split <;> omega
    · by_cases e : i = j
      · subst e
        refine Nat.le_trans ?_ a
        rw [if_pos h3]
        omega
      · exact b i (by omega) (by omega) h3
theorem mxF_at {t : Nat → Nat} {S : Nat} : ∀ m j acc, mxF t S m j acc = acc ∨ ∃ i, j ≤ i ∧ i < j + m ∧ S / 2 ^ i % 2 = 1 ∧ t i = mxF t S m j acc := by
  intro m
  induction m with
  | zero => intro j acc; exact .inl rfl
  | succ m ih =>
    intro j acc
    show mxF t S m (j + 1) (if S / 2 ^ j % 2 = 1 then max acc (t j) else acc) = acc ∨ ∃ i, j ≤ i ∧ i < j + (m + 1) ∧ S / 2 ^ i % 2 = 1 ∧ t i = mxF t S m (j + 1) (if S / 2 ^ j % 2 = 1 then max acc (t j) else acc)
    rcases ih (j + 1) (if S / 2 ^ j % 2 = 1 then max acc (t j) else acc) with h | ⟨i, h1, h2, h3, h4⟩
    · rw [h]
      by_cases e : S / 2 ^ j % 2 = 1
      · rw [if_pos e]
        by_cases c : acc ≤ t j
        · exact .inr ⟨j, Nat.le_refl _, by omega, e, by omega⟩
        · exact .inl (by omega)
      · rw [if_neg e]; exact .inl rfl
    · exact .inr ⟨i, by omega, by omega, h3, h4⟩
theorem bfF_ex {S : Nat} : ∀ m j b, bfF S m j b = true → b = true ∨ ∃ i, j ≤ i ∧ i < j + m ∧ S / 2 ^ i % 2 = 1 := by
  intro m
  induction m with
  | zero => intro j b h; exact .inl h
  | succ m ih =>
    intro j b h
    rcases ih (j + 1) (if S / 2 ^ j % 2 = 1 then true else b) h with h2 | ⟨i, h1, h2, h3⟩
    · by_cases e : S / 2 ^ j % 2 = 1
      · exact .inr ⟨j, Nat.le_refl _, by omega, e⟩
      · rw [if_neg e] at h2; exact .inl h2
    · exact .inr ⟨i, by omega, by omega, h3⟩
theorem mo_le {W : Nat → Nat} {n : Nat} (hW : ∀ k, k < 36 → W k ≤ 99) (hn : n ≤ 6) : ∀ k S, k ≤ n → S < 2 ^ n → mo W n k S ≤ 99 * k := by
  intro k
  induction k with
  | zero => intro S _ _; exact Nat.zero_le _
  | succ k ih =>
    intro S hk hS
    refine mxF_le (fun j hj => ?_) n 0 0 (Nat.zero_le _)
    have hj6 : j < n := by
      apply Nat.lt_of_not_le
      intro c
      rw [Nat.div_eq_of_lt (Nat.lt_of_lt_of_le hS (Nat.pow_le_pow_right (by decide) c))] at hj
      exact absurd hj (by decide)
    have hpos := Nat.two_pow_pos j
    have := ih (S - 2 ^ j) (by omega) (by omega)
    have := hW (6 * (n - (k + 1)) + j) (by omega)
    show W (6 * (n - (k + 1)) + j) + mo W n k (S - 2 ^ j) ≤ 99 * (k + 1)
    omega
/-- what is worth most for a set of those left -/
def ms (W : Nat → Nat) (n S : Nat) : Nat := mo W n (pc S) S
theorem ms_rec {W : Nat → Nat} {n S : Nat} (hn : n ≤ 6) (hS : S < 2 ^ n) (h0 : S ≠ 0) : 1 ≤ pc S ∧ ms W n S = mxF (fun j => W (6 * (n - pc S) + j) + ms W n (S - 2 ^ j)) S n 0 0 := by
  have h64 : 2 ^ n ≤ 64 := Nat.pow_le_pow_right (n := 2) (by decide) (show n ≤ 6 from hn)
  obtain ⟨i, h1, h2, h3⟩ := (bfF_ex n 0 false (bf_fin n (by omega) S hS h0)).resolve_left (by decide)
  obtain ⟨p1, p2⟩ := pcm_fin S (by omega) i (by omega) h3
  refine ⟨by omega, ?_⟩
  obtain ⟨k, hk⟩ : ∃ k, pc S = k + 1 := ⟨pc S - 1, by omega⟩
  unfold ms
  rw [hk]
  show mxF (fun j => W (6 * (n - (k + 1)) + j) + mo W n k (S - 2 ^ j)) S n 0 0 = _
  have cg : ∀ m j acc, j + m ≤ n → mxF (fun j => W (6 * (n - (k + 1)) + j) + mo W n k (S - 2 ^ j)) S m j acc = mxF (fun j => W (6 * (n - (k + 1)) + j) + mo W n (pc (S - 2 ^ j)) (S - 2 ^ j)) S m j acc := by
    intro m
    induction m with
    | zero => intro j acc _; rfl
    | succ m ih =>
      intro j acc hj
      show mxF _ S m (j + 1) (if S / 2 ^ j % 2 = 1 then max acc (W (6 * (n - (k + 1)) + j) + mo W n k (S - 2 ^ j)) else acc) = mxF _ S m (j + 1) (if S / 2 ^ j % 2 = 1 then max acc (W (6 * (n - (k + 1)) + j) + mo W n (pc (S - 2 ^ j)) (S - 2 ^ j)) else acc)
      by_cases e : S / 2 ^ j % 2 = 1
      · have := (pcm_fin S (by omega) j (by omega) e).1
        rw [if_pos e, if_pos e, show pc (S - 2 ^ j) = k by omega, ih _ _ (by omega)]
      · rw [if_neg e, if_neg e, ih _ _ (by omega)]
  exact cg n 0 0 (by omega)
theorem ms_ex {W : Nat → Nat} {n S : Nat} (hn : n ≤ 6) (hS : S < 2 ^ n) (h0 : S ≠ 0) : ∃ j, j < n ∧ S / 2 ^ j % 2 = 1 ∧ W (6 * (n - pc S) + j) + ms W n (S - 2 ^ j) = ms W n S := by
  obtain ⟨-, e⟩ := ms_rec (W := W) hn hS h0
  rw [e]
  rcases mxF_at (t := fun j => W (6 * (n - pc S) + j) + ms W n (S - 2 ^ j)) (S := S) n 0 0 with h | ⟨i, h1, h2, h3, h4⟩
  · obtain ⟨i, h1, h2, h3⟩ := (bfF_ex n 0 false (bf_fin n (by omega) S hS h0)).resolve_left (by decide)
    have := (mxF_ge (t := fun j => W (6 * (n - pc S) + j) + ms W n (S - 2 ^ j)) (S := S) n 0 0).2 i h1 h2 h3
    refine ⟨i, by omega, h3, ?_⟩
    rw [h] at this ⊢
    omega
  · exact ⟨i, by omega, h3, h4⟩
theorem ms_le {W : Nat → Nat} {n S : Nat} (hW : ∀ k, k < 36 → W k ≤ 99) (hn : n ≤ 6) (hS : S < 2 ^ n) : ms W n S ≤ 594 := by
  have hp := (co_fin n (by omega) (2 ^ n - 1 - S) (by omega)).1.2
  rw [show 2 ^ n - 1 - (2 ^ n - 1 - S) = S by omega] at hp
  have := mo_le (W := W) hW hn (pc S) S hp hS
  unfold ms
  omega
theorem Pc.worths {T nP nM : Nat} {q : Nat → Nat} {tx tm : Tau} (h : Pc T nP nM q tx tm) : ∃ W : Nat → Nat, ∀ k, k < 36 → W k ≤ 99 ∧ tx 37 k = nI (W k) ∧ tm 1 (572 + k) = nI (W k) := by
  have ho := cel_out (c := 36) (by decide) (by decide) (by decide) h.1.2.2.2.2.2.2.2.2.1.2.2.2.2.2.2.2.2.2.2.2.2.2.2.2.2.1
  have : ∀ k, ∃ v, k < 36 → v ≤ 99 ∧ tx 37 k = nI v ∧ tm 1 (572 + k) = nI v := by
    intro k
    by_cases hk : k < 36
    · obtain ⟨v, hv⟩ := ho k hk
      exact ⟨v, fun _ => hv⟩
    · exact ⟨0, fun z => absurd z hk⟩
  exact ⟨fun k => (this k).choose, fun k => (this k).choose_spec⟩
/-- the model's table -/
theorem lay_M {F n : Nat} {W : Nat → Nat} {tm : Tau} (hF : 5000 ≤ F) (n1 : 1 ≤ n) (hn : n ≤ 6) (hW : ∀ k, k < 36 → W k ≤ 99 ∧ tm 1 (572 + k) = nI (W k)) : ∃ tm', X11_layMostFor F (nI n) tm = some (0, tm') ∧ (∀ S, S < 2 ^ n → tm' 14 S = nI (ms W n S)) ∧ ∀ c j, c ≠ 14 → tm' c j = tm c j := by
  have h64 : 2 ^ n ≤ 64 := Nat.pow_le_pow_right (n := 2) (by decide) (show n ≤ 6 from hn)
  have inner : ∀ (S k : Nat) (self : Int32 → Int32 → Tau → Option (Int32 × Tau)) (z : Int32), S < 2 ^ n → (z = 0 ∨ z = -1) → k = n - pc S → ∀ (m j f acc : Nat) (b : Bool) (τ : Tau), j + m = n → m < f → (∀ S', S' < S → τ 14 S' = nI (ms W n S')) → (∀ c i, c ≠ 14 → τ c i = tm c i) → τ 14 S = (if b = true then nI acc else z) → (b = false → acc = 0) → acc ≤ 700 →
      ∃ τ', X11_layMostFor_L34 F self f (nI n) (nI S) (nI k) (nI j) τ = self (nI n) (nI (S + 1)) τ' ∧ τ' 14 S = (if bfF S m j b = true then nI (mxF (fun j => W (6 * k + j) + ms W n (S - 2 ^ j)) S m j acc) else z) ∧ (∀ S', S' ≠ S → τ' 14 S' = τ 14 S') ∧ ∀ c i, c ≠ 14 → τ' c i = τ c i := by
    intro S k self z hS hz hk m
    induction m with
    | zero =>
      intro j f acc b τ hj hf hl hc hs hb ha
      obtain ⟨g, rfl, -⟩ := fuel hf
      refine ⟨τ, ?_, hs, fun _ _ => rfl, fun _ _ _ => rfl⟩
      unfold X11_layMostFor_L34
      rw [if_pos (nI_le (by omega) (by omega)), litA']
    | succ m ih =>
      intro j f acc b τ hj hf hl hc hs hb ha
      obtain ⟨g, rfl, -⟩ := fuel hf
      have hX1 : ¬ nI n ≤ nI j := nI_ge (by omega) (by omega)
      have kj : nI j + 1 = nI (j + 1) := litA'
      by_cases e : S / 2 ^ j % 2 = 1
      · obtain ⟨p1, p2⟩ := pcm_fin S (by omega) j (by omega) e
        have hpos := Nat.two_pow_pos j
        have hpcn := (co_fin n (by omega) (2 ^ n - 1 - S) (by omega)).1.2
        rw [show 2 ^ n - 1 - (2 ^ n - 1 - S) = S by omega] at hpcn
        obtain ⟨w1, w2⟩ := hW (6 * k + j) (by omega)
        have hle := ms_le (W := W) (fun k hk => (hW k hk).1) hn (show S - 2 ^ j < 2 ^ n by omega)
        have hmx : imax (τ 14 S) (nI (ms W n (S - 2 ^ j)) + nI (W (6 * k + j))) = nI (max acc (W (6 * k + j) + ms W n (S - 2 ^ j))) := by
          rw [nI_add, Nat.add_comm (ms W n (S - 2 ^ j)), hs]
          cases b with
          | true => rw [if_pos rfl, nI_imax (by omega) (by omega)]
          | false =>
            rw [if_neg (by decide), hb rfl, Nat.zero_max]
            unfold imax
            rcases hz with rfl | rfl
            · by_cases q : (0 : Int32) < nI (W (6 * k + j) + ms W n (S - 2 ^ j))
              · rw [if_pos q]
              · rw [if_neg q]
                rw [show (0 : Int32) = nI 0 from rfl, nI_ltI (by omega) (by omega)] at q
                rw [show W (6 * k + j) + ms W n (S - 2 ^ j) = 0 by omega]
                rfl
            · rw [if_pos]
              rw [Int32.lt_iff_toInt_lt, nI_toInt (by omega), show (-1 : Int32).toInt = -1 by decide]
              omega
        obtain ⟨τ', e1, e2, e3, e4⟩ := ih (j + 1) g (max acc (W (6 * k + j) + ms W n (S - 2 ^ j))) true (up τ 14 S (nI (max acc (W (6 * k + j) + ms W n (S - 2 ^ j))))) (by omega) (by omega) (fun S' hS' => (up_nj (by omega)).trans (hl S' hS')) (fun c i hci => (up_nc hci).trans (hc c i hci)) (by rw [if_pos rfl, up_c]) (fun z => absurd z (by decide)) (by omega)
        refine ⟨τ', ?_, ?_, fun S' hS' => (e3 S' hS').trans (up_nj hS'), fun c i hci => (e4 c i hci).trans (up_nc hci)⟩
        · conv => lhs; unfold X11_layMostFor_L34
          unfold X11_layMostFor_j95
          rw [if_neg hX1, bit_nI (by omega) (by omega), if_pos (by rw [e]; rfl), ald_nI (by omega) (by omega), shl_p (by omega), an_fin S (by omega) j (by omega) e, ald_nI (by omega) (by omega), litM, litA, nI_add, ald_nI (by omega) (by omega), hl (S - 2 ^ j) (by omega), Nat.add_assoc, hc 1 _ (by decide), w2, X11_greater_eq, cal_some, hmx, ast_nI (by omega) (by omega), kj, e1]
        · rw [e2]
          rw [show bfF S (m + 1) j b = bfF S m (j + 1) (if S / 2 ^ j % 2 = 1 then true else b) from rfl, if_pos e]
          rw [show mxF (fun j => W (6 * k + j) + ms W n (S - 2 ^ j)) S (m + 1) j acc = mxF (fun j => W (6 * k + j) + ms W n (S - 2 ^ j)) S m (j + 1) (if S / 2 ^ j % 2 = 1 then max acc (W (6 * k + j) + ms W n (S - 2 ^ j)) else acc) from rfl, if_pos e]
      · obtain ⟨τ', e1, e2, e3, e4⟩ := ih (j + 1) g acc b τ (by omega) (by omega) hl hc hs hb ha
        refine ⟨τ', ?_, ?_, e3, e4⟩
        · conv => lhs; unfold X11_layMostFor_L34
          unfold X11_layMostFor_j95
          rw [if_neg hX1, bit_nI (by omega) (by omega), if_neg (show ¬ nI (S / 2 ^ j % 2) = 1 by rw [lit_eq (by decide) (by omega)]; exact e), kj, e1]
        · rw [e2]
          rw [show bfF S (m + 1) j b = bfF S m (j + 1) (if S / 2 ^ j % 2 = 1 then true else b) from rfl, if_neg e]
          rw [show mxF (fun j => W (6 * k + j) + ms W n (S - 2 ^ j)) S (m + 1) j acc = mxF (fun j => W (6 * k + j) + ms W n (S - 2 ^ j)) S m (j + 1) (if S / 2 ^ j % 2 = 1 then max acc (W (6 * k + j) + ms W n (S - 2 ^ j)) else acc) from rfl, if_neg e]
  have outer : ∀ (m S f : Nat) (τ : Tau), S + m = 2 ^ n → m < f → (∀ S', S' < S → τ 14 S' = nI (ms W n S')) → (∀ c i, c ≠ 14 → τ c i = tm c i) → ∃ τ', X11_layMostFor_L2 F f (nI n) (nI S) τ = some (0, τ') ∧ (∀ S', S' < 2 ^ n → τ' 14 S' = nI (ms W n S')) ∧ ∀ c i, c ≠ 14 → τ' c i = tm c i := by
    intro m
    induction m with
    | zero =>
      intro S f τ hS hf hl hc
      obtain ⟨g, rfl, -⟩ := fuel hf
      have : S = 2 ^ n := by omega
      subst this
      refine ⟨τ, ?_, hl, hc⟩
      unfold X11_layMostFor_L2
      rw [shl_p (by omega), if_pos (nI_le (Nat.le_refl _) (by omega))]
    | succ m ih =>
      intro S f τ hS hf hl hc
      obtain ⟨g, rfl, -⟩ := fuel hf
      have hpcn := (co_fin n (by omega) (2 ^ n - 1 - S) (by omega)).1.2
      rw [show 2 ^ n - 1 - (2 ^ n - 1 - S) = S by omega] at hpcn
      have go : ∀ z : Int32, ((z = 0 ∧ S = 0) ∨ (z = -1 ∧ S ≠ 0)) → ∃ τ', X11_layMostFor_j30 F (X11_layMostFor_L2 F g) (nI n) (nI S) (nI (n - pc S)) z (nI S) τ = some (0, τ') ∧ (∀ S', S' < 2 ^ n → τ' 14 S' = nI (ms W n S')) ∧ ∀ c i, c ≠ 14 → τ' c i = tm c i := by
        intro z hz
        obtain ⟨τ1, e1, e2, e3, e4⟩ := inner S (n - pc S) (X11_layMostFor_L2 F g) z (by omega) (hz.elim (fun h => .inl h.1) (fun h => .inr h.1)) rfl n 0 F 0 false (up τ 14 S z) (by omega) (by omega) (fun S' hS' => (up_nj (by omega)).trans (hl S' hS')) (fun c i hci => (up_nc hci).trans (hc c i hci)) (by rw [if_neg (by decide), up_c]) (fun _ => rfl) (by decide)
        obtain ⟨τ2, f1, f2, f3⟩ := ih (S + 1) g τ1 (by omega) (by omega) (fun S' hS' => by
          by_cases e : S' = S
          · subst e
            rw [e2]
            rcases hz with ⟨rfl, h0⟩ | ⟨rfl, h0⟩
            · rw [h0]
              have z0 : ∀ m j, bfF 0 m j false = false := by
                intro m
                induction m with
                | zero => intro j; rfl
                | succ m ih =>
                  intro j
                  show bfF 0 m (j + 1) (if 0 / 2 ^ j % 2 = 1 then true else false) = false
                  rw [Nat.zero_div, if_neg (by decide), ih]
              rw [z0, if_neg (by decide)]
              rfl
            · rw [if_pos (bf_fin n (by omega) S' (by omega) h0), ← (ms_rec (W := W) hn (show S' < 2 ^ n by omega) h0).2]
          · rw [e3 S' e, up_nj e]
            exact hl S' (by omega)) (fun c i hci => by rw [e4 c i hci, up_nc hci, hc c i hci])
        refine ⟨τ2, ?_, f2, f3⟩
        unfold X11_layMostFor_j30
        rw [ast_nI (by omega) (by omega)]
        exact e1.trans f1
      conv => enter [1, τ', 1, 1]; unfold X11_layMostFor_L2
      rw [shl_p (by omega), if_neg (nI_ge (by omega) (by omega)), bits_M hF (by omega), cal_some, nI_sub hpcn]
      by_cases e : S = 0
      · rw [if_pos (by rw [e]; rfl)]
        exact go 0 (.inl ⟨rfl, e⟩)
      · rw [if_neg (show ¬ nI S = 0 by rw [lit_eq (by decide) (by omega)]; exact e)]
        exact go (-1) (.inr ⟨rfl, e⟩)
  exact outer (2 ^ n) 0 F tm (by omega) (by omega) (fun S' hS' => absurd hS' (Nat.not_lt_zero _)) (fun _ _ _ => rfl)
