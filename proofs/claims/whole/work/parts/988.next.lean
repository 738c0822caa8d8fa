/-! PURE PART. Texts: the model's next token -/
theorem run_M {F a l s e : Nat} {y : Nat → Nat} (hF : 5000 ≤ F) (ha : a < 4) (hl : l ≤ 400) (hs : s < l) (h1 : tkd (y s) = 1) (he : trn y l 1 s = e) : ∀ (m q f : Nat) (τ : Tau), q + m = e → s ≤ q → m < f → MB a y l τ → τ 0 17 = nI q → τ 0 19 = nI s → ∃ τ', X11_next0_L76 F f τ = some (0, τ') ∧ τ' 0 17 = nI e ∧ τ' 0 18 = cM a (if (lwL a).idxOf (wid y s e) < (lwL a).length then .wrd ((lwL a).idxOf (wid y s e)) else .unk) ∧ ∀ c j, ¬ (c = 0 ∧ (j = 17 ∨ j = 18)) → τ' c j = τ c j := by
  obtain ⟨b1, b2, b3, b4⟩ := trn_b (y := y) (l := l) (k := 1) (l - s) s (by omega)
  rw [he] at b1 b2 b3 b4
  intro m
  induction m with
  | zero =>
    intro q f τ hq hsq hf hB h17 h19
    obtain ⟨g, rfl, -⟩ := fuel hf
    obtain rfl : q = e := by omega
    refine ⟨up τ 0 18 (cM a (if (lwL a).idxOf (wid y s q) < (lwL a).length then .wrd ((lwL a).idxOf (wid y s q)) else .unk)), ?_, ?_, up_c, fun c j hc => ?_⟩
    · unfold X11_next0_L76
      rw [h17, see_M hB hl b2, cal_some]
      by_cases h : q < l
      · rw [if_pos h, let_M (hB.2.2 q h).1, cal_some, bI_f (b4 h), if_pos rfl, word_M hF b1 b2 hl h17 h19 hB ha, cal_some, pst_eq]
      · rw [if_neg h, let_m1, cal_some, if_pos rfl, word_M hF b1 b2 hl h17 h19 hB ha, cal_some, pst_eq]
    · rw [up_nj (by decide), h17]
    · rw [up_if, if_neg (by omega)]
  | succ m ih =>
    intro q f τ hq hsq hf hB h17 h19
    obtain ⟨g, rfl, -⟩ := fuel hf
    obtain ⟨τ', t1, t2, t3, t4⟩ := ih (q + 1) g (up τ 0 17 (nI (q + 1))) (by omega) (by omega) (by omega) (hB.congr (up_nj (by decide)) (up_nj (by decide)) (fun j => up_nc (by decide))) up_c (by rw [up_nj (by decide)]; exact h19)
    refine ⟨τ', ?_, t2, t3, fun c j hc => by rw [t4 c j hc, up_if, if_neg (by omega)]⟩
    have kk : nI q + 1 = nI (q + 1) := litA'
    unfold X11_next0_L76
    rw [h17, see_M hB hl (by omega), cal_some, if_pos (show q < l by omega), let_M (hB.2.2 q (by omega)).1, cal_some, bI_t (b3 q hsq (by omega)), if_neg n10, pst_eq, h17, kk, t1]
theorem nmV_lt {a l s : Nat} {y : Nat → Nat} : ∀ m, (∀ j, j < m → 48 ≤ y (s + j) ∧ y (s + j) ≤ 57) → nmV y s m < 10 ^ m := by
  intro m
  induction m with
  | zero => exact fun _ => (show (0 : Nat) < 1 from by decide)
  | succ m ih =>
    intro h
    have h1 := ih (fun j hj => h j (by omega))
    have h2 := h m (by omega)
    rw [show nmV y s (m + 1) = 10 * nmV y s m + y (s + m) - 48 from rfl, Nat.pow_succ]
    omega
theorem dgt_M {F a l s e : Nat} {y : Nat → Nat} (hl : l ≤ 400) (hs : s < l) (h1 : tkd (y s) = 2) (he : trn y l 2 s = e) : ∀ (m q f : Nat) (τ : Tau), q + m = e → s ≤ q → m < f → MB a y l τ → τ 0 17 = nI q → τ 0 19 = nI s → τ 0 20 = nI (nmV y s (min (q - s) 4)) → ∃ τ', X11_next0_L126 F f τ = some (0, τ') ∧ τ' 0 17 = nI e ∧ τ' 0 18 = cM a (if e - s ≤ 4 then .num (nmV y s (e - s)) else .unk) ∧ τ' 0 20 = nI (nmV y s (min (e - s) 4)) ∧ ∀ c j, ¬ (c = 0 ∧ (j = 17 ∨ j = 18 ∨ j = 20)) → τ' c j = τ c j := by
  obtain ⟨b1, b2, b3, b4⟩ := trn_b (y := y) (l := l) (k := 2) (l - s) s (by omega)
  rw [he] at b1 b2 b3 b4
  intro m
  induction m with
  | zero =>
    intro q f τ hq hsq hf hB h17 h19 h20
    obtain ⟨g, rfl, -⟩ := fuel hf
    obtain rfl : q = e := by omega
    refine ⟨up τ 0 18 (cM a (if q - s ≤ 4 then .num (nmV y s (q - s)) else .unk)), ?_, ?_, up_c, ?_, fun c j hc => ?_⟩
    · unfold X11_next0_L126 X11_next0_j208
      have fin : ∀ v : Int32, (if (5 : Int32) ≤ τ 0 17 - τ 0 19 then pst τ 0 18 1 fun τ21 => some ((0 : Int32), τ21) else pst τ 0 18 2 fun τ21 => some ((0 : Int32), τ21)) = some (0, up τ 0 18 (cM a (if q - s ≤ 4 then .num (nmV y s (q - s)) else .unk))) := by
        intro _
        rw [h17, h19, nI_sub hsq]
        by_cases h : q - s ≤ 4
        · rw [if_neg (show ¬ (5 : Int32) ≤ nI (q - s) from nI_ge (b := 5) (by omega) (by decide)), pst_eq, if_pos h]; rfl
        · rw [if_pos (show (5 : Int32) ≤ nI (q - s) from nI_le (a := 5) (by omega) (by omega)), pst_eq, if_neg h]; rfl
      rw [h17, see_M hB hl b2, cal_some]
      by_cases h : q < l
      · rw [if_pos h, dig_M (hB.2.2 q h).1, cal_some, bI_f (b4 h), if_pos rfl]
        exact fin 0
      · rw [if_neg h, dig_m1, cal_some, if_pos rfl]
        exact fin 0
    · rw [up_nj (by decide), h17]
    · rw [up_nj (by decide), h20]
    · rw [up_if, if_neg (by omega)]
  | succ m ih =>
    intro q f τ hq hsq hf hB h17 h19 h20
    obtain ⟨g, rfl, -⟩ := fuel hf
    have kk : nI q + 1 = nI (q + 1) := litA'
    have k4 : nI s + 4 = nI (s + 4) := litA'
    have hy := hB.2.2 q (by omega)
    have hd := tkd2.mp (b3 q hsq (by omega))
    by_cases h : s + 4 ≤ q
    · obtain ⟨τ', t1, t2, t3, t5, t4⟩ := ih (q + 1) g (up τ 0 17 (nI (q + 1))) (by omega) (by omega) (by omega) (hB.congr (up_nj (by decide)) (up_nj (by decide)) (fun j => up_nc (by decide))) up_c (by rw [up_nj (by decide)]; exact h19) (by rw [up_nj (by decide), h20, show min (q - s) 4 = min (q + 1 - s) 4 from by omega])
      refine ⟨τ', ?_, t2, t3, t5, fun c j hc => by rw [t4 c j hc, up_if, if_neg (by omega)]⟩
      unfold X11_next0_L126 X11_next0_j176
      rw [h17, see_M hB hl (by omega), cal_some, if_pos (show q < l by omega), dig_M hy.1, cal_some, bI_t (tkd2.mpr hd), if_neg n10, h19, h17, k4, if_pos (nI_le h (by omega)), pst_eq, kk, t1]
    · have hv : nmV y s (min (q + 1 - s) 4) = 10 * nmV y s (min (q - s) 4) + y q - 48 := by
        rw [show min (q + 1 - s) 4 = (q - s) + 1 from by omega, show min (q - s) 4 = q - s from by omega, show nmV y s (q - s + 1) = 10 * nmV y s (q - s) + y (s + (q - s)) - 48 from rfl, show s + (q - s) = q from by omega]
      obtain ⟨τ', t1, t2, t3, t5, t4⟩ := ih (q + 1) g (up (up τ 0 20 (nI (nmV y s (min (q + 1 - s) 4)))) 0 17 (nI (q + 1))) (by omega) (by omega) (by omega) (hB.congr (by rw [up_nj (by decide), up_nj (by decide)]) (by rw [up_nj (by decide), up_nj (by decide)]) (fun j => by rw [up_nc (by decide), up_nc (by decide)])) up_c (by rw [up_nj (by decide), up_nj (by decide)]; exact h19) (by rw [up_nj (by decide), up_c])
      refine ⟨τ', ?_, t2, t3, t5, fun c j hc => by rw [t4 c j hc, up_if, if_neg (by omega), up_if, if_neg (by omega)]⟩
      have k10 : (10 : Int32) * nI (nmV y s (min (q - s) 4)) + nI (y q) - 48 = nI (nmV y s (min (q + 1 - s) 4)) := by
        rw [hv, litM, nI_add, litS (show 48 ≤ _ by omega)]
      unfold X11_next0_L126 X11_next0_j176
      rw [h17, see_M hB hl (by omega), cal_some, if_pos (show q < l by omega), dig_M hy.1, cal_some, bI_t (tkd2.mpr hd), if_neg n10, h19, h17, k4, if_neg (nI_ge (show q < s + 4 by omega) (by omega)), see_M hB hl (by omega), cal_some, if_pos (show q < l by omega), pst_eq, h20, k10, pst_eq, up_nj (by decide), h17, kk, t1]
/-- the token at place p stands in the model's cells -/
def MT (a : Nat) (y : Nat → Nat) (l p : Nat) (τ : Tau) : Prop := τ 0 17 = nI (ten y l p) ∧ τ 0 18 = cM a (tokA a y l p) ∧ τ 0 19 = nI (trn y l 0 p) ∧ ∀ n, tokA a y l p = .num n → τ 0 20 = nI n
theorem sgn_M {F b : Nat} {τ : Tau} (hb : b < 256) (h1 : tkd b ≠ 1) (h2 : tkd b ≠ 2) : (if nI b = 59 then (X11_next0_j284 F (nI b) τ) else (if nI b = 43 then (X11_next0_j284 F (nI b) τ) else (if nI b = 45 then (X11_next0_j284 F (nI b) τ) else (if nI b = 42 then (X11_next0_j284 F (nI b) τ) else (if nI b = 47 then (X11_next0_j284 F (nI b) τ) else (if nI b = 40 then (X11_next0_j284 F (nI b) τ) else (if nI b = 41 then (X11_next0_j284 F (nI b) τ) else (if nI b = 60 then (X11_next0_j284 F (nI b) τ) else (if nI b = 61 then (X11_next0_j284 F (nI b) τ) else (if nI b = 62 then (X11_next0_j284 F (nI b) τ) else (X11_next0_j289 F (nI b) 0 τ))))))))))) = some (0, up τ 0 18 (if tkd b = 3 then nI (100 + b) else 1)) := by
  have e : ∀ n : Nat, n < 256 → (nI b = nI n ↔ b = n) := fun n hn => nI_eq (by omega) (by omega)
  unfold X11_next0_j284 X11_next0_j289 X11_next0_j303
  rw [if_neg n10, if_pos rfl, pst_eq, pst_eq, show (100 : Int32) + nI b = nI (100 + b) from litA]
  by_cases h3 : tkd b = 3
  · rw [if_pos h3]
    rcases tkd3.mp h3 with rfl | rfl | rfl | rfl | rfl | rfl | rfl | rfl | rfl | rfl <;> rfl
  · rw [if_neg h3]
    have h := fun z => h3 (tkd3.mpr z)
    rw [if_neg (fun z => h (by have := (e 59 (by decide)).mp z; omega)), if_neg (fun z => h (by have := (e 43 (by decide)).mp z; omega)), if_neg (fun z => h (by have := (e 45 (by decide)).mp z; omega)), if_neg (fun z => h (by have := (e 42 (by decide)).mp z; omega)), if_neg (fun z => h (by have := (e 47 (by decide)).mp z; omega)), if_neg (fun z => h (by have := (e 40 (by decide)).mp z; omega)), if_neg (fun z => h (by have := (e 41 (by decide)).mp z; omega)), if_neg (fun z => h (by have := (e 60 (by decide)).mp z; omega)), if_neg (fun z => h (by have := (e 61 (by decide)).mp z; omega)), if_neg (fun z => h (by have := (e 62 (by decide)).mp z; omega))]
theorem next_M {F a l p : Nat} {y : Nat → Nat} {τ : Tau} (hF : 5000 ≤ F) (ha : a < 4) (hl : l ≤ 400) (hp : p ≤ l) (hB : MB a y l τ) (h17 : τ 0 17 = nI p) : ∃ τ', X11_next0 F τ = some (0, τ') ∧ MT a y l p τ' ∧ ∀ c j, ¬ (c = 0 ∧ 17 ≤ j ∧ j ≤ 20) → τ' c j = τ c j := by
  have key : ∀ (m q f : Nat) (τ : Tau), q + m = trn y l 0 p → p ≤ q → trn y l 0 q = trn y l 0 p → m < f → MB a y l τ → τ 0 17 = nI q → ∃ τ', X11_next0_L0 F f τ = some (0, τ') ∧ MT a y l p τ' ∧ ∀ c j, ¬ (c = 0 ∧ 17 ≤ j ∧ j ≤ 20) → τ' c j = τ c j := by
    obtain ⟨b1, b2, b3, b4⟩ := trn_b (y := y) (l := l) (k := 0) (l - p) p (by omega)
    intro m
    induction m with
    | zero =>
      intro q f τ hq hpq hr hf hB h17
      obtain ⟨g, rfl, -⟩ := fuel hf
      obtain rfl : q = trn y l 0 p := by omega
      obtain ⟨e1, e2, e3⟩ := ten_b (y := y) (l := l) (p := p) hp
      have hB1 : MB a y l (up τ 0 19 (nI (trn y l 0 p))) := hB.congr (up_nj (by decide)) (up_nj (by decide)) (fun j => up_nc (by decide))
      have k17 : up τ 0 19 (nI (trn y l 0 p)) 0 17 = nI (trn y l 0 p) := (up_nj (by decide)).trans h17
      by_cases h : trn y l 0 p < l
      · have hy := hB.2.2 _ h
        have h4 := b4 h
        have n32 : ¬ nI (y (trn y l 0 p)) = 32 := fun z => h4 (tkd0.mpr (.inl ((lit_eq (n := 32) (by decide) (by omega)).mp z)))
        have n_10 : ¬ nI (y (trn y l 0 p)) = 10 := fun z => h4 (tkd0.mpr (.inr ((lit_eq (n := 10) (by decide) (by omega)).mp z)))
        have nm1 : ¬ nI (y (trn y l 0 p)) = -1 := fun z => (nI_m1 (by omega)).mp z
        have pre : X11_next0_L0 F (g + 1) τ = (if bI (tkd (y (trn y l 0 p)) = 1) = 0 then (if bI (tkd (y (trn y l 0 p)) = 2) = 0 then some (0, up (up (up τ 0 19 (nI (trn y l 0 p))) 0 17 (nI (trn y l 0 p + 1))) 0 18 (if tkd (y (trn y l 0 p)) = 3 then nI (100 + y (trn y l 0 p)) else 1)) else X11_next0_L126 F F (up (up τ 0 19 (nI (trn y l 0 p))) 0 20 0)) else X11_next0_L76 F F (up τ 0 19 (nI (trn y l 0 p)))) := by
          have kk : nI (trn y l 0 p) + 1 = nI (trn y l 0 p + 1) := litA'
          have see1 : X11_see F (nI (trn y l 0 p)) τ = some (nI (y (trn y l 0 p)), τ) := by rw [see_M hB hl b2, if_pos h]
          have see2 : X11_see F (nI (trn y l 0 p)) (up τ 0 19 (nI (trn y l 0 p))) = some (nI (y (trn y l 0 p)), up τ 0 19 (nI (trn y l 0 p))) := by rw [see_M hB1 hl b2, if_pos h]
          conv => lhs; unfold X11_next0_L0
          rw [h17, see1, cal_some, if_neg n32, h17, see1, cal_some, if_neg n_10, h17, pst_eq, k17, see2, cal_some, if_neg nm1, let_M hy.1, cal_some]
          by_cases c1 : tkd (y (trn y l 0 p)) = 1
          · rw [bI_t c1, if_neg n10, if_neg n10]
          · rw [bI_f c1, if_pos rfl, if_pos rfl, dig_M hy.1, cal_some]
            by_cases c2 : tkd (y (trn y l 0 p)) = 2
            · rw [bI_t c2, if_neg n10, if_neg n10, pst_eq]
            · rw [bI_f c2, if_pos rfl, if_pos rfl, pst_eq, k17, kk, sgn_M hy.1 c1 c2]
        rw [pre]
        unfold MT ten tokA
        rw [if_pos h, if_pos h]
        by_cases c1 : tkd (y (trn y l 0 p)) = 1
        · rw [bI_t c1, if_neg n10, if_pos c1, if_pos c1]
          obtain ⟨τ', t1, t2, t3, t4⟩ := run_M hF ha hl h c1 rfl (trn y l 1 (trn y l 0 p) - trn y l 0 p) (trn y l 0 p) F _ (by have := (trn_b (y := y) (l := l) (k := 1) (l - trn y l 0 p) (trn y l 0 p) (by omega)); omega) (Nat.le_refl _) (by have := (trn_b (y := y) (l := l) (k := 1) (l - trn y l 0 p) (trn y l 0 p) (by omega)); omega) hB1 k17 up_c
          have ee : ten y l p = trn y l 1 (trn y l 0 p) := by unfold ten; rw [if_pos h, if_pos c1]
          refine ⟨τ', t1, ⟨t2, by rw [t3, ee], by rw [t4 0 19 (by omega), up_c], fun n hn => ?_⟩, fun c j hc => by rw [t4 c j (by omega), up_if, if_neg (by omega)]⟩
          exfalso
          revert hn
          split
          · exact fun z => nomatch z
          · exact fun z => nomatch z
        · rw [bI_f c1, if_pos rfl, if_neg c1, if_neg c1]
          by_cases c2 : tkd (y (trn y l 0 p)) = 2
          · rw [bI_t c2, if_neg n10, if_pos c2, if_pos c2]
            have tb := trn_b (y := y) (l := l) (k := 2) (l - trn y l 0 p) (trn y l 0 p) (by omega)
            obtain ⟨τ', t1, t2, t3, t5, t4⟩ := dgt_M (F := F) (a := a) hl h c2 rfl (trn y l 2 (trn y l 0 p) - trn y l 0 p) (trn y l 0 p) F (up (up τ 0 19 (nI (trn y l 0 p))) 0 20 0) (by omega) (Nat.le_refl _) (by omega) (hB1.congr (up_nj (by decide)) (up_nj (by decide)) (fun j => up_nc (by decide))) (by rw [up_nj (by decide)]; exact k17) (by rw [up_nj (by decide), up_c]) (by rw [up_c, Nat.sub_self]; rfl)
            have ee : ten y l p = trn y l 2 (trn y l 0 p) := by unfold ten; rw [if_pos h, if_neg c1, if_pos c2]
            refine ⟨τ', t1, ⟨t2, by rw [t3, ee], by rw [t4 0 19 (by omega), up_nj (by decide), up_c], fun n hn => ?_⟩, fun c j hc => by rw [t4 c j (by omega), up_if, if_neg (by omega), up_if, if_neg (by omega)]⟩
            rw [ee] at hn
            by_cases c4 : trn y l 2 (trn y l 0 p) - trn y l 0 p ≤ 4
            · rw [if_pos c4] at hn
              have hn := Tok.num_inj hn
              rw [t5, ← hn, show min (trn y l 2 (trn y l 0 p) - trn y l 0 p) 4 = trn y l 2 (trn y l 0 p) - trn y l 0 p from by omega]
            · rw [if_neg c4] at hn
              exact nomatch hn
          · rw [bI_f c2, if_pos rfl, if_neg c2, if_neg c2]
            refine ⟨_, rfl, ⟨by rw [up_nj (by decide), up_c], ?_, by rw [up_nj (by decide), up_nj (by decide), up_c], fun n hn => ?_⟩, fun c j hc => by rw [up_if, if_neg (by omega), up_if, if_neg (by omega), up_if, if_neg (by omega)]⟩
            · rw [up_c]
              by_cases c3 : tkd (y (trn y l 0 p)) = 3
              · rw [if_pos c3, if_pos c3]; rfl
              · rw [if_neg c3, if_neg c3]; rfl
            · exfalso
              revert hn
              split
              · exact fun z => nomatch z
              · exact fun z => nomatch z
      · have see1 : X11_see F (nI (trn y l 0 p)) τ = some (-1, τ) := by rw [see_M hB hl b2, if_neg h]
        have see2 : X11_see F (nI (trn y l 0 p)) (up τ 0 19 (nI (trn y l 0 p))) = some (-1, up τ 0 19 (nI (trn y l 0 p))) := by rw [see_M hB1 hl b2, if_neg h]
        refine ⟨up (up τ 0 19 (nI (trn y l 0 p))) 0 18 0, ?_, ?_, fun c j hc => by rw [up_if, if_neg (by omega), up_if, if_neg (by omega)]⟩
        · conv => lhs; unfold X11_next0_L0
          rw [h17, see1, cal_some, if_neg (by decide), h17, see1, cal_some, if_neg (by decide), h17, pst_eq, k17, see2, cal_some, if_pos rfl, pst_eq]
        · unfold MT ten tokA
          rw [if_neg h, if_neg h]
          exact ⟨by rw [up_nj (by decide)]; exact k17, up_c, by rw [up_nj (by decide), up_c], fun n hn => nomatch hn⟩
    | succ m ih =>
      intro q f τ hq hpq hr hf hB h17
      obtain ⟨g, rfl, -⟩ := fuel hf
      have hb := b3 q hpq (by omega)
      have hy := hB.2.2 q (by omega)
      have kk : nI q + 1 = nI (q + 1) := litA'
      obtain ⟨τ', t1, t2, t3⟩ := ih (q + 1) g (up τ 0 17 (nI (q + 1))) (by omega) (by omega) (by rw [← trn_s (show q < l by omega) hb]; exact hr) (by omega) (hB.congr (up_nj (by decide)) (up_nj (by decide)) (fun j => up_nc (by decide))) up_c
      refine ⟨τ', ?_, t2, fun c j hc => by rw [t3 c j hc, up_if, if_neg (by omega)]⟩
      have see1 : X11_see F (nI q) τ = some (nI (y q), τ) := by rw [see_M hB hl (by omega), if_pos (by omega)]
      conv => lhs; unfold X11_next0_L0 X11_next0_j26
      rw [h17, see1, cal_some]
      rcases tkd0.mp hb with e | e
      · rw [if_pos (by rw [e]; rfl), pst_eq, h17, kk, t1]
      · rw [if_neg (by rw [e]; decide), h17, see1, cal_some, if_pos (by rw [e]; rfl), pst_eq, h17, kk, t1]
  obtain ⟨b1, b2, -, -⟩ := trn_b (y := y) (l := l) (k := 0) (l - p) p (by omega)
  exact key (trn y l 0 p - p) p F τ (by omega) (Nat.le_refl _) rfl (by omega) hB h17
