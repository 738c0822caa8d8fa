/-! PURE PART. Maps: the class paints all -/
theorem paint_X {F s : Nat} {a b nb : Nat → Nat} (hF : 5000 ≤ F) (hab : ∀ i, i < s → a i ≠ b i) (hnb : ∀ l, l < 8 → nb l < 2 ^ 31 ∧ ∀ j, (nb l).testBit j = true ↔ NbL s a b l j) : ∀ m, m ≤ 8 → ∀ n, m < n → ∀ ms τ, ClsP ms τ → Low s a b (8 - m) ms → (∀ l, l < 8 → τ 217 l = nI (nb l)) → ∃ τ', X4_paint F 217 218 219 n (nI (8 - m)) (nI ms.length) τ = some (0, τ') ∧ Grow (fun k => pX (okE s a b) k m (tbs ms)) τ τ' ∧ (∀ i, i < 5 → τ' 218 i = τ 218 i) ∧ ∀ c j, c ≠ 218 → c ≠ 219 → τ' c j = τ c j := by
  intro m
  induction m with
  | zero =>
    intro _ n hn ms τ hC hlow hN
    obtain ⟨g, rfl, -⟩ := fuel hn
    have c5 := hC.1
    have ht : (tbs ms).length = ms.length := List.length_map _
    refine ⟨up τ 219 ms.length (τ 219 ms.length + 1), ?_, fun k hk v hv => ?_, fun i _ => up_nc (by decide), fun c j _ h2 => up_nc h2⟩
    · unfold X4_paint X4_paint_B
      rw [if_neg (show ¬ nI (8 - 0) < (8 : Int32) by decide), X10_entry_in (N := 6) rfl (by omega) (by decide), cal_some, X10_put_in (N := 6) rfl (by omega) (by decide), cal_some]
    · show up τ 219 ms.length (τ 219 ms.length + 1) 219 k = nI (v + if (tbs ms).length = k then 1 else 0)
      rw [ht]
      by_cases q : ms.length = k
      · rw [if_pos q, q, up_c, hv, litA']
      · rw [if_neg q, up_nj (fun z => q z.symm), hv, Nat.add_zero]
  | succ m ih =>
    intro hm n hn ms τ hC hlow hN
    obtain ⟨g, rfl, -⟩ := fuel hn
    rw [show 8 - (m + 1) = 7 - m by omega] at hlow ⊢
    obtain ⟨τ', e1, e2, e3, e4⟩ := paint_L (F := F) (m := m) (rc := X4_paint F 217 218 219 g) hF (by omega) hab hnb (fun ms τ h1 h2 h3 => ih (by omega) g (by omega) ms τ h1 h2 h3) ms hlow ms [] F τ rfl (by have := hC.1; omega) hC hN
    refine ⟨τ', ?_, ?_, e3, e4⟩
    · unfold X4_paint X4_paint_B
      rw [if_pos ((lit_lt (by decide) (by omega)).mpr (by omega))]
      exact e1
    · have ht : (tbs ms).length = ms.length := List.length_map _
      have : (fun k => pX (okE s a b) k (m + 1) (tbs ms)) = fun k => sP (okE s a b) (pX (okE s a b) k m) (7 - m) (tbs []) (tbs ms) + if ms.length < 5 then pX (okE s a b) k m (tbs ms ++ [insL noL (7 - m)]) else 0 := funext fun k => by
        show sP (okE s a b) (pX (okE s a b) k m) (7 - m) [] (tbs ms) + (if (tbs ms).length < 5 then pX (okE s a b) k m (tbs ms ++ [insL noL (7 - m)]) else 0) = _
        rw [ht]
        rfl
      rw [this]
      exact e2
theorem nb_or {nb l x j : Nat} : (nb ||| 2 ^ x).testBit j = true ↔ (nb.testBit j = true ∨ j = x) := by
  rw [Nat.testBit_or, Nat.testBit_two_pow, Bool.or_eq_true, decide_eq_true_eq]
  exact or_congr Iff.rfl eq_comm
theorem all_paint {F s : Nat} {a b : Nat → Nat} {tx : Tau} (hF : 5000 ≤ F) (hs : s ≤ 14) (x0 : tx 26 0 = nI s) (hx : ∀ i, i < s → a i < 8 ∧ b i < 8 ∧ a i ≠ b i ∧ tx 27 i = nI (8 * a i + b i)) : ∃ tx', X4_paintAll F tx = some (0, tx') ∧ (∀ k, k < 6 → tx' 219 k = nI (pX (okE s a b) k 8 [])) ∧ ∀ c j, c ≠ 217 → c ≠ 218 → c ≠ 219 → tx' c j = tx c j := by
  have loop : ∀ (m i f : Nat) (τ : Tau) (nb : Nat → Nat), i + m = s → m < f → (∀ l, l < 8 → nb l < 256 ∧ τ 217 l = nI (nb l) ∧ ∀ j, (nb l).testBit j = true ↔ NbL i a b l j) → (∀ j, j < 5 → τ 218 j = 0) → (∀ k, k < 6 → τ 219 k = 0) → (∀ c j, c ≠ 217 → c ≠ 218 → c ≠ 219 → τ c j = tx c j) → ∃ τ', X4_paintAll_L26 F f (nI i) τ = some (0, τ') ∧ (∀ k, k < 6 → τ' 219 k = nI (pX (okE s a b) k 8 [])) ∧ ∀ c j, c ≠ 217 → c ≠ 218 → c ≠ 219 → τ' c j = tx c j := by
    intro m
    induction m with
    | zero =>
      intro i f τ nb hi hf hn h18 h19 hc
      obtain ⟨g, rfl, -⟩ := fuel hf
      have : i = s := by omega
      subst this
      obtain ⟨τ1, e1, e2, e3, e4⟩ := paint_X (F := F) (s := i) (a := a) (b := b) (nb := nb) hF (fun i hi => (hx i hi).2.2.1) (fun l hl => ⟨by have := (hn l hl).1; omega, (hn l hl).2.2⟩) 8 (Nat.le_refl _) 12 (by decide) [] τ ⟨by decide, fun j hj => h18 j hj⟩ (fun x hx => absurd hx (List.not_mem_nil)) (fun l hl => (hn l hl).2.1)
      refine ⟨τ1, ?_, fun k hk => ?_, fun c j h1 h2 h3 => (e4 c j h2 h3).trans (hc c j h1 h2 h3)⟩
      · unfold X4_paintAll_L26
        rw [hc 26 0 (by decide) (by decide) (by decide), x0, if_pos (nI_le (Nat.le_refl _) (by omega)), show X4_paint F 217 218 219 12 0 0 τ = some (0, τ1) from e1, cal_some]
      · have := e2 k hk 0 (h19 k hk)
        rw [Nat.zero_add] at this
        exact this
    | succ m ih =>
      intro i f τ nb hi hf hn h18 h19 hc
      obtain ⟨g, rfl, -⟩ := fuel hf
      obtain ⟨a8, b8, hne, h27⟩ := hx i (by omega)
      have t26 : τ 26 0 = nI s := (hc 26 0 (by decide) (by decide) (by decide)).trans x0
      have t27 : τ (26 + 1) i = nI (8 * a i + b i) := (hc 27 i (by decide) (by decide) (by decide)).trans h27
      have pa : 2 ^ a i < 2 ^ 8 := Nat.pow_lt_pow_right (by decide) a8
      have pb : 2 ^ b i < 2 ^ 8 := Nat.pow_lt_pow_right (by decide) b8
      have la : nb (a i) ||| 2 ^ b i < 2 ^ 8 := Nat.or_lt_two_pow (hn _ a8).1 pb
      have lb : nb (b i) ||| 2 ^ a i < 2 ^ 8 := Nat.or_lt_two_pow (hn _ b8).1 pa
      obtain ⟨τ2, f1, f2, f3⟩ := ih (i + 1) g (up (up τ 217 (a i) (nI (nb (a i) ||| 2 ^ b i))) 217 (b i) (nI (nb (b i) ||| 2 ^ a i))) (updN (updN nb (a i) (nb (a i) ||| 2 ^ b i)) (b i) (nb (b i) ||| 2 ^ a i)) (by omega) (by omega) (fun l hl => by
        obtain ⟨n1, n2, n3⟩ := hn l hl
        have split : ∀ j, NbL (i + 1) a b l j ↔ NbL i a b l j ∨ (a i = l ∧ b i = j) ∨ (b i = l ∧ a i = j) := by
          intro j
          constructor
          · rintro ⟨k, hk, h⟩
            by_cases q : k = i
            · subst q; exact .inr h
            · exact .inl ⟨k, by omega, h⟩
          · rintro (⟨k, hk, h⟩ | h)
            · exact ⟨k, by omega, h⟩
            · exact ⟨i, by omega, h⟩
        by_cases q : l = b i
        · subst q
          rw [updN_k, up_c]
          refine ⟨lb, rfl, fun j => ?_⟩
          rw [nb_or (l := 0), split j, n3 j]
          constructor
          · rintro (h | h)
            · exact .inl h
            · exact .inr (.inr ⟨rfl, h.symm⟩)
          · rintro (h | h | h)
            · exact .inl h
            · exact absurd h.1 hne
            · exact .inr h.2.symm
        · rw [updN_n q, up_nj q]
          by_cases q2 : l = a i
          · subst q2
            rw [updN_k, up_c]
            refine ⟨la, rfl, fun j => ?_⟩
            rw [nb_or (l := 0), split j, n3 j]
            constructor
            · rintro (h | h)
              · exact .inl h
              · exact .inr (.inl ⟨rfl, h.symm⟩)
            · rintro (h | h | h)
              · exact .inl h
              · exact .inr h.2.symm
              · exact absurd h.1.symm q
          · rw [updN_n q2, up_nj q2]
            refine ⟨n1, n2, fun j => ?_⟩
            rw [n3 j, split j]
            constructor
            · exact fun h => .inl h
            · rintro (h | h | h)
              · exact h
              · exact absurd h.1.symm q2
              · exact absurd h.1.symm q) (fun j hj => by rw [up_nc (by decide), up_nc (by decide)]; exact h18 j hj) (fun k hk => by rw [up_nc (by decide), up_nc (by decide)]; exact h19 k hk) (fun c j h1 h2 h3 => by rw [up_nc h1, up_nc h1]; exact hc c j h1 h2 h3)
      refine ⟨τ2, ?_, f2, f3⟩
      conv => lhs; unfold X4_paintAll_L26
      rw [t26, if_neg (nI_ge (by omega) (by omega)), X5_get_in (cap := 14) rfl (by decide) t26 (by omega) hs, cal_some, X5_get_in (cap := 14) rfl (by decide) t26 (by omega) hs, cal_some, t27, show (8 : Int32) = nI 8 from rfl, nI_div (by omega) (by decide) (by decide), nI_rmd (by omega) (by decide) (by decide), show (8 * a i + b i) / 8 = a i by omega, show (8 * a i + b i) % 8 = b i by omega, X10_entry_in (N := 8) rfl a8 (by decide), cal_some, (hn _ a8).2.1, shl_p (by omega), shl_p (by omega), nI_or, X10_put_in (N := 8) rfl a8 (by decide), cal_some, X10_entry_in (N := 8) rfl b8 (by decide), cal_some, up_nj (show b i ≠ a i from fun z => hne z.symm), (hn _ b8).2.1, nI_or, X10_put_in (N := 8) rfl b8 (by decide), cal_some, litA', f1]
  obtain ⟨x1, e1, e2, e3⟩ := fill_all (F := F) (t0 := 217) (v := 0) (by decide) hF tx
  obtain ⟨x2, f1, f2, f3⟩ := fill_all (F := F) (t0 := 218) (v := 0) (by decide) hF x1
  obtain ⟨x3, g1, g2, g3⟩ := fill_all (F := F) (t0 := 219) (v := 0) (by decide) hF x2
  obtain ⟨x4, k1, k2, k3⟩ := loop s 0 F x3 (fun _ => 0) (by omega) (by omega) (fun l hl => ⟨by decide, by rw [g3 _ _ (by decide), f3 _ _ (by decide)]; exact e2 l hl, fun j => ⟨fun z => by rw [Nat.zero_testBit] at z; exact absurd z (by decide), fun ⟨k, hk, _⟩ => absurd hk (Nat.not_lt_zero k)⟩⟩) (fun j hj => by rw [g3 _ _ (by decide)]; exact f2 j hj) (fun k hk => g2 k hk) (fun c j h1 h2 h3 => by rw [g3 c j h3, f3 c j h2, e3 c j h1])
  refine ⟨x4, ?_, k2, k3⟩
  unfold X4_paintAll
  rw [e1, cal_some, f1, cal_some, g1, cal_some]
  exact k1
