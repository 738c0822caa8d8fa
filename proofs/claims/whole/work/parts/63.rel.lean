/-! PURE PART. The relation behind n calls -/
def mvT (L : Nat → Bool) (i u : Nat) : Nat → Nat → Option Nat
  | 0, _ => none
  | m + 1, k => if L (i - u * k) = true then some k else mvT L i u m (k + 1)
def mvS (L : Nat → Bool) (i : Nat) : Int32 := match mvT L i 64 (i / 64 % 8) 1 with
  | some k => nI k
  | none => match mvT L i 8 (i / 8 % 8) 1 with
    | some k => nI (100 + k)
    | none => match mvT L i 1 (i % 8) 1 with
      | some k => nI (200 + k)
      | none => if 512 < i ∧ L (i - 512) = true then 300 else -1
def SilOK (f : Nat → Int32) : Prop := ∀ i, i < 1024 → f i = if mvS (fun j => decide (f j = 0)) i = -1 then 0 else 1
/-- a world of the class at b, and the reference's row -/
def RW (T nP nM : Nat) (q : Nat → Nat) (b : Nat) (tx : Tau) (w : Nat → Int32) : Prop :=
  (∀ k, k < 255 → w k = tx (b + 1 + slo k) (sli k)) ∧ tx (b + 1) 0 = nI nP ∧ tx (b + 1) 1 = nI nM ∧ w 255 = nI nP ∧ w 256 = nI nM ∧ nP ≤ 10 ∧ nM ≤ 14 ∧ Val T nP nM q w ∧ Wd nP nM q b tx w ∧ (∃ k, k ≤ 150 ∧ w 4 = nI k) ∧ ∀ i, i < 600 → w (760 + i) = tx (b + 45) i
/-- what can be undone -/
def Kep (T nP nM : Nat) (q : Nat → Nat) (r j : Nat) (tx tm : Tau) : Prop := (∀ k, k < 255 → tm 3 (255 * j + k) = tx (118 + 13 * r + slo k) (sli k)) ∧ tx (118 + 13 * r) 0 = nI nP ∧ tx (118 + 13 * r) 1 = nI nM ∧ Val T nP nM q (fun k => tm 3 (255 * j + k)) ∧ ∃ k, k ≤ 150 ∧ tm 3 (255 * j + 4) = nI k
def RH (T nP nM : Nat) (q : Nat → Nat) (tx tm : Tau) : Prop := ∃ sz nx, sz ≤ 6 ∧ nx < 6 ∧ tx 116 0 = nI sz ∧ tx 116 1 = nI nx ∧ tm 0 4 = nI sz ∧ ∀ j, j < sz → Kep T nP nM q ((nx + 6 - sz + j) % 6) j tx tm
def Rim (T : Nat) (tx tm : Tau) : Prop := (tx 0 2 = 0 ∧ tm 0 5 = 0) ∨ (tx 0 2 = 1 ∧ tm 0 5 = 1 ∧ ∃ nP nM q, RW T nP nM q 52 tx (tm 2))
def Rtp (tx tm : Tau) : Prop := ∃ l, l ≤ 400 ∧ tx 197 0 = nI l ∧ tm 0 16 = nI l ∧ ∀ i, i < l → ∃ b, b < 256 ∧ tx 198 i = nI b ∧ tm 8 i = nI b
def Rfa (tx tm : Tau) : Prop := tx 197 1 = tm 0 23 ∧ tx 197 2 = tm 0 25 ∧ (tm 0 26 = 0 ∨ tm 0 26 = 1)
def Rsi (tx : Tau) : Prop := tx 213 10 = 0 ∨ (tx 213 10 = 1 ∧ SilOK (tx 221))
def Rl (n : Nat) (tx tm : Tau) : Prop := ∃ nP nM q, RW (840 * n) nP nM q 1 tx (tm 1) ∧ RH (840 * n) nP nM q tx tm ∧ Rim (840 * n) tx tm ∧ Rtp tx tm ∧ Rfa tx tm ∧ Rsi tx
theorem RW.mono {T T' nP nM b : Nat} {q : Nat → Nat} {tx : Tau} {w : Nat → Int32} (h : RW T nP nM q b tx w) (hT : T ≤ T') : RW T' nP nM q b tx w := by
  obtain ⟨a1, a2, a3, a4, a5, a6, a7, a8, a9⟩ := h
  exact ⟨a1, a2, a3, a4, a5, a6, a7, Val_mono a8 hT, a9⟩
theorem RH.mono {T T' nP nM : Nat} {q : Nat → Nat} {tx tm : Tau} (h : RH T nP nM q tx tm) (hT : T ≤ T') : RH T' nP nM q tx tm := by
  obtain ⟨sz, nx, a1, a2, a3, a4, a5, a6⟩ := h
  exact ⟨sz, nx, a1, a2, a3, a4, a5, fun j hj => by
    obtain ⟨b1, b2, b3, b4, b5⟩ := a6 j hj
    exact ⟨b1, b2, b3, Val_mono b4 hT, b5⟩⟩
theorem Rim.mono {T T' : Nat} {tx tm : Tau} (h : Rim T tx tm) (hT : T ≤ T') : Rim T' tx tm := by
  rcases h with h | ⟨h1, h2, nP, nM, q, h3⟩
  · exact .inl h
  · exact .inr ⟨h1, h2, nP, nM, q, h3.mono hT⟩
theorem Rl_mono (n : Nat) (tx tm : Tau) (h : Rl n tx tm) : Rl (n + 1) tx tm := by
  obtain ⟨nP, nM, q, h1, h2, h3, h4⟩ := h
  exact ⟨nP, nM, q, h1.mono (by omega), h2.mono (by omega), h3.mono (by omega), h4⟩
theorem RW.congr {T nP nM b : Nat} {q : Nat → Nat} {tx tx' : Tau} {w w' : Nat → Int32} (h : RW T nP nM q b tx w) (hx : ∀ c j, (b + 1 ≤ c ∧ c ≤ b + 43) ∨ (b + 45 ≤ c ∧ c ≤ b + 50) → tx' c j = tx c j) (hw : ∀ k, k < 2244 → w' k = w k) : RW T nP nM q b tx' w' := by
  obtain ⟨a1, a2, a3, a4, a5, a6, a7, a8, a9, a10, a11⟩ := h
  refine ⟨fun k hk => ?_, ?_, ?_, ?_, ?_, a6, a7, ?_, ?_, ?_, fun i hi => ?_⟩
  · have := (sl_inv k hk).2.1
    rw [hw _ (by omega), hx _ _ (by omega)]; exact a1 k hk
  · rw [hx _ _ (by omega)]; exact a2
  · rw [hx _ _ (by omega)]; exact a3
  · rw [hw _ (by omega)]; exact a4
  · rw [hw _ (by omega)]; exact a5
  · exact Val_congr a7 a8 (fun k hk => hw k (by omega))
  · unfold Wd at a9 ⊢
    rw [vX_congr (tx := tx) (fun c j hc _ => hx _ _ (by omega)), vM_congr (w := w) (fun k hk => hw k (by omega))]
    exact a9
  · rw [hw _ (by omega)]; exact a10
  · rw [hw _ (by omega), hx _ _ (by omega)]; exact a11 i hi
theorem RH.congr {T nP nM : Nat} {q : Nat → Nat} {tx tm tx' tm' : Tau} (h : RH T nP nM q tx tm) (hx : ∀ c j, (c = 116 ∧ j < 2) ∨ (118 ≤ c ∧ c ≤ 195) → tx' c j = tx c j) (h0 : tm' 0 4 = tm 0 4) (h3 : ∀ k, tm' 3 k = tm 3 k) : RH T nP nM q tx' tm' := by
  obtain ⟨sz, nx, a1, a2, a3, a4, a5, a6⟩ := h
  refine ⟨sz, nx, a1, a2, by rw [hx _ _ (by omega)]; exact a3, by rw [hx _ _ (by omega)]; exact a4, by rw [h0]; exact a5, fun j hj => ?_⟩
  obtain ⟨b1, b2, b3, b4, b5⟩ := a6 j hj
  have hr : (nx + 6 - sz + j) % 6 < 6 := Nat.mod_lt _ (by decide)
  refine ⟨fun k hk => ?_, by rw [hx _ _ (by omega)]; exact b2, by rw [hx _ _ (by omega)]; exact b3, ?_, by rw [h3]; exact b5⟩
  · have := (sl_inv k hk).2.1
    rw [h3, hx _ _ (by omega)]; exact b1 k hk
  · have : (fun k => tm' 3 (255 * j + k)) = fun k => tm 3 (255 * j + k) := funext fun k => h3 _
    rw [this]; exact b4
theorem Rim.congr {T : Nat} {tx tm tx' tm' : Tau} (h : Rim T tx tm) (hx : ∀ c j, (c = 0 ∧ j = 2) ∨ (53 ≤ c ∧ c ≤ 95) ∨ (97 ≤ c ∧ c ≤ 102) → tx' c j = tx c j) (h0 : tm' 0 5 = tm 0 5) (h2 : ∀ k, k < 2244 → tm' 2 k = tm 2 k) : Rim T tx' tm' := by
  unfold Rim
  rw [hx _ _ (by omega), h0]
  rcases h with h | ⟨h1, h2', nP, nM, q, h3⟩
  · exact .inl h
  · exact .inr ⟨h1, h2', nP, nM, q, h3.congr (fun c j hc => hx _ _ (by omega)) h2⟩
theorem Rtp.congr {tx tm tx' tm' : Tau} (h : Rtp tx tm) (hx : ∀ c j, (c = 197 ∧ j = 0) ∨ c = 198 → tx' c j = tx c j) (h0 : tm' 0 16 = tm 0 16) (h8 : ∀ k, tm' 8 k = tm 8 k) : Rtp tx' tm' := by
  obtain ⟨l, a1, a2, a3, a4⟩ := h
  exact ⟨l, a1, by rw [hx _ _ (by omega)]; exact a2, by rw [h0]; exact a3, fun i hi => by rw [hx _ _ (by omega), h8]; exact a4 i hi⟩
theorem Rsi.congr {tx tx' : Tau} (h : Rsi tx) (h1 : tx' 213 10 = tx 213 10) (h2 : ∀ j, tx' 221 j = tx 221 j) : Rsi tx' := by
  unfold Rsi
  rw [h1, show tx' 221 = tx 221 from funext h2]
  exact h
/-- what the relation looks at beside the world of now -/
def coX (c j : Nat) : Prop := (c = 0 ∧ j = 2) ∨ (53 ≤ c ∧ c ≤ 95) ∨ (97 ≤ c ∧ c ≤ 102) ∨ (c = 116 ∧ j < 2) ∨ (118 ≤ c ∧ c ≤ 195) ∨ (c = 197 ∧ j < 3) ∨ c = 198 ∨ (c = 213 ∧ j = 10) ∨ c = 221
def coM (c j : Nat) : Prop := c = 2 ∨ c = 3 ∨ c = 8 ∨ (c = 0 ∧ (j = 4 ∨ j = 5 ∨ j = 16 ∨ j = 23 ∨ j = 25 ∨ j = 26))
def wnX (c : Nat) : Prop := (2 ≤ c ∧ c ≤ 44) ∨ (46 ≤ c ∧ c ≤ 51)
theorem Rl.frame {n n' nP nM : Nat} {q : Nat → Nat} {tx tm tx' tm' : Tau} (hn : n ≤ n') (hW : RW (840 * n') nP nM q 1 tx' (tm' 1)) (h : RH (840 * n) nP nM q tx tm ∧ Rim (840 * n) tx tm ∧ Rtp tx tm ∧ Rfa tx tm ∧ Rsi tx) (hx : ∀ c j, coX c j → tx' c j = tx c j) (hm : ∀ c j, coM c j → tm' c j = tm c j) : Rl n' tx' tm' := by
  obtain ⟨h2, h3, h4, h5, h6⟩ := h
  unfold coX at hx
  unfold coM at hm
  refine ⟨nP, nM, q, hW, (h2.mono (by omega)).congr (fun c j hc => hx _ _ (by omega)) (hm _ _ (by omega)) (fun k => hm _ _ (by omega)), (h3.mono (by omega)).congr (fun c j hc => hx _ _ (by omega)) (hm _ _ (by omega)) (fun k _ => hm _ _ (by omega)), h4.congr (fun c j hc => hx _ _ (by omega)) (hm _ _ (by omega)) (fun k => hm _ _ (by omega)), ?_, h6.congr (hx _ _ (by omega)) (fun j => hx _ _ (by omega))⟩
  unfold Rfa at h5 ⊢
  rw [hx _ _ (by omega), hx _ _ (by omega), hm _ _ (by omega), hm _ _ (by omega), hm _ _ (by omega)]
  exact h5
/-- a call that changes nothing of all that -/
theorem Rl.same {n : Nat} {tx tm tx' tm' : Tau} (h : Rl n tx tm) (hx : ∀ c j, wnX c ∨ coX c j → tx' c j = tx c j) (hm : ∀ c j, c = 1 ∨ coM c j → tm' c j = tm c j) : Rl (n + 1) tx' tm' := by
  obtain ⟨nP, nM, q, h1, h2⟩ := h
  exact Rl.frame (Nat.le_succ n) ((h1.mono (by omega)).congr (fun c j hc => hx _ _ (.inl (by unfold wnX; omega))) (fun k _ => hm _ _ (.inl rfl))) h2 (fun c j hc => hx _ _ (.inr hc)) (fun c j hc => hm _ _ (.inr hc))
/-- to the state within a day, and back -/
theorem RW.toSt {T nP nM : Nat} {q : Nat → Nat} {tx tm : Tau} (h : RW T nP nM q 1 tx (tm 1)) (hi : tm 0 26 = 1) : St 2 true true T nP nM q tx tm tx tm := by
  obtain ⟨a1, a2, a3, a4, a5, a6, a7, a8, a9, ⟨k, k1, k2⟩, a11⟩ := h
  exact ⟨⟨fun k hk _ => a1 k hk, a2, a3, a4, a5, a6, a7⟩, a8, a9, hi, ⟨.inl rfl, fun _ => rfl, fun _ => ⟨k, k1, (a1 4 (by decide)).symm.trans k2, k2, a11⟩⟩, fun _ _ _ _ _ _ => rfl, ⟨fun _ _ _ _ _ => rfl, fun _ _ => rfl⟩⟩
theorem St.toRW {T nP nM : Nat} {q : Nat → Nat} {tx0 tm0 tx tm : Tau} (h : St 2 true true T nP nM q tx0 tm0 tx tm) : RW T nP nM q 1 tx (tm 1) := by
  obtain ⟨⟨a1, a2, a3, a4, a5, a6, a7⟩, b, c, d, ⟨e1, e2, e3⟩, f⟩ := h
  obtain ⟨k, k1, k2, k3, k4⟩ := e3 rfl
  refine ⟨fun k' hk' => ?_, a2, a3, a4, a5, a6, a7, b, c, ⟨k, k1, k3⟩, k4⟩
  by_cases h4 : k' = 4
  · subst h4
    exact k3.trans k2.symm
  · exact a1 k' hk' h4
