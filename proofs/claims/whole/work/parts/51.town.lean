/-! PURE PART. Town: slots of the reference's row, and the class's cells -/
def slo (k : Nat) : Nat := if k < 5 then 0 else if k < 15 then 1 else if k < 25 then 2 else if k < 35 then 3 else if k < 45 then 4 else if k < 59 then 5 else if k < 73 then 6 else if k < 87 then 7 else if k < 101 then 8 else if k < 115 then 9 else if k < 129 then 10 else if k < 143 then 11 else 12
def sli (k : Nat) : Nat := if k < 5 then k + 2 else if k < 15 then k - 5 else if k < 25 then k - 15 else if k < 35 then k - 25 else if k < 45 then k - 35 else if k < 59 then k - 45 else if k < 73 then k - 59 else if k < 87 then k - 73 else if k < 101 then k - 87 else if k < 115 then k - 101 else if k < 129 then k - 115 else if k < 143 then k - 129 else k - 143
def slN (o j : Nat) : Nat := if o = 0 then j - 2 else ([0, 5, 15, 25, 35, 45, 59, 73, 87, 101, 115, 129, 143] : List Nat).getD o 0 + j
theorem sl_inv : ∀ k, k < 255 → slN (slo k) (sli k) = k ∧ slo k < 13 ∧ sli k < ([7, 10, 10, 10, 10, 14, 14, 14, 14, 14, 14, 14, 112] : List Nat).getD (slo k) 0 ∧ (slo k = 0 → 2 ≤ sli k) := by decide +kernel
theorem sl_lnB : ∀ o, o < 13 → ∀ j, j < ([7, 10, 10, 10, 10, 14, 14, 14, 14, 14, 14, 14, 112] : List Nat).getD o 0 → (o = 0 → 2 ≤ j) → slo (slN o j) = o ∧ sli (slN o j) = j ∧ slN o j < 255 := by decide +kernel
theorem sl_5 : ∀ p, p < 10 → slo (5 + p) = 1 ∧ sli (5 + p) = p := by decide +kernel
theorem sl_15 : ∀ p, p < 10 → slo (15 + p) = 2 ∧ sli (15 + p) = p := by decide +kernel
theorem sl_25 : ∀ p, p < 10 → slo (25 + p) = 3 ∧ sli (25 + p) = p := by decide +kernel
theorem sl_35 : ∀ p, p < 10 → slo (35 + p) = 4 ∧ sli (35 + p) = p := by decide +kernel
theorem sl_45 : ∀ p, p < 14 → slo (45 + p) = 5 ∧ sli (45 + p) = p := by decide +kernel
theorem sl_59 : ∀ p, p < 14 → slo (59 + p) = 6 ∧ sli (59 + p) = p := by decide +kernel
theorem sl_73 : ∀ p, p < 14 → slo (73 + p) = 7 ∧ sli (73 + p) = p := by decide +kernel
theorem sl_87 : ∀ p, p < 14 → slo (87 + p) = 8 ∧ sli (87 + p) = p := by decide +kernel
theorem sl_101 : ∀ p, p < 14 → slo (101 + p) = 9 ∧ sli (101 + p) = p := by decide +kernel
theorem sl_115 : ∀ p, p < 14 → slo (115 + p) = 10 ∧ sli (115 + p) = p := by decide +kernel
theorem sl_129 : ∀ p, p < 14 → slo (129 + p) = 11 ∧ sli (129 + p) = p := by decide +kernel
theorem sl_143 : ∀ p, p < 112 → slo (143 + p) = 12 ∧ sli (143 + p) = p := by decide +kernel
/-- the town at t is the reference's row, but for how many lines THE BOOK has -/
def Tw (t : Nat) (tx tm : Tau) : Prop := ∀ k, k < 255 → k ≠ 4 → tm 1 k = tx (t + slo k) (sli k)
theorem Tw.chg {t : Nat} {tx tm : Tau} (h : Tw t tx tm) {o j k : Nat} (v : Int32) (hk : k < 255) (e : slo k = o ∧ sli k = j) : Tw t (up tx (t + o) j v) (up tm 1 k v) := by
  intro k' hk' h4
  obtain ⟨rfl, rfl⟩ := e
  by_cases hkk : k' = k
  · subst hkk
    rw [up_c, up_c]
  · rw [up_nj hkk, h k' hk' h4, up_if, if_neg]
    rintro ⟨e1, e2⟩
    have a := (sl_inv k hk).1
    have b := (sl_inv k' hk').1
    have e3 : slo k' = slo k := by omega
    rw [e3, e2] at b
    omega
theorem Tw.upX {t : Nat} {tx tm : Tau} (h : Tw t tx tm) {c j : Nat} {v : Int32} (hc : c < t ∨ t + 12 < c ∨ (c = t ∧ (j < 2 ∨ j = 6))) : Tw t (up tx c j v) tm := by
  intro k hk h4
  rw [h k hk h4, up_if, if_neg]
  rintro ⟨e1, e2⟩
  obtain ⟨a1, a2, a3, a4⟩ := sl_inv k hk
  rcases hc with hc | hc | ⟨hc, hj⟩
  · omega
  · omega
  · have h0 : slo k = 0 := by omega
    have h5 := a4 h0
    rw [h0, e2] at a1
    unfold slN at a1
    rw [if_pos rfl] at a1
    omega
theorem Tw.upM {t : Nat} {tx tm : Tau} (h : Tw t tx tm) {c k : Nat} {v : Int32} (hc : c ≠ 1 ∨ 255 ≤ k ∨ k = 4) : Tw t tx (up tm c k v) := by
  intro k' hk' h4
  rw [up_if, if_neg]
  · exact h k' hk' h4
  · rintro ⟨e1, e2⟩
    omega
theorem Tw.trust {t : Nat} {tx tm : Tau} (h : Tw t tx tm) {p : Nat} (hp : p < 10) : tm 1 (5 + p) = tx (t + 1) p := by
  rw [h _ (by omega) (by omega), (sl_5 p hp).1, (sl_5 p hp).2]
theorem Tw.step {t : Nat} {tx tm : Tau} (h : Tw t tx tm) {p : Nat} (hp : p < 10) : tm 1 (15 + p) = tx (t + 2) p := by
  rw [h _ (by omega) (by omega), (sl_15 p hp).1, (sl_15 p hp).2]
theorem Tw.nods {t : Nat} {tx tm : Tau} (h : Tw t tx tm) {p : Nat} (hp : p < 10) : tm 1 (25 + p) = tx (t + 3) p := by
  rw [h _ (by omega) (by omega), (sl_25 p hp).1, (sl_25 p hp).2]
theorem Tw.treaty {t : Nat} {tx tm : Tau} (h : Tw t tx tm) {p : Nat} (hp : p < 10) : tm 1 (35 + p) = tx (t + 4) p := by
  rw [h _ (by omega) (by omega), (sl_35 p hp).1, (sl_35 p hp).2]
theorem Tw.skill {t : Nat} {tx tm : Tau} (h : Tw t tx tm) {p : Nat} (hp : p < 14) : tm 1 (45 + p) = tx (t + 5) p := by
  rw [h _ (by omega) (by omega), (sl_45 p hp).1, (sl_45 p hp).2]
theorem Tw.grief {t : Nat} {tx tm : Tau} (h : Tw t tx tm) {p : Nat} (hp : p < 14) : tm 1 (59 + p) = tx (t + 6) p := by
  rw [h _ (by omega) (by omega), (sl_59 p hp).1, (sl_59 p hp).2]
theorem Tw.fals {t : Nat} {tx tm : Tau} (h : Tw t tx tm) {p : Nat} (hp : p < 14) : tm 1 (73 + p) = tx (t + 7) p := by
  rw [h _ (by omega) (by omega), (sl_73 p hp).1, (sl_73 p hp).2]
theorem Tw.at_ {t : Nat} {tx tm : Tau} (h : Tw t tx tm) {p : Nat} (hp : p < 14) : tm 1 (87 + p) = tx (t + 8) p := by
  rw [h _ (by omega) (by omega), (sl_87 p hp).1, (sl_87 p hp).2]
theorem Tw.known {t : Nat} {tx tm : Tau} (h : Tw t tx tm) {p : Nat} (hp : p < 14) : tm 1 (101 + p) = tx (t + 9) p := by
  rw [h _ (by omega) (by omega), (sl_101 p hp).1, (sl_101 p hp).2]
theorem Tw.many {t : Nat} {tx tm : Tau} (h : Tw t tx tm) {p : Nat} (hp : p < 14) : tm 1 (115 + p) = tx (t + 10) p := by
  rw [h _ (by omega) (by omega), (sl_115 p hp).1, (sl_115 p hp).2]
theorem Tw.shown {t : Nat} {tx tm : Tau} (h : Tw t tx tm) {p : Nat} (hp : p < 14) : tm 1 (129 + p) = tx (t + 11) p := by
  rw [h _ (by omega) (by omega), (sl_129 p hp).1, (sl_129 p hp).2]
theorem Tw.thing {t : Nat} {tx tm : Tau} (h : Tw t tx tm) {p : Nat} (hp : p < 112) : tm 1 (143 + p) = tx (t + 12) p := by
  rw [h _ (by omega) (by omega), (sl_143 p hp).1, (sl_143 p hp).2]
theorem Tw.ports {t : Nat} {tx tm : Tau} (h : Tw t tx tm) : tm 1 0 = tx t 2 := h 0 (by decide) (by decide)
theorem Tw.lost {t : Nat} {tx tm : Tau} (h : Tw t tx tm) : tm 1 1 = tx t 3 := h 1 (by decide) (by decide)
theorem Tw.day {t : Nat} {tx tm : Tau} (h : Tw t tx tm) : tm 1 2 = tx t 4 := h 2 (by decide) (by decide)
theorem Tw.draws {t : Nat} {tx tm : Tau} (h : Tw t tx tm) : tm 1 3 = tx t 5 := h 3 (by decide) (by decide)
theorem sl_sc : ∀ k, k < 5 → slo k = 0 ∧ sli k = k + 2 := by decide +kernel
/-- what holds of the row of a town -/
def Val (T nP nM : Nat) (q : Nat → Nat) (u : Nat → Int32) : Prop :=
  (∀ m, m < nM → u (87 + m) = -1 ∨ ∃ p, p < nP ∧ u (87 + m) = nI p) ∧ (∀ m, m < nM → ∃ c, c ≤ 8 ∧ u (115 + m) = nI c) ∧ (∀ m, m < nM → ∃ s, s ≤ 8 ∧ u (129 + m) = nI s) ∧ (∀ k, k < 112 → ∃ h, h < 12 ∧ u (143 + k) = nI h) ∧
  (∀ m, m < 14 → u (101 + m) = 0 ∨ u (101 + m) = 1) ∧ (∀ p, p < 10 → ∃ s, s ≤ 6 ∧ u (15 + p) = nI s ∧ (s = 0 ∨ s < q p)) ∧ (∀ p, p < 10 → ∃ z, z ≤ T ∧ u (35 + p) = nI z) ∧
  (∀ m, nM ≤ m → m < 14 → u (101 + m) = 0 ∧ u (115 + m) = 0 ∧ u (129 + m) = 0) ∧ (∀ p, nP ≤ p → p < 10 → u (5 + p) = 0 ∧ u (15 + p) = 0 ∧ u (25 + p) = 0 ∧ u (35 + p) = 0)
theorem upd_k {f : Nat → Int32} {k : Nat} {x : Int32} : upd f k x k = x := by simp [upd]
theorem upd_n {f : Nat → Int32} {k j : Nat} {x : Int32} (h : j ≠ k) : upd f k x j = f j := by simp [upd, h]
theorem Val_upd {T nP nM : Nat} {q : Nat → Nat} {u : Nat → Int32} (h : Val T nP nM q u) (hP : nP ≤ 10) (hM : nM ≤ 14) (k : Nat) (v : Int32) (h1 : ∀ m, m < nM → k = 87 + m → v = -1 ∨ ∃ p, p < nP ∧ v = nI p := by intros; omega) (h2 : ∀ m, m < nM → k = 115 + m → ∃ c, c ≤ 8 ∧ v = nI c := by intros; omega)
    (h3 : ∀ m, m < nM → k = 129 + m → ∃ c, c ≤ 8 ∧ v = nI c := by intros; omega) (h4 : ∀ m, m < 112 → k = 143 + m → ∃ c, c < 12 ∧ v = nI c := by intros; omega) (h5 : ∀ m, m < 14 → k = 101 + m → v = 0 ∨ v = 1 := by intros; omega) (h6 : ∀ p, p < 10 → k = 15 + p → ∃ s, s ≤ 6 ∧ v = nI s ∧ (s = 0 ∨ s < q p) := by intros; omega)
    (h7 : ∀ p, p < 10 → k = 35 + p → ∃ z, z ≤ T ∧ v = nI z := by intros; omega) (h8 : ∀ m, nM ≤ m → m < 14 → k = 101 + m ∨ k = 115 + m ∨ k = 129 + m → v = 0 := by intros; omega) (h9 : ∀ p, nP ≤ p → p < 10 → k = 5 + p ∨ k = 15 + p ∨ k = 25 + p ∨ k = 35 + p → v = 0 := by intros; omega) : Val T nP nM q (upd u k v) := by
  obtain ⟨a1, a2, a3, a4, a5, a6, a7, a8, a9⟩ := h
  refine ⟨fun m hm => ?_, fun m hm => ?_, fun m hm => ?_, fun m hm => ?_, fun m hm => ?_, fun p hp => ?_, fun p hp => ?_, fun m hm hm2 => ?_, fun p hp hp2 => ?_⟩
  · by_cases e : k = 87 + m
    · subst e; rw [upd_k]; exact h1 m hm rfl
    · rw [upd_n (Ne.symm e)]; exact a1 m hm
  · by_cases e : k = 115 + m
    · subst e; rw [upd_k]; exact h2 m hm rfl
    · rw [upd_n (Ne.symm e)]; exact a2 m hm
  · by_cases e : k = 129 + m
    · subst e; rw [upd_k]; exact h3 m hm rfl
    · rw [upd_n (Ne.symm e)]; exact a3 m hm
  · by_cases e : k = 143 + m
    · subst e; rw [upd_k]; exact h4 m hm rfl
    · rw [upd_n (Ne.symm e)]; exact a4 m hm
  · by_cases e : k = 101 + m
    · subst e; rw [upd_k]; exact h5 m hm rfl
    · rw [upd_n (Ne.symm e)]; exact a5 m hm
  · by_cases e : k = 15 + p
    · subst e; rw [upd_k]; exact h6 p hp rfl
    · rw [upd_n (Ne.symm e)]; exact a6 p hp
  · by_cases e : k = 35 + p
    · subst e; rw [upd_k]; exact h7 p hp rfl
    · rw [upd_n (Ne.symm e)]; exact a7 p hp
  · obtain ⟨b1, b2, b3⟩ := a8 m hm hm2
    have key : ∀ j, (j = 101 + m ∨ j = 115 + m ∨ j = 129 + m) → u j = 0 → upd u k v j = 0 := by
      intro j hj hu
      by_cases e : k = j
      · subst e; rw [upd_k]; exact h8 m hm hm2 hj
      · rw [upd_n (Ne.symm e)]; exact hu
    exact ⟨key _ (.inl rfl) b1, key _ (.inr (.inl rfl)) b2, key _ (.inr (.inr rfl)) b3⟩
  · obtain ⟨b1, b2, b3, b4⟩ := a9 p hp hp2
    have key : ∀ j, (j = 5 + p ∨ j = 15 + p ∨ j = 25 + p ∨ j = 35 + p) → u j = 0 → upd u k v j = 0 := by
      intro j hj hu
      by_cases e : k = j
      · subst e; rw [upd_k]; exact h9 p hp hp2 hj
      · rw [upd_n (Ne.symm e)]; exact hu
    exact ⟨key _ (.inl rfl) b1, key _ (.inr (.inl rfl)) b2, key _ (.inr (.inr (.inl rfl))) b3, key _ (.inr (.inr (.inr rfl))) b4⟩
theorem Val_congr {T nP nM : Nat} {q : Nat → Nat} {u u' : Nat → Int32} (hM : nM ≤ 14) (h : Val T nP nM q u) (e : ∀ k, k < 255 → u' k = u k) : Val T nP nM q u' := by
  obtain ⟨a1, a2, a3, a4, a5, a6, a7, a8, a9⟩ := h
  refine ⟨fun m hm => ?_, fun m hm => ?_, fun m hm => ?_, fun m hm => ?_, fun m hm => ?_, fun p hp => ?_, fun p hp => ?_, fun m hm hm2 => ?_, fun p hp hp2 => ?_⟩
  · rw [e _ (by omega)]; exact a1 m hm
  · rw [e _ (by omega)]; exact a2 m hm
  · rw [e _ (by omega)]; exact a3 m hm
  · rw [e _ (by omega)]; exact a4 m hm
  · rw [e _ (by omega)]; exact a5 m hm
  · rw [e _ (by omega)]; exact a6 p hp
  · rw [e _ (by omega)]; exact a7 p hp
  · rw [e _ (by omega), e _ (by omega), e _ (by omega)]; exact a8 m hm hm2
  · rw [e _ (by omega), e _ (by omega), e _ (by omega), e _ (by omega)]; exact a9 p hp hp2
theorem Val_mono {T T' nP nM : Nat} {q : Nat → Nat} {u : Nat → Int32} (h : Val T nP nM q u) (hT : T ≤ T') : Val T' nP nM q u := by
  obtain ⟨a1, a2, a3, a4, a5, a6, a7, a8, a9⟩ := h
  exact ⟨a1, a2, a3, a4, a5, a6, fun p hp => (a7 p hp).elim fun z hz => ⟨z, Nat.le_trans hz.1 hT, hz.2⟩, a8, a9⟩
