/-! PURE PART. Steps: signs -/
def cn (f : Nat → Nat) (v : Nat) : Nat → Nat
  | 0 => 0
  | c + 1 => cn f v c + if f c = v then 1 else 0
def updN (f : Nat → Nat) (k x : Nat) : Nat → Nat := fun i => if i = k then x else f i
theorem updN_k {f : Nat → Nat} {k x : Nat} : updN f k x k = x := if_pos rfl
theorem updN_n {f : Nat → Nat} {k x i : Nat} (h : i ≠ k) : updN f k x i = f i := if_neg h
theorem cn_congr {f g : Nat → Nat} {v : Nat} : ∀ c, (∀ i, i < c → f i = g i) → cn f v c = cn g v c := by
  intro c
  induction c with
  | zero => intro _; rfl
  | succ c ih =>
    intro h
    show cn f v c + (if f c = v then 1 else 0) = cn g v c + if g c = v then 1 else 0
    rw [ih (fun i hi => h i (by omega)), h c (by omega)]
theorem cn_upd {f : Nat → Nat} {v k x : Nat} : ∀ c, k < c → cn (updN f k x) v c + (if f k = v then 1 else 0) = cn f v c + if x = v then 1 else 0 := by
  intro c
  induction c with
  | zero => intro h; exact absurd h (Nat.not_lt_zero k)
  | succ c ih =>
    intro h
    show cn (updN f k x) v c + (if updN f k x c = v then 1 else 0) + (if f k = v then 1 else 0) = cn f v c + (if f c = v then 1 else 0) + if x = v then 1 else 0
    by_cases e : k = c
    · subst e
      rw [updN_k, cn_congr (g := f) k (fun i hi => updN_n (by omega))]
      omega
    · rw [updN_n (show c ≠ k by omega)]
      have := ih (by omega)
      omega
theorem cn_pos {f : Nat → Nat} {v : Nat} : ∀ c, 0 < cn f v c ↔ ∃ i, i < c ∧ f i = v := by
  intro c
  induction c with
  | zero => exact ⟨fun h => absurd h (Nat.lt_irrefl 0), fun ⟨i, hi, _⟩ => absurd hi (Nat.not_lt_zero i)⟩
  | succ c ih =>
    show 0 < cn f v c + (if f c = v then 1 else 0) ↔ _
    constructor
    · intro h
      by_cases e : f c = v
      · exact ⟨c, by omega, e⟩
      · rw [if_neg e] at h
        obtain ⟨i, h1, h2⟩ := ih.mp (by omega)
        exact ⟨i, by omega, h2⟩
    · rintro ⟨i, h1, h2⟩
      by_cases e : i = c
      · subst e
        rw [if_pos h2]
        omega
      · have := ih.mpr ⟨i, by omega, h2⟩
        omega
/-- one taken out, the last in its place -/
theorem cn_take {f : Nat → Nat} {v k c : Nat} (hk : k < c + 1) : cn (updN f k (f c)) v c + (if f k = v then 1 else 0) = cn f v (c + 1) := by
  show _ = cn f v c + if f c = v then 1 else 0
  by_cases e : k = c
  · subst e
    rw [cn_congr (g := f) k (fun i hi => updN_n (by omega))]
  · exact cn_upd c (by omega)
theorem least_same {f g : Nat → Nat} {c i j : Nat} (h : ∀ v, cn f v c = cn g v c) (hi : i < c) (hj : j < c) (fi : ∀ k, k < c → f i ≤ f k) (gj : ∀ k, k < c → g j ≤ g k) : f i = g j := by
  obtain ⟨a, a1, a2⟩ := (cn_pos (f := g) (v := f i) c).mp (by rw [← h]; exact (cn_pos c).mpr ⟨i, hi, rfl⟩)
  obtain ⟨b, b1, b2⟩ := (cn_pos (f := f) (v := g j) c).mp (by rw [h]; exact (cn_pos c).mpr ⟨j, hj, rfl⟩)
  have := gj a a1
  have := fi b b1
  omega
theorem take_X {F c : Nat} {f : Nat → Nat} {τ : Tau} (hF : 5000 ≤ F) (hc : 1 ≤ c) (hc8 : c ≤ 8) (h : ∀ i, i < c → τ 216 i = nI (f i) ∧ f i < 2 ^ 30) : ∃ k, k < c ∧ (∀ i, i < c → f k ≤ f i) ∧ X4_takeLeast F (nI c) τ = some (nI (f k), up τ 216 k (nI (f (c - 1)))) := by
  have key : ∀ (m i b fx : Nat), i + m = c → b < i → m < fx → (∀ k, k < i → f b ≤ f k) → ∃ k, k < c ∧ (∀ i, i < c → f k ≤ f i) ∧ X4_takeLeast_L4 F fx (nI c) (nI b) (nI i) τ = some (nI (f k), up τ 216 k (nI (f (c - 1)))) := by
    intro m
    induction m with
    | zero =>
      intro i b fx hi hb hf hl
      obtain ⟨g, rfl, -⟩ := fuel hf
      have : i = c := by omega
      subst this
      refine ⟨b, hb, hl, ?_⟩
      unfold X4_takeLeast_L4
      rw [if_pos (nI_le (Nat.le_refl _) (by omega)), X10_entry_in (N := 8) rfl (by omega) (by decide), cal_some, litS (show 1 ≤ i from hc), X10_entry_in (N := 8) rfl (by omega) (by decide), cal_some, X10_put_in (N := 8) rfl (by omega) (by decide), cal_some, (h b hb).1, (h (i - 1) (by omega)).1]
    | succ m ih =>
      intro i b fx hi hb hf hl
      obtain ⟨g, rfl, -⟩ := fuel hf
      conv => enter [1, k, 2, 2, 1]; unfold X4_takeLeast_L4
      unfold X4_takeLeast_j30
      have h1 := (h i (by omega)).2
      have h2 := (h b (by omega)).2
      rw [if_neg (nI_ge (by omega) (by omega)), X10_entry_in (N := 8) rfl (by omega) (by decide), cal_some, X10_entry_in (N := 8) rfl (by omega) (by decide), cal_some, (h b (by omega)).1, (h i (by omega)).1, litA']
      by_cases e : f b ≤ f i
      · rw [if_pos ((nI_leI (by omega) (by omega)).mpr e)]
        refine ih (i + 1) b g (by omega) (by omega) (by omega) (fun k hk => ?_)
        by_cases q : k = i
        · subst q; exact e
        · exact hl k (by omega)
      · rw [if_neg (fun z => e ((nI_leI (by omega) (by omega)).mp z))]
        refine ih (i + 1) i g (by omega) (by omega) (by omega) (fun k hk => ?_)
        by_cases q : k = i
        · subst q; exact Nat.le_refl _
        · have := hl k (by omega); omega
  exact key (c - 1) 1 0 F (by omega) (by decide) (by omega) (fun k hk => by rw [show k = 0 by omega]; exact Nat.le_refl _)
theorem least_M {F c s : Nat} {skip : Int32} {f : Nat → Nat} {τ : Tau} (hF : 5000 ≤ F) (hc8 : c ≤ 8) (h : ∀ i, i < c → τ 11 i = nI (f i) ∧ f i < 2 ^ 30) (hs : ∀ i, i < c → (nI i = skip ↔ i = s)) (hex : ∃ i, i < c ∧ i ≠ s) : ∃ k, k < c ∧ k ≠ s ∧ (∀ i, i < c → i ≠ s → f k ≤ f i) ∧ X11_leastHeap F (nI c) skip τ = some (nI k, τ) := by
  have key : ∀ (m i fx : Nat) (b : Int32), i + m = c → m < fx → ((b = -1 ∧ ∀ k, k < i → k = s) ∨ ∃ j, j < i ∧ j ≠ s ∧ b = nI j ∧ ∀ k, k < i → k ≠ s → f j ≤ f k) → ∃ k, k < c ∧ k ≠ s ∧ (∀ i, i < c → i ≠ s → f k ≤ f i) ∧ X11_leastHeap_L5 F fx (nI c) skip b (nI i) τ = some (nI k, τ) := by
    intro m
    induction m with
    | zero =>
      intro i fx b hi hf hl
      obtain ⟨g, rfl, -⟩ := fuel hf
      have : i = c := by omega
      subst this
      rcases hl with ⟨-, hl⟩ | ⟨j, j1, j2, j3, j4⟩
      · obtain ⟨k, k1, k2⟩ := hex
        exact absurd (hl k k1) k2
      · refine ⟨j, j1, j2, j4, ?_⟩
        unfold X11_leastHeap_L5
        rw [if_pos (nI_le (Nat.le_refl _) (by omega)), j3]
    | succ m ih =>
      intro i fx b hi hf hl
      obtain ⟨g, rfl, -⟩ := fuel hf
      conv => enter [1, k, 2, 2, 2, 1]; unfold X11_leastHeap_L5
      unfold X11_leastHeap_j38 X11_leastHeap_j41
      rw [if_neg (nI_ge (by omega) (by omega)), litA']
      by_cases es : i = s
      · rw [if_pos ((hs i (by omega)).mpr es)]
        refine ih (i + 1) g b (by omega) (by omega) ?_
        rcases hl with ⟨l1, l2⟩ | ⟨j, j1, j2, j3, j4⟩
        · refine .inl ⟨l1, fun k hk => ?_⟩
          by_cases q : k = i
          · rw [q]; exact es
          · exact l2 k (by omega)
        · refine .inr ⟨j, by omega, j2, j3, fun k hk hks => ?_⟩
          exact j4 k (by omega) hks
      · rw [if_neg (fun z => es ((hs i (by omega)).mp z))]
        rcases hl with ⟨l1, l2⟩ | ⟨j, j1, j2, j3, j4⟩
        · rw [if_pos l1]
          refine ih (i + 1) g (nI i) (by omega) (by omega) (.inr ⟨i, by omega, es, rfl, fun k hk hks => ?_⟩)
          by_cases q : k = i
          · rw [q]; exact Nat.le_refl _
          · exact absurd (l2 k (by omega)) hks
        · have h1 := (h i (by omega)).2
          have h2 := (h j (by omega)).2
          rw [if_neg (show ¬ b = -1 by rw [j3]; exact fun z => (nI_m1 (by omega)).mp z), ald_nI (by omega) (by omega), j3, ald_nI (by omega) (by omega), (h i (by omega)).1, (h j (by omega)).1]
          by_cases e : f j ≤ f i
          · rw [if_pos ((nI_leI (by omega) (by omega)).mpr e)]
            refine ih (i + 1) g (nI j) (by omega) (by omega) (.inr ⟨j, by omega, j2, rfl, fun k hk hks => ?_⟩)
            by_cases q : k = i
            · rw [q]; exact e
            · exact j4 k (by omega) hks
          · rw [if_neg (fun z => e ((nI_leI (by omega) (by omega)).mp z))]
            refine ih (i + 1) g (nI i) (by omega) (by omega) (.inr ⟨i, by omega, es, rfl, fun k hk hks => ?_⟩)
            by_cases q : k = i
            · rw [q]; exact Nat.le_refl _
            · have := j4 k (by omega) hks; omega
  exact key c 0 F (-1) (by omega) (by omega) (.inl ⟨rfl, fun k hk => absurd hk (Nat.not_lt_zero k)⟩)
theorem signs_eq {F : Nat} (hF : 5000 ≤ F) : ∀ (c fx fm : Nat) (f h : Nat → Nat) (acc : Int32) (tx tm : Tau), c ≤ 8 → c < fx → c < fm → (∀ i, i < c → tx 216 i = nI (f i) ∧ f i ≤ 99 * 2 ^ (8 - c)) → (∀ i, i < c → tm 11 i = nI (h i) ∧ h i ≤ 99 * 2 ^ (8 - c)) → (∀ v, cn f v c = cn h v c) →
    ∃ r tx' tm', X4_leastSigns_L56 F fx acc (nI c) tx = some (r, tx') ∧ X11_signs_L40 F fm (nI c) acc tm = some (r, tm') ∧ (∀ c j, c ≠ 216 → tx' c j = tx c j) ∧ ∀ c j, c ≠ 11 → tm' c j = tm c j := by
  intro c
  induction c with
  | zero =>
    intro fx fm f h acc tx tm _ hfx hfm _ _ _
    obtain ⟨gx, rfl, -⟩ := fuel hfx
    obtain ⟨gm, rfl, -⟩ := fuel hfm
    unfold X4_leastSigns_L56 X11_signs_L40
    rw [if_pos (by decide), if_pos (by decide)]
    exact ⟨acc, tx, tm, rfl, rfl, fun _ _ _ => rfl, fun _ _ _ => rfl⟩
  | succ c ih =>
    intro fx fm f h acc tx tm hc8 hfx hfm hx hm hcn
    obtain ⟨gx, rfl, -⟩ := fuel hfx
    obtain ⟨gm, rfl, -⟩ := fuel hfm
    unfold X4_leastSigns_L56 X11_signs_L40
    by_cases c0 : c = 0
    · rw [if_pos (by rw [c0]; decide), if_pos (by rw [c0]; decide)]
      exact ⟨acc, tx, tm, rfl, rfl, fun _ _ _ => rfl, fun _ _ _ => rfl⟩
    obtain ⟨d, rfl⟩ : ∃ d, c = d + 1 := ⟨c - 1, by omega⟩
    have hB : 2 ^ (8 - (d + 1)) = 2 * 2 ^ (8 - (d + 1 + 1)) := by rw [show 8 - (d + 1) = (8 - (d + 1 + 1)) + 1 by omega, Nat.pow_succ, Nat.mul_comm]
    have hB8 : 2 ^ (8 - (d + 1)) ≤ 256 := Nat.pow_le_pow_right (n := 2) (by decide) (show 8 - (d + 1) ≤ 8 by omega)
    generalize hb : 2 ^ (8 - (d + 1 + 1)) = B at hx hm hB
    have hgt : ¬ nI (d + 1 + 1) ≤ (1 : Int32) := by rw [lit_le (by decide) (by omega)]; omega
    -- the class
    obtain ⟨k1, k1l, k1m, e1⟩ := take_X (F := F) (c := d + 1 + 1) (f := f) (τ := tx) hF (by omega) hc8 (fun i hi => ⟨(hx i hi).1, by have := (hx i hi).2; omega⟩)
    rw [show d + 1 + 1 - 1 = d + 1 by omega] at e1
    have hx1 : ∀ i, i < d + 1 → up tx 216 k1 (nI (f (d + 1))) 216 i = nI (updN f k1 (f (d + 1)) i) ∧ updN f k1 (f (d + 1)) i ≤ 99 * B := by
      intro i hi
      by_cases e : i = k1
      · subst e
        rw [up_c, updN_k]
        exact ⟨rfl, (hx (d + 1) (by omega)).2⟩
      · rw [up_nj e, updN_n e]
        exact hx i (by omega)
    obtain ⟨k2, k2l, k2m, e2⟩ := take_X (F := F) (c := d + 1) (f := updN f k1 (f (d + 1))) (τ := up tx 216 k1 (nI (f (d + 1)))) hF (by omega) (by omega) (fun i hi => ⟨(hx1 i hi).1, by have := (hx1 i hi).2; omega⟩)
    rw [show d + 1 - 1 = d by omega] at e2
    -- the model
    obtain ⟨j1, j1l, -, j1m, g1⟩ := least_M (F := F) (c := d + 1 + 1) (s := 100) (skip := -1) (f := h) (τ := tm) hF hc8 (fun i hi => ⟨(hm i hi).1, by have := (hm i hi).2; omega⟩) (fun i hi => ⟨fun z => ((nI_m1 (by omega)).mp z).elim, fun z => by omega⟩) ⟨0, by omega, by decide⟩
    obtain ⟨j2, j2l, j2n, j2m, g2⟩ := least_M (F := F) (c := d + 1 + 1) (s := j1) (skip := nI j1) (f := h) (τ := tm) hF hc8 (fun i hi => ⟨(hm i hi).1, by have := (hm i hi).2; omega⟩) (fun i hi => nI_eq (by omega) (by omega)) (by
      by_cases q : j1 = 0
      · exact ⟨1, by omega, by omega⟩
      · exact ⟨0, by omega, by omega⟩)
    -- the same two
    have s1 : f k1 = h j1 := least_same hcn k1l j1l k1m (fun k hk => j1m k hk (by omega))
    have hcn1 : ∀ v, cn (updN f k1 (f (d + 1))) v (d + 1) = cn (updN h j1 (h (d + 1))) v (d + 1) := by
      intro v
      have a := cn_take (f := f) (v := v) (k := k1) (c := d + 1) k1l
      have b := cn_take (f := h) (v := v) (k := j1) (c := d + 1) j1l
      have := hcn v
      rw [s1] at a
      omega
    have s2 : updN f k1 (f (d + 1)) k2 = h j2 := by
      have hj : ∃ j, j < d + 1 ∧ updN h j1 (h (d + 1)) j = h j2 ∧ ∀ k, k < d + 1 → updN h j1 (h (d + 1)) j ≤ updN h j1 (h (d + 1)) k := by
        have hmin : ∀ k, k < d + 1 → h j2 ≤ updN h j1 (h (d + 1)) k := by
          intro k hk
          by_cases q : k = j1
          · rw [q, updN_k]
            exact j2m (d + 1) (by omega) (by omega)
          · rw [updN_n q]
            exact j2m k (by omega) q
        by_cases q : j2 = d + 1
        · refine ⟨j1, by omega, by rw [updN_k, q], fun k hk => ?_⟩
          rw [updN_k]
          have := hmin k hk
          rw [q] at this
          exact this
        · refine ⟨j2, by omega, updN_n j2n, fun k hk => ?_⟩
          rw [updN_n j2n]
          exact hmin k hk
      obtain ⟨j, jl, je, jm⟩ := hj
      rw [← je]
      exact least_same hcn1 k2l jl k2m jm
    have b1 := (hm j1 j1l).2
    have b2 := (hm j2 j2l).2
    -- after
    let f3 := updN (updN (updN f k1 (f (d + 1))) k2 (updN f k1 (f (d + 1)) d)) d (h j1 + h j2)
    let h3 := updN (updN h j1 (h j1 + h j2)) j2 (updN h j1 (h j1 + h j2) (d + 1))
    have hcn3 : ∀ v, cn f3 v (d + 1) = cn h3 v (d + 1) := by
      intro v
      have a1 := cn_take (f := f) (v := v) (k := k1) (c := d + 1) k1l
      have a2 := cn_take (f := updN f k1 (f (d + 1))) (v := v) (k := k2) (c := d) k2l
      have a3 : cn f3 v (d + 1) = cn (updN (updN f k1 (f (d + 1))) k2 (updN f k1 (f (d + 1)) d)) v d + if h j1 + h j2 = v then 1 else 0 := by
        show cn f3 v d + (if f3 d = v then 1 else 0) = _
        rw [cn_congr (f := f3) (g := updN (updN f k1 (f (d + 1))) k2 (updN f k1 (f (d + 1)) d)) d (fun i hi => updN_n (by omega)), show f3 d = h j1 + h j2 from updN_k]
      have c1 := cn_take (f := updN h j1 (h j1 + h j2)) (v := v) (k := j2) (c := d + 1) j2l
      have c2 := cn_upd (f := h) (v := v) (k := j1) (x := h j1 + h j2) (d + 1 + 1) j1l
      rw [updN_n j2n] at c1
      rw [s1] at a1
      rw [s2] at a2
      have := hcn v
      show cn f3 v (d + 1) = cn (updN (updN h j1 (h j1 + h j2)) j2 (updN h j1 (h j1 + h j2) (d + 1))) v (d + 1)
      omega
    obtain ⟨r, tx', tm', r1, r2, r3, r4⟩ := ih gx gm f3 h3 (acc + nI (h j1 + h j2)) (up (up (up tx 216 k1 (nI (f (d + 1)))) 216 k2 (nI (updN f k1 (f (d + 1)) d))) 216 d (nI (h j1 + h j2))) (up (up tm 11 j1 (nI (h j1 + h j2))) 11 j2 (nI (updN h j1 (h j1 + h j2) (d + 1)))) (by omega) (by omega) (by omega) (fun i hi => by
        show up (up (up tx 216 k1 (nI (f (d + 1)))) 216 k2 (nI (updN f k1 (f (d + 1)) d))) 216 d (nI (h j1 + h j2)) 216 i = nI (updN (updN (updN f k1 (f (d + 1))) k2 (updN f k1 (f (d + 1)) d)) d (h j1 + h j2) i) ∧ updN (updN (updN f k1 (f (d + 1))) k2 (updN f k1 (f (d + 1)) d)) d (h j1 + h j2) i ≤ _
        by_cases q : i = d
        · subst q
          rw [up_c, updN_k]
          exact ⟨rfl, by omega⟩
        · rw [up_nj q, updN_n q]
          by_cases q2 : i = k2
          · subst q2
            rw [up_c, updN_k]
            exact ⟨rfl, by have := (hx1 d (by omega)).2; omega⟩
          · rw [up_nj q2, updN_n q2]
            exact ⟨(hx1 i hi).1, by have := (hx1 i hi).2; omega⟩) (fun i hi => by
        show up (up tm 11 j1 (nI (h j1 + h j2))) 11 j2 (nI (updN h j1 (h j1 + h j2) (d + 1))) 11 i = nI (updN (updN h j1 (h j1 + h j2)) j2 (updN h j1 (h j1 + h j2) (d + 1)) i) ∧ updN (updN h j1 (h j1 + h j2)) j2 (updN h j1 (h j1 + h j2) (d + 1)) i ≤ _
        have u : ∀ i, i < d + 1 + 1 → updN h j1 (h j1 + h j2) i ≤ 99 * 2 ^ (8 - (d + 1)) := by
          intro i hi
          by_cases q : i = j1
          · rw [q, updN_k]; omega
          · rw [updN_n q]
            have := (hm i hi).2
            omega
        by_cases q : i = j2
        · rw [q, up_c, updN_k]
          exact ⟨rfl, u _ (by omega)⟩
        · rw [up_nj q, updN_n q]
          refine ⟨?_, u i (by omega)⟩
          by_cases q2 : i = j1
          · rw [q2, up_c, updN_k]
          · rw [up_nj q2, updN_n q2]
            exact (hm i (by omega)).1) hcn3
    refine ⟨r, tx', tm', ?_, ?_, fun c j hcj => ?_, fun c j hcj => ?_⟩
    · rw [if_neg hgt, e1, cal_some, show nI (d + 1 + 1) - 1 = nI (d + 1) by rw [litS (by omega), Nat.add_sub_cancel], e2, cal_some, s1, s2, nI_add, show nI (d + 1 + 1) - 2 = nI d by rw [litS (by omega), show d + 1 + 1 - 2 = d by omega], X10_put_in (N := 8) rfl (by omega) (by decide), cal_some, pk_m1]
      exact r1
    · have d1 : up tm 11 j1 (nI (h j1 + h j2)) 11 j1 = nI (h j1 + h j2) := up_c
      have d2 : up tm 11 j1 (nI (h j1 + h j2)) 11 (d + 1) = nI (updN h j1 (h j1 + h j2) (d + 1)) := by
        by_cases q : d + 1 = j1
        · rw [q, up_c, updN_k]
        · rw [up_nj q, updN_n q]
          exact (hm (d + 1) (by omega)).1
      rw [if_neg hgt, g1, cal_some, g2, cal_some, ald_nI (by omega) (by omega), ald_nI (by omega) (by omega), (hm j1 j1l).1, (hm j2 j2l).1, nI_add, ast_nI (by omega) (by omega), ald_nI (by omega) (by omega), pk_m1, ald_nI (by omega) (by omega), ast_nI (by omega) (by omega), d1, d2]
      exact r2
    · rw [r3 c j hcj, up_nc hcj, up_nc hcj, up_nc hcj]
    · rw [r4 c j hcj, up_nc hcj, up_nc hcj]
theorem step22 (F : Nat) (hF : 5000 ≤ F) : Step22 F Rl := by
  intro n tx tm _ h
  obtain ⟨nP, nM, q, hP⟩ := h.pc
  have hd := hP.1.2.2.2.2.2.2.2.2.1
  obtain ⟨s, s1, s2, s3, s4⟩ := row_out (c := 19) (by decide) (by decide) (by decide) (by decide) hd.2.2.2.2.2.2.2.1
  have hf : ∀ i, ∃ v, i < s → tx 21 i = nI v ∧ tm 1 (546 + i) = nI v ∧ v ≤ 99 := by
    intro i
    by_cases hi : i < s
    · obtain ⟨e1, v, v1, v2, v3⟩ := s4 i hi
      exact ⟨v, fun _ => ⟨e1.trans v3, v3, v2⟩⟩
    · exact ⟨0, fun z => absurd z hi⟩
  have hff : ∃ f : Nat → Nat, ∀ i, i < s → tx 21 i = nI (f i) ∧ tm 1 (546 + i) = nI (f i) ∧ f i ≤ 99 := ⟨fun i => (hf i).choose, fun i => (hf i).choose_spec⟩
  obtain ⟨f, hff⟩ := hff
  have hX : ∀ (m i fx : Nat) (τ : Tau), i + m = s → m < fx → (∀ k, k < i → τ 216 k = nI (f k)) → (∀ c j, c ≠ 216 → τ c j = tx c j) → ∃ τ', X4_leastSigns_L4 F fx 0 (nI i) τ = X4_leastSigns_L56 F F 0 (nI s) τ' ∧ (∀ k, k < s → τ' 216 k = nI (f k)) ∧ ∀ c j, c ≠ 216 → τ' c j = tx c j := by
    intro m
    induction m with
    | zero =>
      intro i fx τ hi hfx hl hc
      obtain ⟨g, rfl, -⟩ := fuel hfx
      have : i = s := by omega
      subst this
      refine ⟨τ, ?_, hl, hc⟩
      unfold X4_leastSigns_L4
      rw [hc 20 0 (by decide), s2, if_pos (nI_le (Nat.le_refl _) (by omega))]
    | succ m ih =>
      intro i fx τ hi hfx hl hc
      obtain ⟨g, rfl, -⟩ := fuel hfx
      have h20 : τ 20 0 = nI s := (hc 20 0 (by decide)).trans s2
      obtain ⟨τ', e1, e2, e3⟩ := ih (i + 1) g (up τ 216 i (nI (f i))) (by omega) (by omega) (fun k hk => by
        by_cases q : k = i
        · subst q; rw [up_c]
        · rw [up_nj q]; exact hl k (by omega)) (fun c j hcj => (up_nc hcj).trans (hc c j hcj))
      refine ⟨τ', ?_, e2, e3⟩
      conv => lhs; unfold X4_leastSigns_L4
      rw [h20, if_neg (nI_ge (by omega) (by omega)), X5_get_in (cap := 8) rfl (by decide) h20 (by omega) s1, cal_some, show τ (20 + 1) i = nI (f i) from (hc 21 i (by decide)).trans (hff i (by omega)).1, X10_put_in (N := 8) rfl (by omega) (by decide), cal_some, litA', e1]
  have hM : ∀ (m i fx : Nat) (τ : Tau), i + m = s → m < fx → (∀ k, k < i → τ 11 k = nI (f k)) → (∀ c j, c ≠ 11 → τ c j = tm c j) → ∃ τ', X11_signs_L11 F fx (nI s) (nI i) τ = X11_signs_L40 F F (nI s) 0 τ' ∧ (∀ k, k < s → τ' 11 k = nI (f k)) ∧ ∀ c j, c ≠ 11 → τ' c j = tm c j := by
    intro m
    induction m with
    | zero =>
      intro i fx τ hi hfx hl hc
      obtain ⟨g, rfl, -⟩ := fuel hfx
      have : i = s := by omega
      subst this
      refine ⟨τ, ?_, hl, hc⟩
      unfold X11_signs_L11
      rw [if_pos (nI_le (Nat.le_refl _) (by omega))]
    | succ m ih =>
      intro i fx τ hi hfx hl hc
      obtain ⟨g, rfl, -⟩ := fuel hfx
      obtain ⟨τ', e1, e2, e3⟩ := ih (i + 1) g (up τ 11 i (nI (f i))) (by omega) (by omega) (fun k hk => by
        by_cases q : k = i
        · subst q; rw [up_c]
        · rw [up_nj q]; exact hl k (by omega)) (fun c j hcj => (up_nc hcj).trans (hc c j hcj))
      refine ⟨τ', ?_, e2, e3⟩
      conv => lhs; unfold X11_signs_L11
      rw [if_neg (nI_ge (by omega) (by omega)), litA, ald_nI (by omega) (by omega), hc 1 _ (by decide), (hff i (by omega)).2.1, ast_nI (by omega) (by omega), litA', e1]
  obtain ⟨x1, a1, a2, a3⟩ := hX s 0 F tx (by omega) (by omega) (fun k hk => absurd hk (Nat.not_lt_zero k)) (fun _ _ _ => rfl)
  obtain ⟨m1, b1, b2, b3⟩ := hM s 0 F tm (by omega) (by omega) (fun k hk => absurd hk (Nat.not_lt_zero k)) (fun _ _ _ => rfl)
  have p1 : 1 ≤ 2 ^ (8 - s) := Nat.two_pow_pos _
  obtain ⟨r, x2, m2, r1, r2, r3, r4⟩ := signs_eq (F := F) hF s F F f f 0 x1 m1 s1 (by omega) (by omega) (fun i hi => ⟨a2 i hi, by have := (hff i hi).2.2; omega⟩) (fun i hi => ⟨b2 i hi, by have := (hff i hi).2.2; omega⟩) (fun _ => rfl)
  unfold X10_signs X4_leastSigns X11_signs
  rw [show X4_leastSigns_L4 F F 0 0 tx = _ from a1, r1, cal_some, ald_lit (by decide) (by decide), s3, show X11_signs_L11 F F (nI s) 0 tm = _ from b1, r2]
  exact ⟨r, x2, m2, rfl, rfl, Rl.same h (fun c j hc => by
    have hne : c ≠ 216 := by rcases hc with hc | hc; (unfold wnX at hc; omega); (unfold coX at hc; omega)
    rw [r3 c j hne, a3 c j hne]) (fun c j hc => by
    have hne : c ≠ 11 := by rcases hc with hc | hc; omega; (unfold coM at hc; omega)
    rw [r4 c j hne, b3 c j hne])⟩
