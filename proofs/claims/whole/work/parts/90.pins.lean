/-! PURE PART. Steps: pins -/
def msk : List Nat := [2097155, 2097159, 6291487, 4398111523327, 558560494878719, 9884479725706580563027034111, 191190721016735607102967217006968995358025262959689727, 139988251614631979587267985406275632484357100546640346813930813655139042793477846100158113280042205183, 2707689121543984990501181913955411703973560785192584112945956611307815395650848996613794342178419250088163107232321342162337791]
def tbN (m k : Nat) : Bool := m / 2 ^ k % 2 == 1
def mP (t a b : Nat) : Bool := tbN (msk.getD t 0) (21 * a + b)
def canI (P : Nat → Nat → Bool) (i j a : Nat) : Nat → Nat → Bool
  | 0, _ => false
  | m + 1, b => (P a (b + i - a) && P (i - a) (j - b + a)) || canI P i j a m (b + 1)
def canO (P : Nat → Nat → Bool) (i j : Nat) : Nat → Nat → Bool
  | 0, _ => false
  | m + 1, a => canI P i j a (j + 1) 0 || canO P i j m (a + 1)
def canN (P : Nat → Nat → Bool) (i j : Nat) : Bool := canO P i j (i + 1) 0
def chkP (t i j : Nat) : Bool := Nat.blt 20 (i + j) || (canN (mP t) i j == mP (t + 1) i j)
theorem chk_fin : ∀ t, t < 8 → ∀ i, i < 21 → ∀ j, j < 21 → chkP t i j = true := by decide +kernel
def tN : Nat → Nat → Nat → Bool
  | 0, a, b => decide (a + b ≤ 1)
  | t + 1, a, b => canN (tN t) a b
theorem canI_congr {P Q : Nat → Nat → Bool} {i j a : Nat} (hij : i + j ≤ 20) (ha : a ≤ i) (h : ∀ x y, x + y ≤ 20 → P x y = Q x y) : ∀ m b, b + m ≤ j + 1 → canI P i j a m b = canI Q i j a m b := by
  intro m
  induction m with
  | zero => intro b _; rfl
  | succ m ih =>
    intro b hb
    show ((P a (b + i - a) && P (i - a) (j - b + a)) || canI P i j a m (b + 1)) = ((Q a (b + i - a) && Q (i - a) (j - b + a)) || canI Q i j a m (b + 1))
    rw [h a (b + i - a) (by omega), h (i - a) (j - b + a) (by omega), ih (b + 1) (by omega)]
theorem canO_congr {P Q : Nat → Nat → Bool} {i j : Nat} (hij : i + j ≤ 20) (h : ∀ x y, x + y ≤ 20 → P x y = Q x y) : ∀ m a, a + m ≤ i + 1 → canO P i j m a = canO Q i j m a := by
  intro m
  induction m with
  | zero => intro a _; rfl
  | succ m ih =>
    intro a ha
    show (canI P i j a (j + 1) 0 || canO P i j m (a + 1)) = (canI Q i j a (j + 1) 0 || canO Q i j m (a + 1))
    rw [canI_congr hij (by omega) h (j + 1) 0 (by omega), ih (a + 1) (by omega)]
theorem t0_fin : ∀ a, a < 21 → ∀ b, b < 21 → (a + b ≤ 20 → decide (a + b ≤ 1) = mP 0 a b) := by decide +kernel
theorem tN_mP : ∀ t, t ≤ 8 → ∀ a b, a + b ≤ 20 → tN t a b = mP t a b := by
  intro t
  induction t with
  | zero => intro _ a b hab; exact t0_fin a (by omega) b (by omega) hab
  | succ t ih =>
    intro ht a b hab
    have c := chk_fin t (by omega) a (by omega) b (by omega)
    unfold chkP at c
    rw [show Nat.blt 20 (a + b) = false from by
      cases hh : Nat.blt 20 (a + b)
      · rfl
      · have : Nat.ble (20 + 1) (a + b) = true := hh
        have := Nat.le_of_ble_eq_true this
        omega, Bool.false_or] at c
    rw [← eq_of_beq c]
    exact canO_congr hab (fun x y hxy => ih (by omega) x y hxy) (a + 1) 0 (by omega)
def pvN (n k : Nat) : Nat := if k = 1 then ([0, 0, 3, 5, 5, 6, 6, 6, 6, 7, 7, 7, 7, 7, 7, 7, 7, 8, 8, 8, 8] : List Nat).getD n 0 else ([0, 0, 1, 2, 2, 3, 3, 3, 3, 4, 4, 4, 4, 4, 4, 4, 4, 5, 5, 5, 5] : List Nat).getD n 0
def mQ (t n k : Nat) : Bool := if k = 1 then mP t n 0 else mP t 0 n
theorem pv_fin : ∀ n, n < 21 → ∀ k, k < 2 → (n = 0 ∨ (pvN n k ≤ 8 ∧ mQ (pvN n k) n k = true ∧ ∀ t, t < pvN n k → mQ t n k = false)) := by decide +kernel
def xvN (n k t : Nat) : Int32 := if k = 0 then nI n else nI n * (nI t + 1) + (if rmd (nI n) 2 = 0 then 0 else nI t - 1)
theorem xv_fin : ∀ n, n < 21 → ∀ k, k < 2 → ∀ t, t < 9 → (n = 0 ∨ ((t < pvN n k → shl 1 (nI t) < xvN n k t) ∧ (t = pvN n k → ¬ shl 1 (nI t) < xvN n k t))) := by decide +kernel
theorem pins_X {F n k : Nat} {tx : Tau} (hF : 5000 ≤ F) (n1 : 1 ≤ n) (n20 : n ≤ 20) (hk : k < 2) : X4_fewestPricks F (nI n) (nI k) tx = some (nI (pvN n k), tx) := by
  have hp := ((pv_fin n (by omega) k hk).resolve_left (by omega)).1
  have key : ∀ (m t f : Nat), t + m = pvN n k → m < f → X4_fewestPricks_L2 F f (nI n) (nI k) (nI t) tx = some (nI (pvN n k), tx) := by
    intro m
    induction m with
    | zero =>
      intro t f ht hf
      obtain ⟨g, rfl, -⟩ := fuel hf
      have ht' : t = pvN n k := by omega
      have hx := ((xv_fin n (by omega) k hk t (by omega)).resolve_left (by omega)).2 ht'
      unfold xvN at hx
      conv => lhs; unfold X4_fewestPricks_L2
      unfold X4_fewestPricks_j34 X4_fewestPricks_j35
      rw [if_neg (by rw [lit_le' (by decide) (by omega)]; omega)]
      by_cases k0 : k = 0
      · rw [if_pos k0] at hx
        rw [if_pos (by rw [k0]; rfl), if_neg hx, ht']
      · rw [if_neg k0] at hx
        rw [if_neg (show ¬ nI k = 0 by rw [lit_eq (by decide) (by omega)]; exact k0)]
        by_cases e : rmd (nI n) 2 = 0
        · rw [if_pos e] at hx
          rw [if_pos e, if_neg hx, ht']
        · rw [if_neg e] at hx
          rw [if_neg e, if_neg hx, ht']
    | succ m ih =>
      intro t f ht hf
      obtain ⟨g, rfl, -⟩ := fuel hf
      have hx := ((xv_fin n (by omega) k hk t (by omega)).resolve_left (by omega)).1 (by omega)
      unfold xvN at hx
      have go := ih (t + 1) g (by omega) (by omega)
      conv => lhs; unfold X4_fewestPricks_L2
      unfold X4_fewestPricks_j34 X4_fewestPricks_j35
      have kt : nI t + 1 = nI (t + 1) := litA'
      rw [if_neg (by rw [lit_le' (by decide) (by omega)]; omega)]
      by_cases k0 : k = 0
      · rw [if_pos k0] at hx
        rw [if_pos (by rw [k0]; rfl), if_pos hx, kt, go]
      · rw [if_neg k0] at hx
        rw [if_neg (show ¬ nI k = 0 by rw [lit_eq (by decide) (by omega)]; exact k0)]
        by_cases e : rmd (nI n) 2 = 0
        · rw [if_pos e] at hx
          rw [if_pos e, if_pos hx, kt, go]
        · rw [if_neg e] at hx
          rw [if_neg e, if_pos hx, kt, go]
  exact key (pvN n k) 0 F (by omega) (by omega)
/-- what the model's table holds -/
def Fnd (P : Nat → Nat → Bool) (n : Nat) (τ : Tau) : Prop := ∀ a b, a + b ≤ n → τ 12 (21 * a + b) = bI (P a b = true)
theorem part_M {F n i j : Nat} {P : Nat → Nat → Bool} {τ : Tau} (hF : 5000 ≤ F) (n20 : n ≤ 20) (hij : i + j ≤ n) (h : Fnd P n τ) : X11_canPart F (nI i) (nI j) τ = some (bI (canN P i j = true), τ) := by
  have inner : ∀ (a : Nat) (self : Int32 → Int32 → Int32 → Tau → Option (Int32 × Tau)), a ≤ i → ∀ (m b f : Nat), b + m = j + 1 → m < f → X11_canPart_L10 F self f (nI i) (nI j) (nI a) (nI b) τ = (if canI P i j a m b = true then some (1, τ) else self (nI i) (nI j) (nI (a + 1)) τ) := by
    intro a self ha m
    induction m with
    | zero =>
      intro b f hb hf
      obtain ⟨g, rfl, -⟩ := fuel hf
      unfold X11_canPart_L10
      rw [if_pos (nI_lt (by omega) (by omega)), litA', if_neg (by unfold canI; decide)]
    | succ m ih =>
      intro b f hb hf
      obtain ⟨g, rfl, -⟩ := fuel hf
      have i1 : 21 * nI a + nI b + nI i - nI a = nI (21 * a + (b + i - a)) := by rw [litM, nI_add, nI_add, nI_sub (by omega), show 21 * a + b + i - a = 21 * a + (b + i - a) by omega]
      have i2 : 21 * (nI i - nI a) + nI j - nI b + nI a = nI (21 * (i - a) + (j - b + a)) := by rw [nI_sub ha, litM, nI_add, nI_sub (by omega), nI_add, show 21 * (i - a) + j - b + a = 21 * (i - a) + (j - b + a) by omega]
      have kb : nI b + 1 = nI (b + 1) := litA'
      conv => lhs; unfold X11_canPart_L10
      unfold X11_canPart_j58
      rw [if_neg (show ¬ nI j < nI b by rw [nI_ltI (by omega) (by omega)]; omega), i1, i2, ald_nI (by omega) (by omega), ald_nI (by omega) (by omega), h a (b + i - a) (by omega), h (i - a) (j - b + a) (by omega), kb, ih (b + 1) g (by omega) (by omega), ite_bI, ite_bI]
      rw [show canI P i j a (m + 1) b = ((P a (b + i - a) && P (i - a) (j - b + a)) || canI P i j a m (b + 1)) from rfl]
      cases P a (b + i - a) with
      | false => rw [if_neg (by decide), Bool.false_and, Bool.false_or]
      | true =>
        rw [if_pos rfl, Bool.true_and]
        cases P (i - a) (j - b + a) with
        | false => rw [if_neg (by decide), Bool.false_or]
        | true => rw [if_pos rfl, Bool.true_or, if_pos rfl]
  have outer : ∀ (m a f : Nat), a + m = i + 1 → m < f → X11_canPart_L2 F f (nI i) (nI j) (nI a) τ = some (bI (canO P i j m a = true), τ) := by
    intro m
    induction m with
    | zero =>
      intro a f ha hf
      obtain ⟨g, rfl, -⟩ := fuel hf
      unfold X11_canPart_L2
      rw [if_pos (nI_lt (by omega) (by omega))]
      rfl
    | succ m ih =>
      intro a f ha hf
      obtain ⟨g, rfl, -⟩ := fuel hf
      conv => lhs; unfold X11_canPart_L2
      rw [if_neg (show ¬ nI i < nI a by rw [nI_ltI (by omega) (by omega)]; omega)]
      rw [show X11_canPart_L10 F (X11_canPart_L2 F g) F (nI i) (nI j) (nI a) 0 τ = _ from inner a (X11_canPart_L2 F g) (by omega) (j + 1) 0 F (by omega) (by omega), ih (a + 1) g (by omega) (by omega)]
      rw [show canO P i j (m + 1) a = (canI P i j a (j + 1) 0 || canO P i j m (a + 1)) from rfl]
      cases canI P i j a (j + 1) 0 with
      | true => rw [if_pos rfl, Bool.true_or, bI_t rfl]
      | false => rw [if_neg (by decide), Bool.false_or]
  exact outer (i + 1) 0 F (by omega) (by omega)
theorem more_M {F n : Nat} {P : Nat → Nat → Bool} {tm : Tau} (hF : 5000 ≤ F) (n20 : n ≤ 20) (h : Fnd P n tm) : ∃ tm', X11_onePrickMore F (nI n) tm = some (0, tm') ∧ Fnd (canN P) n tm' ∧ ∀ c j, c ≠ 12 → c ≠ 13 → tm' c j = tm c j := by
  have copy : ∀ (m c f : Nat) (τ : Tau), c + m = 441 → m < f → (∀ a b, a + b ≤ n → τ 13 (21 * a + b) = bI (canN P a b = true)) → (∀ a b, a + b ≤ n → 21 * a + b < c → τ 12 (21 * a + b) = bI (canN P a b = true)) → (∀ d k, d ≠ 12 → d ≠ 13 → τ d k = tm d k) → ∃ τ', X11_onePrickMore_L47 F f (nI c) τ = some (0, τ') ∧ Fnd (canN P) n τ' ∧ ∀ d k, d ≠ 12 → d ≠ 13 → τ' d k = tm d k := by
    intro m
    induction m with
    | zero =>
      intro c f τ hc hf h13 h12 hd
      obtain ⟨g, rfl, -⟩ := fuel hf
      have : c = 441 := by omega
      subst this
      refine ⟨τ, ?_, fun a b hab => h12 a b hab (by omega), hd⟩
      unfold X11_onePrickMore_L47
      rw [if_pos (by decide)]
    | succ m ih =>
      intro c f τ hc hf h13 h12 hd
      obtain ⟨g, rfl, -⟩ := fuel hf
      obtain ⟨τ', e1, e2, e3⟩ := ih (c + 1) g (up τ 12 c (vp_nar .boolean (τ 13 c))) (by omega) (by omega) (fun a b hab => (up_nc (by decide)).trans (h13 a b hab)) (fun a b hab hlt => by
        by_cases e : 21 * a + b = c
        · rw [e, up_c, ← e, h13 a b hab, narB]
        · rw [up_nj e]; exact h12 a b hab (by omega)) (fun d k h1 h2 => (up_nc h1).trans (hd d k h1 h2))
      refine ⟨τ', ?_, e2, e3⟩
      conv => lhs; unfold X11_onePrickMore_L47
      rw [if_neg (by rw [lit_le' (by decide) (by omega)]; omega), ald_nI (by omega) (by omega), ast_nI (by omega) (by omega), litA', e1]
  have row : ∀ (i : Nat) (self : Int32 → Int32 → Tau → Option (Int32 × Tau)), i ≤ n → ∀ (m j f : Nat) (τ : Tau), i + j + m = n + 1 → m < f → Fnd P n τ → (∀ a b, a + b ≤ n → (a < i ∨ (a = i ∧ b < j)) → τ 13 (21 * a + b) = bI (canN P a b = true)) → (∀ d k, d ≠ 12 → d ≠ 13 → τ d k = tm d k) → ∃ τ', X11_onePrickMore_L9 F self f (nI n) (nI i) (nI j) τ = self (nI n) (nI (i + 1)) τ' ∧ Fnd P n τ' ∧ (∀ a b, a + b ≤ n → a < i + 1 → τ' 13 (21 * a + b) = bI (canN P a b = true)) ∧ ∀ d k, d ≠ 12 → d ≠ 13 → τ' d k = tm d k := by
    intro i self hi m
    induction m with
    | zero =>
      intro j f τ hj hf hP h13 hd
      obtain ⟨g, rfl, -⟩ := fuel hf
      refine ⟨τ, ?_, hP, fun a b hab ha => h13 a b hab (by omega), hd⟩
      unfold X11_onePrickMore_L9
      rw [nI_add, if_pos (nI_lt (by omega) (by omega)), litA']
    | succ m ih =>
      intro j f τ hj hf hP h13 hd
      obtain ⟨g, rfl, -⟩ := fuel hf
      obtain ⟨τ', e1, e2, e3, e4⟩ := ih (j + 1) g (up τ 13 (21 * i + j) (bI (canN P i j = true))) (by omega) (by omega) (fun a b hab => (up_nc (by decide)).trans (hP a b hab)) (fun a b hab hlt => by
        by_cases e : a = i ∧ b = j
        · rw [e.1, e.2, up_c]
        · rw [up_nj (by omega)]; exact h13 a b hab (by omega)) (fun d k h1 h2 => (up_nc h2).trans (hd d k h1 h2))
      refine ⟨τ', ?_, e2, e3, e4⟩
      conv => lhs; unfold X11_onePrickMore_L9
      rw [nI_add, if_neg (show ¬ nI n < nI (i + j) by rw [nI_ltI (by omega) (by omega)]; omega), part_M hF n20 (by omega) hP, cal_some, litM, nI_add, narB, ast_nI (by omega) (by omega), litA', e1]
  have rows : ∀ (m i f : Nat) (τ : Tau), i + m = n + 1 → m < f → Fnd P n τ → (∀ a b, a + b ≤ n → a < i → τ 13 (21 * a + b) = bI (canN P a b = true)) → (∀ d k, d ≠ 12 → d ≠ 13 → τ d k = tm d k) → ∃ τ', X11_onePrickMore_L2 F f (nI n) (nI i) τ = some (0, τ') ∧ Fnd (canN P) n τ' ∧ ∀ d k, d ≠ 12 → d ≠ 13 → τ' d k = tm d k := by
    intro m
    induction m with
    | zero =>
      intro i f τ hi hf hP h13 hd
      obtain ⟨g, rfl, -⟩ := fuel hf
      unfold X11_onePrickMore_L2
      rw [if_pos (nI_lt (by omega) (by omega))]
      exact copy 441 0 F τ (by omega) (by omega) (fun a b hab => h13 a b hab (by omega)) (fun a b _ hlt => absurd hlt (Nat.not_lt_zero _)) hd
    | succ m ih =>
      intro i f τ hi hf hP h13 hd
      obtain ⟨g, rfl, -⟩ := fuel hf
      obtain ⟨τ1, e1, e2, e3, e4⟩ := row i (X11_onePrickMore_L2 F g) (by omega) (n + 1 - i) 0 F τ (by omega) (by omega) hP (fun a b hab hlt => h13 a b hab (by omega)) hd
      obtain ⟨τ2, f1, f2, f3⟩ := ih (i + 1) g τ1 (by omega) (by omega) e2 e3 e4
      refine ⟨τ2, ?_, f2, f3⟩
      conv => lhs; unfold X11_onePrickMore_L2
      rw [if_neg (show ¬ nI n < nI i by rw [nI_ltI (by omega) (by omega)]; omega)]
      exact e1.trans f1
  exact rows (n + 1) 0 F tm (by omega) (by omega) h (fun a b _ hlt => absurd hlt (Nat.not_lt_zero a)) (fun _ _ _ _ => rfl)
theorem pins_M {F n k : Nat} {tm : Tau} (hF : 5000 ≤ F) (n1 : 1 ≤ n) (n20 : n ≤ 20) (hk : k < 2) : ∃ tm', X11_pins_L23 F F (nI n) (nI k) 0 tm = some (nI (pvN n k), tm') ∧ ∀ c j, c ≠ 12 → c ≠ 13 → tm' c j = tm c j := by
  obtain ⟨p1, p2, p3⟩ := (pv_fin n (by omega) k hk).resolve_left (by omega)
  have loop : ∀ (m t f : Nat) (τ : Tau), t + m = pvN n k → m < f → Fnd (tN t) n τ → (∀ d j, d ≠ 12 → d ≠ 13 → τ d j = tm d j) → ∃ τ', X11_pins_L69 F f (nI n) (nI k) (nI t) τ = some (nI (pvN n k), τ') ∧ ∀ d j, d ≠ 12 → d ≠ 13 → τ' d j = tm d j := by
    intro m
    induction m with
    | zero =>
      intro t f τ ht hf hP hd
      obtain ⟨g, rfl, -⟩ := fuel hf
      have ht' : t = pvN n k := by omega
      rw [← ht'] at p2
      refine ⟨τ, ?_, hd⟩
      unfold X11_pins_L69 X11_pins_j86
      unfold mQ at p2
      by_cases e : k = 1
      · rw [if_pos e, ← tN_mP t (by omega) n 0 (by omega)] at p2
        rw [if_pos (by rw [e]; rfl), litM, ald_nI (by omega) (by omega), show τ 12 (21 * n) = _ from hP n 0 (by omega), p2, bI_t rfl, if_neg n10, ht']
      · rw [if_neg e, ← tN_mP t (by omega) 0 n (by omega)] at p2
        have h0 := hP 0 n (by omega)
        rw [Nat.mul_zero, Nat.zero_add] at h0
        rw [if_neg (show ¬ nI k = 1 by rw [lit_eq (by decide) (by omega)]; exact e), ald_nI (by omega) (by omega), h0, p2, bI_t rfl, if_neg n10, ht']
    | succ m ih =>
      intro t f τ ht hf hP hd
      obtain ⟨g, rfl, -⟩ := fuel hf
      have q := p3 t (by omega)
      obtain ⟨τ1, e1, e2, e3⟩ := more_M hF n20 hP
      obtain ⟨τ2, f1, f2⟩ := ih (t + 1) g τ1 (by omega) (by omega) e2 (fun d j h1 h2 => (e3 d j h1 h2).trans (hd d j h1 h2))
      refine ⟨τ2, ?_, f2⟩
      conv => lhs; unfold X11_pins_L69
      unfold X11_pins_j86
      unfold mQ at q
      by_cases e : k = 1
      · rw [if_pos e, ← tN_mP t (by omega) n 0 (by omega)] at q
        rw [if_pos (by rw [e]; rfl), litM, ald_nI (by omega) (by omega), show τ 12 (21 * n) = _ from hP n 0 (by omega), q, bI_f (by decide), if_pos rfl, e1, cal_some, litA', f1]
      · rw [if_neg e, ← tN_mP t (by omega) 0 n (by omega)] at q
        have h0 := hP 0 n (by omega)
        rw [Nat.mul_zero, Nat.zero_add] at h0
        rw [if_neg (show ¬ nI k = 1 by rw [lit_eq (by decide) (by omega)]; exact e), ald_nI (by omega) (by omega), h0, q, bI_f (by decide), if_pos rfl, e1, cal_some, litA', f1]
  have init : ∀ (m c f : Nat) (τ : Tau), c + m = 441 → m < f → (∀ a b, a + b ≤ n → 21 * a + b < c → τ 12 (21 * a + b) = bI (tN 0 a b = true)) → (∀ d j, d ≠ 12 → d ≠ 13 → τ d j = tm d j) → ∃ τ', X11_pins_L23 F f (nI n) (nI k) (nI c) τ = some (nI (pvN n k), τ') ∧ ∀ d j, d ≠ 12 → d ≠ 13 → τ' d j = tm d j := by
    intro m
    induction m with
    | zero =>
      intro c f τ hc hf h12 hd
      obtain ⟨g, rfl, -⟩ := fuel hf
      have : c = 441 := by omega
      subst this
      unfold X11_pins_L23
      rw [if_pos (by decide)]
      exact loop (pvN n k) 0 F τ (by omega) (by omega) (fun a b hab => h12 a b hab (by omega)) hd
    | succ m ih =>
      intro c f τ hc hf h12 hd
      obtain ⟨g, rfl, -⟩ := fuel hf
      obtain ⟨τ', e1, e2⟩ := ih (c + 1) g (up (up τ 12 c (bI (c / 21 + c % 21 ≤ 1))) 13 c 0) (by omega) (by omega) (fun a b hab hlt => by
        rw [up_nc (by decide)]
        by_cases e : 21 * a + b = c
        · rw [e, up_c, show c / 21 = a by omega, show c % 21 = b by omega]
          by_cases q : a + b ≤ 1
          · rw [bI_t q, bI_t (show tN 0 a b = true from decide_eq_true q)]
          · rw [bI_f q, bI_f (show ¬ tN 0 a b = true from fun z => q (of_decide_eq_true z))]
        · rw [up_nj e]; exact h12 a b hab (by omega)) (fun d j h1 h2 => by rw [up_nc h2, up_nc h1]; exact hd d j h1 h2)
      refine ⟨τ', ?_, e2⟩
      conv => lhs; unfold X11_pins_L23
      unfold X11_pins_j53
      rw [if_neg (by rw [lit_le' (by decide) (by omega)]; omega), show (21 : Int32) = nI 21 from rfl, nI_div (by omega) (by decide) (by decide), nI_rmd (by omega) (by decide) (by decide), nI_add, nar0, nar1, ast_nI (by omega) (by omega), ast_nI (by omega) (by omega), ast_nI (by omega) (by omega), ast_nI (by omega) (by omega), litA', ← e1]
      by_cases q : c / 21 + c % 21 ≤ 1
      · rw [if_neg (by rw [lit_lt' (by decide) (by omega)]; omega), bI_t q]
      · rw [if_pos ((lit_lt' (by decide) (by omega)).mpr (by omega)), bI_f q]
  exact init 441 0 F tm (by omega) (by omega) (fun a b _ hlt => absurd hlt (Nat.not_lt_zero _)) (fun _ _ _ _ => rfl)
theorem step23 (F : Nat) (hF : 5000 ≤ F) : Step23 F Rl := by
  intro n tx tm a1 a2 _ h
  have no : ∀ (x m : Option (Int32 × Tau)), x = some (-1, tx) → m = some (-1, tm) → ∃ r tx' tm', x = some (r, tx') ∧ m = some (r, tm') ∧ Rl (n + 1) tx' tm' := fun x m e1 e2 => ⟨-1, tx, tm, e1, e2, Rl_mono n tx tm h⟩
  unfold X10_pins X11_pins
  rw [X10_within_eq, cal_some, X11_isIn_eq, cal_some]
  by_cases p1 : (1 : Int32) ≤ a1 ∧ a1 ≤ 20
  · obtain ⟨N, N1, N2, rfl⟩ := in_ex (lo := 1) (hi := 20) p1 (by decide) (by decide)
    rw [bI_t p1, if_neg n10, if_neg n10, X10_within_eq, cal_some, X11_isIn_eq, cal_some]
    by_cases p2 : (0 : Int32) ≤ a2 ∧ a2 ≤ 1
    · obtain ⟨k, -, k2, rfl⟩ := in_ex (lo := 0) (hi := 1) p2 (by decide) (by decide)
      obtain ⟨m1, e1, e2⟩ := pins_M (F := F) (tm := tm) hF N1 N2 (show k < 2 by omega)
      rw [bI_t p2, if_neg n10, if_neg n10, pins_X hF N1 N2 (by omega), cal_some, e1]
      exact ⟨_, tx, m1, rfl, rfl, Rl.same h (fun _ _ _ => rfl) (fun c j hc => e2 c j (by rcases hc with hc | hc; omega; (unfold coM at hc; omega)) (by rcases hc with hc | hc; omega; (unfold coM at hc; omega)))⟩
    · rw [bI_f p2, if_pos rfl, if_pos rfl]
      exact no _ _ rfl rfl
  · rw [bI_f p1, if_pos rfl, if_pos rfl]
    exact no _ _ rfl rfl
