/-! PURE PART. What is gathered for THE LAW, and what it tells of someone -/
def vo (o : Option Nat) : Int32 := match o with
  | none => -1
  | some p => nI p
def facV (w : Nat → Int32) (m : Nat) (p th : Option Nat) : Nat → Int32 := fun k =>
  if k = 0 then w (45 + m) else if k = 1 then w (59 + m) else if k = 2 then w (73 + m) else if k = 3 then (match p with | some p => w (5 + p) | none => 0) else if k = 4 then (match th with | some h => nI h | none => 0)
  else if k = 5 then (match th with | some h => (match p with | some p => w (261 + 12 * p + h) | none => 0) | none => 0) else if k = 6 then (match p with | some p => w (15 + p) | none => 0) else if k = 7 then w (129 + m) else if k = 8 then w 0 else w 2
def gF (c b : Nat) (τ : Tau) (v : Nat → Int32) : Tau := up (up (up (up (up (up (up (up (up (up τ c b (v 0)) c (b + 1) (v 1)) c (b + 2) (v 2)) c (b + 3) (v 3)) c (b + 4) (v 4)) c (b + 5) (v 5)) c (b + 6) (v 6)) c (b + 7) (v 7)) c (b + 8) (v 8)) c (b + 9) (v 9)
theorem gF_ne {c b a j : Nat} {τ : Tau} {v : Nat → Int32} (h : a ≠ c) : gF c b τ v a j = τ a j := by simp [gF, up, h]
theorem gF_at {c b k : Nat} {τ : Tau} {v : Nat → Int32} (h : k < 10) : gF c b τ v c (b + k) = v k := by
  have hk : k = 0 ∨ k = 1 ∨ k = 2 ∨ k = 3 ∨ k = 4 ∨ k = 5 ∨ k = 6 ∨ k = 7 ∨ k = 8 ∨ k = 9 := by omega
  rcases hk with rfl | rfl | rfl | rfl | rfl | rfl | rfl | rfl | rfl | rfl <;> simp [gF, up]
theorem lnT {t : Nat} (ht : t = 2 ∨ t = 103) : lnX (t + 1) = 10 ∧ lnX (t + 2) = 10 ∧ lnX (t + 3) = 10 ∧ lnX (t + 4) = 10 ∧ lnX (t + 5) = 14 ∧ lnX (t + 6) = 14 ∧ lnX (t + 7) = 14 ∧ lnX (t + 8) = 14 ∧ lnX (t + 9) = 14 ∧ lnX (t + 10) = 14 ∧ lnX (t + 11) = 14 ∧ lnX (t + 12) = 112 := by
  rcases ht with rfl | rfl <;> decide +kernel
theorem af (c n j : Nat) {τ : Tau} {v : Int32} {k : Tau → Option (Int32 × Tau)} (i : Int32) (e : i = nI j) (h : j < n) (hj : j < 2 ^ 31) : ast τ c n i v k = k (up τ c j v) := by rw [e, ast_nI h hj]
theorem X9_saysTo_in {F p h : Nat} {τ : Tau} (hp : p < 10) (hh : h < 12) : X9_saysTo F 1 (nI p) (nI h) τ = some (τ 48 (12 * p + h), τ) := by
  unfold X9_saysTo
  rw [litM, nI_add, X10_entry_in (N := 120) rfl (by omega) (by decide), cal_some]
theorem nI_imax0 {a : Nat} (h : a < 2 ^ 31) : imax 0 (nI a) = nI a := by
  show imax (nI 0) _ = _
  rw [nI_imax (by decide) h, Nat.max_eq_right (Nat.zero_le _)]
theorem X_gather {t T nP nM : Nat} {rl bk : Bool} {q : Nat → Nat} {tx0 tm0 tx tm : Tau} {F m : Nat} (h : St t rl bk T nP nM q tx0 tm0 tx tm) (hm : m < nM) {p th : Option Nat} (hp : tx (t + 8) m = vo p) (hpb : ∀ a, p = some a → a < nP) (hth : ∀ a, th = some a → a < 12) (hpt : th ≠ none → p ≠ none) :
    X0_gather F t (nI m) (vo th) tx = some (0, gF 212 0 tx (facV (tm 1) m p th)) := by
  obtain ⟨hP, hM⟩ := h.lt
  have ht := h.2.2.2.2.1.1
  obtain ⟨n1, n2, n3, n4, n5, n6, n7, n8, n9, n10, n11, n12⟩ := lnT ht
  have u : ∀ (σ : Tau) (j : Nat) (v : Int32) (o k : Nat), o ≤ 12 → up σ 212 j v (t + o) k = σ (t + o) k := fun σ j v o k ho => up_nc (by omega)
  have u0 : ∀ (σ : Tau) (j : Nat) (v : Int32) (k : Nat), up σ 212 j v t k = σ t k := fun σ j v k => up_nc (by omega)
  have us : ∀ (σ : Tau) (j : Nat) (v : Int32) (k : Nat), up σ 212 j v 48 k = σ 48 k := fun σ j v k => up_nc (by decide)
  have e5 : ∀ σ, X10_entry F (t + 5) (nI m) σ = some (σ (t + 5) m, σ) := fun σ => X10_entry_in n5 (by omega) (by decide)
  have e6 : ∀ σ, X10_entry F (t + 6) (nI m) σ = some (σ (t + 6) m, σ) := fun σ => X10_entry_in n6 (by omega) (by decide)
  have e7 : ∀ σ, X10_entry F (t + 7) (nI m) σ = some (σ (t + 7) m, σ) := fun σ => X10_entry_in n7 (by omega) (by decide)
  have e8 : ∀ σ, X10_entry F (t + 8) (nI m) σ = some (σ (t + 8) m, σ) := fun σ => X10_entry_in n8 (by omega) (by decide)
  have e11 : ∀ σ, X10_entry F (t + 11) (nI m) σ = some (σ (t + 11) m, σ) := fun σ => X10_entry_in n11 (by omega) (by decide)
  have r5 := h.R.skill (show m < 14 by omega)
  have r6 := h.R.grief (show m < 14 by omega)
  have r7 := h.R.fals (show m < 14 by omega)
  have r11 := h.R.shown (show m < 14 by omega)
  have rp := h.R.ports
  have rd := h.R.day
  have a0 : ∀ (σ : Tau) (v : Int32) (k : Tau → Option (Int32 × Tau)), ast σ 212 10 0 v k = k (up σ 212 0 v) := fun σ v k => af 212 10 0 0 rfl (by decide) (by decide)
  have a1 : ∀ (σ : Tau) (v : Int32) (k : Tau → Option (Int32 × Tau)), ast σ 212 10 1 v k = k (up σ 212 1 v) := fun σ v k => af 212 10 1 1 rfl (by decide) (by decide)
  have a2 : ∀ (σ : Tau) (v : Int32) (k : Tau → Option (Int32 × Tau)), ast σ 212 10 2 v k = k (up σ 212 2 v) := fun σ v k => af 212 10 2 2 rfl (by decide) (by decide)
  have a3 : ∀ (σ : Tau) (v : Int32) (k : Tau → Option (Int32 × Tau)), ast σ 212 10 3 v k = k (up σ 212 3 v) := fun σ v k => af 212 10 3 3 rfl (by decide) (by decide)
  have a4 : ∀ (σ : Tau) (v : Int32) (k : Tau → Option (Int32 × Tau)), ast σ 212 10 4 v k = k (up σ 212 4 v) := fun σ v k => af 212 10 4 4 rfl (by decide) (by decide)
  have a5 : ∀ (σ : Tau) (v : Int32) (k : Tau → Option (Int32 × Tau)), ast σ 212 10 5 v k = k (up σ 212 5 v) := fun σ v k => af 212 10 5 5 rfl (by decide) (by decide)
  have a6 : ∀ (σ : Tau) (v : Int32) (k : Tau → Option (Int32 × Tau)), ast σ 212 10 6 v k = k (up σ 212 6 v) := fun σ v k => af 212 10 6 6 rfl (by decide) (by decide)
  have a7 : ∀ (σ : Tau) (v : Int32) (k : Tau → Option (Int32 × Tau)), ast σ 212 10 7 v k = k (up σ 212 7 v) := fun σ v k => af 212 10 7 7 rfl (by decide) (by decide)
  have a8 : ∀ (σ : Tau) (v : Int32) (k : Tau → Option (Int32 × Tau)), ast σ 212 10 8 v k = k (up σ 212 8 v) := fun σ v k => af 212 10 8 8 rfl (by decide) (by decide)
  have a9 : ∀ (σ : Tau) (v : Int32) (k : Tau → Option (Int32 × Tau)), ast σ 212 10 9 v k = k (up σ 212 9 v) := fun σ v k => af 212 10 9 9 rfl (by decide) (by decide)
  unfold X0_gather X0_gather_j83 X0_gather_j123 X0_gather_j124 X0_gather_j149
  cases p with
  | none =>
    have hthn : th = none := by
      cases th with
      | none => rfl
      | some a => exact absurd rfl (hpt (by simp))
    subst hthn
    have hh : X8_hasPower F t (-1) tx = some (0, tx) := by unfold X8_hasPower; exact if_pos (by decide)
    have hi : imax (0 : Int32) (-1) = 0 := by decide
    simp only [vo] at hp ⊢
    simp only [e8, cal_some, hp, hh, e5, a0, e6, a1, e7, a2, a3, a4, a5, a6, e11, a7, a8, a9, if_true, hi, u _ _ _ 6 _ (by decide), u _ _ _ 7 _ (by decide), u _ _ _ 11 _ (by decide), u0]
    simp only [gF, facV, r5, r6, r7, r11, rp, rd]
    rfl
  | some p =>
    have hpn := hpb p rfl
    have hh : X8_hasPower F t (nI p) tx = some (1, tx) := X8_hasPower_in h.xP hpn hP
    have et : ∀ σ, X10_entry F (t + 1) (nI p) σ = some (σ (t + 1) p, σ) := fun σ => X10_entry_in n1 (by omega) (by decide)
    have es : ∀ σ, X10_entry F (t + 2) (nI p) σ = some (σ (t + 2) p, σ) := fun σ => X10_entry_in n2 (by omega) (by decide)
    have rt := h.R.trust (show p < 10 by omega)
    have rs := h.R.step (show p < 10 by omega)
    have h10 : ¬ ((1 : Int32) = 0) := by decide
    cases th with
    | none =>
      have hi : imax (0 : Int32) (-1) = 0 := by decide
      simp only [vo] at hp ⊢
      simp only [e8, cal_some, hp, hh, e5, a0, e6, a1, e7, a2, a3, a4, a5, a6, e11, a7, a8, a9, if_true, hi, u _ _ _ 6 _ (by decide), u _ _ _ 7 _ (by decide), u _ _ _ 11 _ (by decide), u _ _ _ 1 _ (by decide), u _ _ _ 2 _ (by decide), u0, h10, if_false, et, es]
      simp only [gF, facV, r5, r6, r7, r11, rp, rd, rt, rs]
      rfl
    | some a =>
      have ha := hth a rfl
      have hi : imax (0 : Int32) (nI a) = nI a := nI_imax0 (by omega)
      have hne : ¬ (nI a = -1) := fun z => (nI_m1 (by omega)).mp z
      have esa : ∀ σ, X9_saysTo F 1 (nI p) (nI a) σ = some (σ 48 (12 * p + a), σ) := fun σ => X9_saysTo_in (by omega) ha
      have rsa : tm 1 (261 + 12 * p + a) = tx 48 (12 * p + a) := by
        have := h.W.2.1 (12 * p + a) (by omega)
        rw [rsM_at (by omega), vM_at (by omega), rsX_at (by omega), vX_at (by omega) (by show _ < 120; omega)] at this
        rw [Nat.add_assoc]
        exact this
      simp only [vo] at hp ⊢
      simp only [e8, cal_some, hp, hh, e5, a0, e6, a1, e7, a2, a3, a4, a5, a6, e11, a7, a8, a9, if_true, hi, u _ _ _ 6 _ (by decide), u _ _ _ 7 _ (by decide), u _ _ _ 11 _ (by decide), u _ _ _ 1 _ (by decide), u _ _ _ 2 _ (by decide), u0, h10, if_false, et, es, hne, esa, us]
      simp only [gF, facV, r5, r6, r7, r11, rp, rd, rt, rs, rsa]
      rfl
theorem M_asks {F m : Nat} {τ : Tau} (hm : m < 14) {p th : Option Nat} (hp : τ 1 (87 + m) = vo p) (hpb : ∀ a, p = some a → a < 10) (hth : ∀ a, th = some a → a < 12) (hpt : th ≠ none → p ≠ none) :
    X11_asks F (nI m) (vo th) τ = some (0, gF 10 1 τ (facV (τ 1) m p th)) := by
  have u1 : ∀ (σ : Tau) (j : Nat) (v : Int32) (k : Nat), up σ 10 j v 1 k = σ 1 k := fun σ j v k => up_nc (by decide)
  have al : ∀ (b : Nat) (σ : Tau) (k : Int32 → Option (Int32 × Tau)), b + m < 2244 → ald σ 1 2244 (nI (b + m)) k = k (σ 1 (b + m)) := fun b σ k hb => ald_nI hb (by omega)
  have l1 : (87 : Int32) + nI m = nI (87 + m) := litA
  have l2 : (45 : Int32) + nI m = nI (45 + m) := litA
  have l3 : (59 : Int32) + nI m = nI (59 + m) := litA
  have l4 : (73 : Int32) + nI m = nI (73 + m) := litA
  have l5 : (129 : Int32) + nI m = nI (129 + m) := litA
  have z0 : ∀ (σ : Tau) (k : Int32 → Option (Int32 × Tau)), ald σ 1 2244 0 k = k (σ 1 0) := fun σ k => ald_nI (j := 0) (by decide) (by decide)
  have z2 : ∀ (σ : Tau) (k : Int32 → Option (Int32 × Tau)), ald σ 1 2244 2 k = k (σ 1 2) := fun σ k => ald_nI (j := 2) (by decide) (by decide)
  have a1 : ∀ (σ : Tau) (v : Int32) (k : Tau → Option (Int32 × Tau)), ast σ 10 11 1 v k = k (up σ 10 1 v) := fun σ v k => af 10 11 1 1 rfl (by decide) (by decide)
  have a2 : ∀ (σ : Tau) (v : Int32) (k : Tau → Option (Int32 × Tau)), ast σ 10 11 2 v k = k (up σ 10 2 v) := fun σ v k => af 10 11 2 2 rfl (by decide) (by decide)
  have a3 : ∀ (σ : Tau) (v : Int32) (k : Tau → Option (Int32 × Tau)), ast σ 10 11 3 v k = k (up σ 10 3 v) := fun σ v k => af 10 11 3 3 rfl (by decide) (by decide)
  have a4 : ∀ (σ : Tau) (v : Int32) (k : Tau → Option (Int32 × Tau)), ast σ 10 11 4 v k = k (up σ 10 4 v) := fun σ v k => af 10 11 4 4 rfl (by decide) (by decide)
  have a5 : ∀ (σ : Tau) (v : Int32) (k : Tau → Option (Int32 × Tau)), ast σ 10 11 5 v k = k (up σ 10 5 v) := fun σ v k => af 10 11 5 5 rfl (by decide) (by decide)
  have a6 : ∀ (σ : Tau) (v : Int32) (k : Tau → Option (Int32 × Tau)), ast σ 10 11 6 v k = k (up σ 10 6 v) := fun σ v k => af 10 11 6 6 rfl (by decide) (by decide)
  have a7 : ∀ (σ : Tau) (v : Int32) (k : Tau → Option (Int32 × Tau)), ast σ 10 11 7 v k = k (up σ 10 7 v) := fun σ v k => af 10 11 7 7 rfl (by decide) (by decide)
  have a8 : ∀ (σ : Tau) (v : Int32) (k : Tau → Option (Int32 × Tau)), ast σ 10 11 8 v k = k (up σ 10 8 v) := fun σ v k => af 10 11 8 8 rfl (by decide) (by decide)
  have a9 : ∀ (σ : Tau) (v : Int32) (k : Tau → Option (Int32 × Tau)), ast σ 10 11 9 v k = k (up σ 10 9 v) := fun σ v k => af 10 11 9 9 rfl (by decide) (by decide)
  have a10 : ∀ (σ : Tau) (v : Int32) (k : Tau → Option (Int32 × Tau)), ast σ 10 11 10 v k = k (up σ 10 10 v) := fun σ v k => af 10 11 10 10 rfl (by decide) (by decide)
  unfold X11_asks X11_asks_j77 X11_asks_j93 X11_asks_j115 X11_asks_j140 X11_meaning
  cases p with
  | none =>
    have hthn : th = none := by
      cases th with
      | none => rfl
      | some a => exact absurd rfl (hpt (by simp))
    subst hthn
    simp only [vo] at hp ⊢
    simp only [l1, l2, l3, l4, l5, al 87 _ _ (by omega), al 45 _ _ (by omega), al 59 _ _ (by omega), al 73 _ _ (by omega), al 129 _ _ (by omega), hp, z0, z2, a1, a2, a3, a4, a5, a6, a7, a8, a9, a10, if_true, u1]
    simp only [gF, facV]
    rfl
  | some p =>
    have hpn := hpb p rfl
    have l6 : (5 : Int32) + nI p = nI (5 + p) := litA
    have l7 : (15 : Int32) + nI p = nI (15 + p) := litA
    have l8 : (12 : Int32) * nI p = nI (12 * p) := litM
    have al2 : ∀ (b : Nat) (σ : Tau) (k : Int32 → Option (Int32 × Tau)), b + p < 2244 → ald σ 1 2244 (nI (b + p)) k = k (σ 1 (b + p)) := fun b σ k hb => ald_nI hb (by omega)
    have hne : ¬ (nI p = -1) := fun z => (nI_m1 (by omega)).mp z
    cases th with
    | none =>
      simp only [vo] at hp ⊢
      simp only [l1, l2, l3, l4, l5, al 87 _ _ (by omega), al 45 _ _ (by omega), al 59 _ _ (by omega), al 73 _ _ (by omega), al 129 _ _ (by omega), hp, z0, z2, a1, a2, a3, a4, a5, a6, a7, a8, a9, a10, if_true, u1, l6, l7, al2 5 _ _ (by omega), al2 15 _ _ (by omega), hne, if_false]
      simp only [gF, facV]
      rfl
    | some a =>
      have ha := hth a rfl
      have hne2 : ¬ (nI a = -1) := fun z => (nI_m1 (by omega)).mp z
      have l9 : (261 : Int32) + nI (12 * p) = nI (261 + 12 * p) := litA
      have al3 : ∀ (σ : Tau) (k : Int32 → Option (Int32 × Tau)), ald σ 1 2244 (nI (261 + 12 * p + a)) k = k (σ 1 (261 + 12 * p + a)) := fun σ k => ald_nI (by omega) (by omega)
      simp only [vo] at hp ⊢
      simp only [l1, l2, l3, l4, l5, al 87 _ _ (by omega), al 45 _ _ (by omega), al 59 _ _ (by omega), al 73 _ _ (by omega), al 129 _ _ (by omega), hp, z0, z2, a1, a2, a3, a4, a5, a6, a7, a8, a9, a10, if_true, u1, l6, l7, l8, l9, nI_add, al2 5 _ _ (by omega), al2 15 _ _ (by omega), al3, hne, hne2, if_false, cal_some]
      simp only [gF, facV]
      rfl
