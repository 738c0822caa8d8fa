/-! both systems in one, for the law -/
def kdU (c : Nat) : Nat := if c < 222 then kdX c else kdM (c - 222)
def lnU (c : Nat) : Nat := if c < 222 then lnX c else lnM (c - 222)
def rfU (c j : Nat) : Option Nat := if c < 222 then rfX c j else (rfM (c - 222) j).map (· + 222)
abbrev sysU : Sys := (243, kdU, lnU, rfU)
def mkU (tx tm : Tau) : Tau := fun c j => if c < 222 then tx c j else tm (c - 222) j
def rhM (ρ : Nat → Nat) : Nat → Nat := fun k => if k < 21 then ρ (k + 222) else ρ k
theorem rf_big_X : ∀ c, c < 222 → ∀ j, j < 40 → ∀ q ∈ rfX c j, q < 222 := by decide +kernel
theorem rf_big_M : ∀ c, c < 21 → ∀ j, j < 40 → ∀ q ∈ rfM c j, q < 21 := by decide +kernel
theorem ln_X_obj : ∀ c, c < 222 → kdX c < 20 ∨ kdX c = 23 → lnX c < 40 := by decide +kernel
theorem ln_M_obj : ∀ c, c < 21 → kdM c < 20 ∨ kdM c = 23 → lnM c < 40 := by decide +kernel
theorem kd_M_23 : ∀ c, c < 21 → ¬ kdM c = 23 := by decide +kernel
theorem enU_X {cA : Nat → ClassId} {ρ : Nat → Nat} {tx tm : Tau} {c : Nat} (h : c < 222) : en cA ρ sysU (mkU tx tm) c = en cA ρ sysX tx c := by
  unfold en
  have e1 : sysU.2.1 c = sysX.2.1 c := if_pos h
  have e2 : sysU.2.2.1 c = sysX.2.2.1 c := if_pos h
  have e3 : sysU.2.2.2 c = sysX.2.2.2 c := by funext j; exact if_pos h
  have e4 : mkU tx tm c = tx c := by funext j; exact if_pos h
  rw [e1, e2, e3, e4]
theorem enU_M {cA : Nat → ClassId} {ρ : Nat → Nat} {tx tm : Tau} {c k : Nat} (h : c < 21) (hk : k = c + 222) : en cA ρ sysU (mkU tx tm) k = en cA (rhM ρ) sysM tm c := by
  unfold en
  have hn : ¬ k < 222 := by omega
  have hs : k - 222 = c := by omega
  have e1 : sysU.2.1 k = sysM.2.1 c := by show (if k < 222 then kdX k else kdM (k - 222)) = kdM c; rw [if_neg hn, hs]
  have e2 : sysU.2.2.1 k = sysM.2.2.1 c := by show (if k < 222 then lnX k else lnM (k - 222)) = lnM c; rw [if_neg hn, hs]
  have e3 : ∀ j, sysU.2.2.2 k j = (sysM.2.2.2 c j).map (· + 222) := by intro j; show (if k < 222 then rfX k j else (rfM (k - 222) j).map (· + 222)) = (rfM c j).map (· + 222); rw [if_neg hn, hs]
  have e4 : mkU tx tm k = tm c := by funext j; show (if k < 222 then tx k j else tm (k - 222) j) = tm c j; rw [if_neg hn, hs]
  rw [e1, e2, e4]
  by_cases k1 : sysM.2.1 c < 20
  · rw [if_pos k1, if_pos k1]
    suffices el : (List.range (sysM.2.2.1 c)).map (fun j => fv ρ (sysU.2.2.2 k j) (tm c j)) = (List.range (sysM.2.2.1 c)).map (fun j => fv (rhM ρ) (sysM.2.2.2 c j) (tm c j)) by rw [el]
    apply List.map_congr_left
    intro j hj
    have hj' : j < 40 := Nat.lt_trans (List.mem_range.mp hj) (ln_M_obj c h (Or.inl k1))
    rw [e3]
    cases hq : sysM.2.2.2 c j with
    | none => rfl
    | some q =>
      have hq2 := rf_big_M c h j hj' q (by rw [show rfM c j = some q from hq]; rfl)
      show Value.ref (ρ (q + 222)) = Value.ref (rhM ρ q)
      unfold rhM
      rw [if_pos hq2]
  · rw [if_neg k1, if_neg k1, if_neg (kd_M_23 c h), if_neg (kd_M_23 c h)]
theorem wlU_P {D : va_G} {cA : Nat → ClassId} {ρ : Nat → Nat} {tx tm : Tau} {H : Heap} : va_P D vwCl (wl cA ρ sysU (mkU tx tm)) H ↔ va_P D vwCl (wl cA ρ sysX tx) H ∧ va_P D vwCl (wl cA (rhM ρ) sysM tm) H := by
  have lt : ∀ (y : Sys) (ρ : Nat → Nat) (t : Tau) (k : Nat) (q : Nat × va_E), (wl cA ρ y t)[k]? = some q → k < y.1 := by
    intro y ρ t k q hq
    have hl : k < (wl cA ρ y t).length := (List.getElem?_eq_some_iff.mp hq).1
    simpa [wl] using hl
  constructor
  · intro h
    refine ⟨fun k q hq => ?_, fun k q hq => ?_⟩
    · have hk : k < 222 := lt _ _ _ _ _ hq
      refine h k q ?_
      rw [wl_at (show k < 243 by omega), enU_X hk]
      rw [wl_at (show k < sysX.1 from hk)] at hq
      exact hq
    · have hk : k < 21 := lt _ _ _ _ _ hq
      refine h (k + 222) q ?_
      rw [wl_at (show k + 222 < 243 by omega), enU_M hk rfl]
      rw [wl_at (show k < sysM.1 from hk)] at hq
      rw [← hq]
      unfold rhM
      rw [if_pos hk]
  · rintro ⟨h1, h2⟩ k q hq
    have hk : k < 243 := lt _ _ _ _ _ hq
    rw [wl_at (show k < sysU.1 from hk)] at hq
    rcases Nat.lt_or_ge k 222 with g | g
    · refine h1 k q ?_
      rw [wl_at (show k < sysX.1 from g), ← hq, enU_X g]
    · obtain ⟨j, rfl⟩ : ∃ j, k = j + 222 := ⟨k - 222, by omega⟩
      have hj : j < 21 := by omega
      refine h2 j q ?_
      rw [wl_at (show j < sysM.1 from hj), ← hq, enU_M hj rfl]
      unfold rhM
      rw [if_pos hj]
theorem Stt.sub {D : va_G} {cA : Nat → ClassId} {ρ ρ' : Nat → Nat} {y y' : Sys} {U : State} {H : Heap} (h : Stt D cA ρ y U H) (hf : ∀ q, fr ρ' y' q → fr ρ y q) (hi : ∀ i j, i < y'.1 → j < y'.1 → ρ' i = ρ' j → i = j) (hs : ∀ k, 100000 ≤ k → ρ' k = ρ k) : Stt D cA ρ' y' U H := by
  obtain ⟨h1, h2, h3, h4, h5, h6, h7⟩ := h
  refine ⟨h1, hi, h3, fun q hq => ?_, fun q hq => ?_, va_Z.narrow h6 hf, ?_⟩
  · rw [hs _ (by omega)]; exact h4 q hq
  · obtain ⟨a1, a2, a3, a4⟩ := h5 q hq
    rw [hs _ (by omega), hs _ (by omega)]
    exact ⟨va_O.narrow a1 hf, va_OF.narrow a2 hf, va_OF.narrow a3 hf, va_T.narrow a4 hf⟩
  · rw [hs _ (by omega)]
    exact h7.imp (fun z => va_Z.narrow z hf) (fun z => va_Z.narrow z hf)
theorem frX_U {ρ : Nat → Nat} (q : Nat) (h : fr ρ sysX q) : fr ρ sysU q := by
  obtain ⟨k, hk, e⟩ := h
  exact ⟨k, Nat.lt_trans hk (by decide), e⟩
theorem frM_U {ρ : Nat → Nat} (q : Nat) (h : fr (rhM ρ) sysM q) : fr ρ sysU q := by
  obtain ⟨k, hk, e⟩ := h
  have hk' : k < 21 := hk
  unfold rhM at e
  rw [if_pos hk'] at e
  exact ⟨k + 222, by show k + 222 < 243; omega, e⟩
theorem Stt.toX {D : va_G} {cA : Nat → ClassId} {ρ : Nat → Nat} {U : State} {H : Heap} (h : Stt D cA ρ sysU U H) : Stt D cA ρ sysX U H :=
  h.sub frX_U (fun i j hi hj e => h.2.1 i j (Nat.lt_trans hi (by decide)) (Nat.lt_trans hj (by decide)) e) (fun _ _ => rfl)
theorem Stt.toM {D : va_G} {cA : Nat → ClassId} {ρ : Nat → Nat} {U : State} {H : Heap} (h : Stt D cA ρ sysU U H) : Stt D cA (rhM ρ) sysM U H :=
  h.sub frM_U (fun i j hi hj e => by
    have hi' : i < 21 := hi
    have hj' : j < 21 := hj
    unfold rhM at e
    rw [if_pos hi', if_pos hj'] at e
    have := h.2.1 (i + 222) (j + 222) (by show i + 222 < 243; omega) (by show j + 222 < 243; omega) e
    omega) (fun k hk => by unfold rhM; rw [if_neg (by omega)])
theorem cv_ints {ρ ρ' : Nat → Nat} {as : List Value} (h : ∀ v ∈ as, ∃ i : Int32, v = .int i) : as.map (cv ρ) = as.map (cv ρ') := by
  apply List.map_congr_left
  intro v hv
  obtain ⟨i, rfl⟩ := h v hv
  rfl
