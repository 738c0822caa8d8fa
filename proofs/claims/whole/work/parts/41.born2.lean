/-! from the making to the loop: the table of both systems -/
def rhoU (b bs fz : Nat) (adK adV : Nat → Nat) : Nat → Nat := fun k => if k < 100000 then b + k else if k < 200000 then adK (k - 100000) else if k < 300000 then adV (k - 200000) else if k = 300000 then fz else bs
theorem okRf_at {rf : RF} (h : okRf rf = true) {c j : Nat} (hc : c < 243) (hk : kdU c < 20 ∨ kdU c = 23) (hj : j < lnU c) : rf c j = codeU c j := by
  unfold okRf at h
  have h1 := List.all_eq_true.mp h c (List.mem_range.mpr hc)
  rw [Bool.or_eq_true] at h1
  rcases h1 with h1 | h1
  · simp only [Bool.and_eq_true, decide_eq_true_eq, Bool.not_eq_true', beq_eq_false_iff_ne, ne_eq] at h1
    omega
  · have h2 := List.all_eq_true.mp h1 j (List.mem_range.mpr hj)
    simpa using h2
theorem rfU_small : ∀ c, c < 243 → (kdU c < 20 ∨ kdU c = 23) → ∀ j, j < lnU c → ∀ q ∈ rfU c j, q < 243 := by decide +kernel
theorem mkU_id {cA : Nat → ClassId} {ρ : Nat → Nat} {τ : Tau} {c : Nat} (hc : c < 243) : en cA ρ sysU (mkU τ (fun a i => τ (a + 222) i)) c = en cA ρ sysU τ c := by
  have e : mkU τ (fun a i => τ (a + 222) i) c = τ c := by
    funext i
    unfold mkU
    by_cases h : c < 222
    · rw [if_pos h]
    · rw [if_neg h]
      show τ (c - 222 + 222) i = τ c i
      rw [Nat.sub_add_cancel (by omega)]
  unfold en
  rw [e]
theorem PC_wl {D : va_G} {cA : Nat → ClassId} {b bs fz : Nat} {adK adV : Nat → Nat} {rf : RF} {τ : Tau} {H : Heap} (hr : okRf rf = true) (h : PC D cA b kdU lnU 243 rf τ H) : va_P D vwCl (wl cA (rhoU b bs fz adK adV) sysU (mkU τ (fun a i => τ (a + 222) i))) H := by
  intro k q hq
  have hl : k < (wl cA (rhoU b bs fz adK adV) sysU (mkU τ (fun a i => τ (a + 222) i))).length := (List.getElem?_eq_some_iff.mp hq).1
  have hk : k < 243 := by simpa [wl] using hl
  rw [wl_at (show k < sysU.1 from hk)] at hq
  rw [← Option.some.inj hq, mkU_id hk]
  have hρ : ∀ q, q < 243 → rhoU b bs fz adK adV q = b + q := fun q hq => by unfold rhoU; rw [if_pos (by omega)]
  rw [hρ k hk]
  have h1 := h k hk
  unfold enC at h1
  unfold en
  show va_at D vwCl (b + k, if kdU k < 20 then _ else if kdU k = 23 then _ else _) H
  have key : (kdU k < 20 ∨ kdU k = 23) → ∀ j, j < lnU k → fc b (rf k j) (τ k j) = fv (rhoU b bs fz adK adV) (rfU k j) (τ k j) ∧ fq b (rf k j) = (rfU k j).map (rhoU b bs fz adK adV) := fun hkd j hj => by
    rw [okRf_at hr hk hkd hj]
    unfold codeU
    cases e : rfU k j with
    | none => exact ⟨rfl, rfl⟩
    | some z =>
      have hz := rfU_small k hk hkd j hj z (by rw [e]; rfl)
      refine ⟨?_, ?_⟩
      · show Value.ref (b + z) = Value.ref (rhoU b bs fz adK adV z)
        rw [hρ z hz]
      · show some (b + z) = some (rhoU b bs fz adK adV z)
        rw [hρ z hz]
  by_cases c1 : kdU k < 20
  · rw [if_pos c1] at h1 ⊢
    have el : (List.range (lnU k)).map (fun j => fv (rhoU b bs fz adK adV) (rfU k j) (τ k j)) = (List.range (lnU k)).map (fun j => fc b (rf k j) (τ k j)) := by
      apply List.map_congr_left
      intro j hj
      exact (key (Or.inl c1) j (List.mem_range.mp hj)).1.symm
    show va_at D vwCl (b + k, .inr (kdU k, (List.range (lnU k)).map (fun j => fv (rhoU b bs fz adK adV) (rfU k j) (τ k j)))) H
    rw [el]
    exact h1
  · rw [if_neg c1] at h1 ⊢
    by_cases c2 : kdU k = 23
    · rw [if_pos c2] at h1 ⊢
      show H[b + k]? = some (vp_cell _ _)
      have h2 : H[b + k]? = some (vp_cell _ _) := h1
      rw [h2, vp_cell_q, vp_cell_q]
      congr 1
      unfold arrV
      congr 1
      apply Array.ext
      · simp
      · intro i g1 g2
        simp only [Array.getElem_ofFn]
        have hi : i < lnU k := by simpa using g1
        rw [(key (Or.inr c2) i hi).2]
    · rw [if_neg c2] at h1 ⊢
      exact h1
