/-! the law's own rules: calls of either system, the script -/
theorem cells_M {ρ : Nat → Nat} {cA : Nat → ClassId} {t : Tau} (k : Nat) (q : Nat × va_E) (h : (wl cA (rhM ρ) sysM t)[k]? = some q) : k < 21 ∧ q.1 = ρ (k + 222) := by
  have hl : k < (wl cA (rhM ρ) sysM t).length := (List.getElem?_eq_some_iff.mp h).1
  have hk : k < 21 := by simpa [wl] using hl
  rw [wl_at (show k < sysM.1 from hk)] at h
  refine ⟨hk, ?_⟩
  rw [← Option.some.inj h]
  show rhM ρ k = _
  unfold rhM
  rw [if_pos hk]
theorem cells_X {ρ : Nat → Nat} {cA : Nat → ClassId} {t : Tau} (k : Nat) (q : Nat × va_E) (h : (wl cA ρ sysX t)[k]? = some q) : k < 222 ∧ q.1 = ρ k := by
  have hl : k < (wl cA ρ sysX t).length := (List.getElem?_eq_some_iff.mp h).1
  have hk : k < 222 := by simpa [wl] using hl
  rw [wl_at (show k < sysX.1 from hk)] at h
  exact ⟨hk, by rw [← Option.some.inj h]⟩
section Lw
variable {K : Ctx} {nL d : Nat} {Q : State → Prop} {own : String} {cc : ByteArray} {tx tm t' : Tau} {pc : Nat} {L : List (Nat × Value)} {S : List Value} {nm : MethodName} {bytes : ByteArray} {n np d' index : Nat} {ret : Option FieldType} {r : Int32}
theorem at_callX (as rest : List Value) (hS : as.reverse ++ .ref 0 :: rest = S) (C : Cx K sysU own cc nL d) (hw : MWv nm bytes n ret np) (hcl : nm.cls = RX10) (hl : Cond.methodLink own index nm ∈ lw_g) (hnp : as.length = np) (hd' : d' + 1 ≤ d ∧ 19 + n + 64 * d' ≤ 64 * d) (hrest : (rest.map fun v => v.category).sum ≤ 8) (hd : decode cc pc = .ok (.invokevirtual index, 3))
    (hM : MCi sysX nm bytes n ret d' (.ref 0 :: as) tx r t') (hk2 : At K sysU nL Q (pc + 3) L (.int r :: rest) (mkU t' tm)) : At K sysU nL Q pc L S (mkU tx tm) := by
  subst hS
  intro H locs ls hL hP hSt
  obtain ⟨w1, w2, w3, w4, w5, w6, w7⟩ := hw
  have hM1 := hM K.2.1 K.2.2.2.2.2.2.2.2.2.2.2.2.1 K.2.2.2.2.2.2.2.2.2.2.2.2.2.1 K.2.2.2.2.2.2.2.2.2.2.2.2.2.2
  obtain ⟨hx, hb1, hml, hown, hts, hR, hst, hlk⟩ := C
  obtain ⟨hPX, hPM⟩ := wlU_P.mp hP
  rw [cv_rev]
  refine va_calli (va_runV (As := as.map (cv _)) (rest := rest.map (cv _)) ⟨hx, hb1, hml, hown, hts⟩ hM1 (cwV (bytes := bytes) (maxL := n) (ret := ret) (ws' := lw_g) np hts ?_ rfl rfl rfl ⟨rfl, w5, w6, w7⟩ ?_) ⟨Pp.blind, va_recv (ci := 10) (q := (nm.cls, TX10, 8)) hst.1 hPX (by rw [hcl]; rfl) (wl_at (show 0 < sysX.1 by decide) |>.trans (by rw [en_obj (ci := 10) (by decide +kernel) (by decide)])), fun U hU hW => ⟨rfl, by rw [hU]; exact hPX, ?_⟩⟩ rfl (by simpa using hnp) hL.1 rfl ?_ hd ⟨by have := hR.2.2.1; omega, by have := hR.2.2.2; omega⟩) hSt (fun q _ h => frX_U q h) (fun q h => frX_U q h) (fun r2 u t H1 locs1 ht hvm hw9 hB hz1 hk1 hS1 => ?_)
  · intro w hw
    unfold wsV at hw
    rcases List.mem_append.mp hw with hw | hw
    · simp only [List.mem_cons, List.not_mem_nil, or_false] at hw
      rcases hw with rfl | rfl | rfl | rfl
      · exact ⟨hl, good_g hl⟩
      · exact ⟨w3, good_g w3⟩
      · exact ⟨w4, good_g w4⟩
      · exact ⟨w2, good_g w2⟩
    · exact goodIn_l rfl w1 w hw
  · exact ⟨Nat.le_trans hd'.1 hR.1, by have h1 := hR.2.1; have h2 := hd'.2; show 8 + (n + 11) + 64 * d' ≤ _; omega⟩
  · rw [hU]
    exact (Stt.warm hW (fun a ha hn => hSt.2.1 a ha hn) hst).toX
  · show 2 * 0 + _ ≤ 8
    rw [cv_sum]
    omega
  · obtain ⟨rfl, rfl⟩ := hw9
    have hP1 := hB
    unfold Bp at hP1
    rw [ht] at hP1
    refine hk2 H1 locs1 ls hL (wlU_P.mpr ⟨hP1, fun k q hq => (hPM k q hq).kept (hk1 _ (hPM k q hq).lt ?_)⟩) hS1
    rintro ⟨j, hj, e⟩
    obtain ⟨hk, e2⟩ := cells_M k q hq
    have := hst.2.1 (k + 222) j (by show k + 222 < 243; omega) (by have : j < 222 := hj; show j < 243; omega) (by rw [← e2, e])
    have hj2 : j < 222 := hj
    omega
theorem at_callM (as rest : List Value) (hS : as.reverse ++ .ref 222 :: rest = S) (C : Cx K sysU own cc nL d) (hw : MWv nm bytes n ret np) (hcl : nm.cls = RX11) (hl : Cond.methodLink own index nm ∈ lw_g) (hints : ∀ v ∈ as, ∃ i : Int32, v = .int i) (hnp : as.length = np) (hd' : d' + 1 ≤ d ∧ 19 + n + 64 * d' ≤ 64 * d) (hrest : (rest.map fun v => v.category).sum ≤ 8) (hd : decode cc pc = .ok (.invokevirtual index, 3))
    (hM : MCi sysM nm bytes n ret d' (.ref 0 :: as) tm r t') (hk2 : At K sysU nL Q (pc + 3) L (.int r :: rest) (mkU tx t')) : At K sysU nL Q pc L S (mkU tx tm) := by
  subst hS
  intro H locs ls hL hP hSt
  obtain ⟨w1, w2, w3, w4, w5, w6, w7⟩ := hw
  have hM1 := hM K.2.1 K.2.2.2.2.2.2.2.2.2.2.2.2.1 K.2.2.2.2.2.2.2.2.2.2.2.2.2.1 (rhM K.2.2.2.2.2.2.2.2.2.2.2.2.2.2)
  obtain ⟨hx, hb1, hml, hown, hts, hR, hst, hlk⟩ := C
  obtain ⟨hPX, hPM⟩ := wlU_P.mp hP
  rw [cv_rev]
  have e9 : as.map (cv K.2.2.2.2.2.2.2.2.2.2.2.2.2.2) = as.map (cv (rhM K.2.2.2.2.2.2.2.2.2.2.2.2.2.2)) := cv_ints hints
  rw [e9]
  refine va_calli (va_runV (As := as.map (cv (rhM _))) (rest := rest.map (cv _)) ⟨hx, hb1, hml, hown, hts⟩ hM1 (cwV (bytes := bytes) (maxL := n) (ret := ret) (ws' := lw_g) np hts ?_ rfl rfl rfl ⟨rfl, w5, w6, w7⟩ ?_) ⟨Pp.blind, va_recv (ci := 11) (q := (nm.cls, TX11, 37)) hst.1 hPM (by rw [hcl]; rfl) (wl_at (show 0 < sysM.1 by decide) |>.trans (by rw [en_obj (ci := 11) (by decide +kernel) (by decide)])), fun U hU hW => ⟨rfl, by rw [hU]; exact hPM, ?_⟩⟩ rfl (by simpa using hnp) hL.1 rfl ?_ hd ⟨by have := hR.2.2.1; omega, by have := hR.2.2.2; omega⟩) hSt (fun q _ h => frM_U q h) (fun q h => frM_U q h) (fun r2 u t H1 locs1 ht hvm hw9 hB hz1 hk1 hS1 => ?_)
  · intro w hw
    unfold wsV at hw
    rcases List.mem_append.mp hw with hw | hw
    · simp only [List.mem_cons, List.not_mem_nil, or_false] at hw
      rcases hw with rfl | rfl | rfl | rfl
      · exact ⟨hl, good_g hl⟩
      · exact ⟨w3, good_g w3⟩
      · exact ⟨w4, good_g w4⟩
      · exact ⟨w2, good_g w2⟩
    · exact goodIn_l rfl w1 w hw
  · exact ⟨Nat.le_trans hd'.1 hR.1, by have h1 := hR.2.1; have h2 := hd'.2; show 8 + (n + 11) + 64 * d' ≤ _; omega⟩
  · rw [hU]
    exact (Stt.warm hW (fun a ha hn => hSt.2.1 a ha hn) hst).toM
  · show 2 * 0 + _ ≤ 8
    rw [cv_sum]
    omega
  · obtain ⟨rfl, rfl⟩ := hw9
    have hP1 := hB
    unfold Bp at hP1
    rw [ht] at hP1
    refine hk2 H1 locs1 ls hL (wlU_P.mpr ⟨fun k q hq => (hPX k q hq).kept (hk1 _ (hPX k q hq).lt ?_), hP1⟩) hS1
    rintro ⟨j, hj, e⟩
    obtain ⟨hk, e2⟩ := cells_X k q hq
    have hj2 : j < 21 := hj
    unfold rhM at e
    rw [if_pos hj2] at e
    have := hst.2.1 k (j + 222) (by show k < 243; omega) (by show j + 222 < 243; omega) (by rw [← e2, e])
    omega
theorem at_ifeq {u : Int32} {off : Int} {y : Sys} {τ : Tau} (tgt : Nat) (C : Cx K y own cc nL d) (hd : decode cc pc = .ok (.ifCond .eq off, 3)) (ht : (pc : Int) + off = (tgt : Int)) (ka : u = 0 → At K y nL Q tgt L S τ) (kb : ¬ u = 0 → At K y nL Q (pc + 3) L S τ) : At K y nL Q pc L (.int u :: S) τ :=
  fun H locs ls hL hP hS => lv_if_eq C.1 C.2.1 hd ht (fun q => ka q H locs ls hL hP hS) (fun q => kb q H locs ls hL hP hS)
theorem at_icmpeq {u v : Int32} {off : Int} {y : Sys} {τ : Tau} (tgt : Nat) (C : Cx K y own cc nL d) (hd : decode cc pc = .ok (.if_icmp .eq off, 3)) (ht : (pc : Int) + off = (tgt : Int)) (he : u = v) (ka : At K y nL Q tgt L S τ) : At K y nL Q pc L (.int v :: .int u :: S) τ :=
  fun H locs ls hL hP hS => lv_icmp_eq C.1 C.2.1 hd ht (fun _ => ka H locs ls hL hP hS) (fun q => absurd he q)
theorem at_icmpgt {u v : Int32} {off : Int} {y : Sys} {τ : Tau} (tgt : Nat) (C : Cx K y own cc nL d) (hd : decode cc pc = .ok (.if_icmp .gt off, 3)) (ht : (pc : Int) + off = (tgt : Int)) (ka : v < u → At K y nL Q tgt L S τ) (kb : ¬ v < u → At K y nL Q (pc + 3) L S τ) : At K y nL Q pc L (.int v :: .int u :: S) τ :=
  fun H locs ls hL hP hS => lv_icmp_gt C.1 C.2.1 hd ht (fun q => ka q H locs ls hL hP hS) (fun q => kb q H locs ls hL hP hS)
theorem at_tabIn {u : Int32} {y : Sys} {τ : Tau} {dflt lo hi : Int} {offs : Array Int} {len : Nat} {off : Int} (tgt : Nat) (C : Cx K y own cc nL d) (hd : decode cc pc = .ok (.tableswitch dflt lo hi offs, len)) (h1 : ¬ u.toInt < lo) (h2 : ¬ hi < u.toInt) (ho : offs[(u.toInt - lo).toNat]? = some off) (ht : (pc : Int) + off = (tgt : Int)) (k : At K y nL Q tgt L S τ) : At K y nL Q pc L (.int u :: S) τ :=
  fun H locs ls hL hP hS => lv_tableIn C.1 C.2.1 hd h1 h2 ho ht (k H locs ls hL hP hS)
theorem at_tabOut {u : Int32} {y : Sys} {τ : Tau} {dflt lo hi : Int} {offs : Array Int} {len : Nat} (tgt : Nat) (C : Cx K y own cc nL d) (hd : decode cc pc = .ok (.tableswitch dflt lo hi offs, len)) (h1 : u.toInt < lo ∨ hi < u.toInt) (ht : (pc : Int) + dflt = (tgt : Int)) (k : At K y nL Q tgt L S τ) : At K y nL Q pc L (.int u :: S) τ :=
  fun H locs ls hL hP hS => lv_tableOut C.1 C.2.1 hd h1 ht (k H locs ls hL hP hS)
/-- the script: its cell is 400000 -/
def Scr (K : Ctx) (y : Sys) (Ln : Nat) (xs : Nat → Int32) : Prop :=
  va_X (K.2.2.2.2.2.2.2.2.2.2.2.2.2.2 400000) Ln xs K.2.2.2.2.1 K.2.2.2.2.1.heap ∧ K.2.2.2.2.2.2.2.2.2.2.2.2.2.2 400000 < K.2.2.2.2.1.heap.size ∧ ¬ fr K.2.2.2.2.2.2.2.2.2.2.2.2.2.2 y (K.2.2.2.2.2.2.2.2.2.2.2.2.2.2 400000)
theorem at_sld {i : Int32} {y : Sys} {τ : Tau} {Ln : Nat} {xs : Nat → Int32} (C : Cx K y own cc nL d) (hX : Scr K y Ln xs) (hi : inb i Ln = true) (hd : decode cc pc = .ok (.iaload, 1)) (k : At K y nL Q (pc + 1) L (.int (xs (ix i)) :: S) τ) : At K y nL Q pc L (.int i :: .ref 400000 :: S) τ :=
  fun H locs ls hL hP hS => va_sld C.1 C.2.1 hX.1 hX.2.1 hX.2.2 hS (inb_in hi) hd (k H locs ls hL hP hS)
theorem at_slen {y : Sys} {τ : Tau} {Ln : Nat} {xs : Nat → Int32} (C : Cx K y own cc nL d) (hX : Scr K y Ln xs) (hd : decode cc pc = .ok (.arraylength, 1)) (k : At K y nL Q (pc + 1) L (.int (Int32.ofNat Ln) :: S) τ) : At K y nL Q pc L (.ref 400000 :: S) τ :=
  fun H locs ls hL hP hS => va_slen C.1 C.2.1 hX.1 hX.2.1 hX.2.2 hS hd (k H locs ls hL hP hS)
end Lw
