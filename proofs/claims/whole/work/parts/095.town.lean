/-! a method that answers a reference: History.townAt -/
/-- from these arguments and this table it answers the cell q, and leaves the table τ' -/
def MCq (y : Sys) (nm : MethodName) (bytes : ByteArray) (n : Nat) (ret : Option FieldType) (d : Nat) (as : List Value) (τ : Tau) (q : Nat) (τ' : Tau) : Prop :=
  ∀ (l : Launch) (D : va_G) (cA : Nat → ClassId) (ρ : Nat → Nat), Met l nm (.code nm bytes n ret :: lw_g) (rmD d) (va_Pc (as.map (cv ρ)) (Pp D cA ρ y τ)) (va_Qq (S := Tau) (fun r1 t1 => r1 = some (ρ q) ∧ t1 = τ') (Bp D cA ρ y) (fr ρ y)) 0 0 (fr ρ y)
def Qq (q : Nat) (K : Ctx) (y : Sys) (_ : Int32) (τ' : Tau) : State → Prop := MQ K.2.2.2.2.2.2.2.1 (va_Qq (S := Tau) (fun r1 t1 => r1 = some (K.2.2.2.2.2.2.2.2.2.2.2.2.2.2 q) ∧ t1 = τ') (Bp K.2.2.2.2.2.2.2.2.2.2.2.2.1 K.2.2.2.2.2.2.2.2.2.2.2.2.2.1 K.2.2.2.2.2.2.2.2.2.2.2.2.2.2 y) (fr K.2.2.2.2.2.2.2.2.2.2.2.2.2.2 y)) K.2.2.2.2.2.2.1 K.2.2.2.2.1 K.2.2.2.2.2.2.2.2.2.2.1 K.2.2.2.2.2.2.2.2.2.2.2.1 (fr K.2.2.2.2.2.2.2.2.2.2.2.2.2.2 y)
theorem mcq_of {y : Sys} {nm : MethodName} {bytes : ByteArray} {n : Nat} {ret : Option FieldType} {d : Nat} {as : List Value} {τ : Tau} {q : Nat} {f : Option (Int32 × Tau)} {r : Int32} {τ' : Tau} (hy : plainName nm.cls = true) (hl : (lg_sl as).length ≤ n)
    (Wk : ∀ K : Ctx, Cx K y nm.cls bytes n d → Rt K ret → Sm K y n (Qq q K y) f 0 (lv_args 0 as) [] τ) (hf : f = some (r, τ')) : MCq y nm bytes n ret d as τ q τ' := by
  intro l D cA ρ
  refine Met.ofW (cc := bytes) (maxL := n) (ret := ret) hy rfl ?_
  intro p e s m args below meth c s₁ B hml hv
  obtain ⟨rfl, hP, hSt⟩ := hv
  have hts := atoms_spec (ws := .code nm bytes n ret :: lw_g) B.pre
  have W1 := Wk (p, l, e, (headSpec (.code nm bytes n ret :: lw_g) (rmD d)).room, s, m, (as.map (cv ρ)).toArray, below, meth, c, 0, 0, D, cA, ρ) ⟨B.exec, B.bytes, hml, findClass_of_methodNamed B.named, fun w hw => hts w (List.mem_cons_of_mem _ hw), ⟨Nat.le_refl _, Nat.le_refl _, Nat.zero_le _, Nat.zero_le _⟩, hSt, B.notSynchronized⟩ B.returns r τ' hf
  rw [lg_entry_eq]
  refine W1 s.heap [] _ ?_ hP va_S.rf
  rw [args_map]
  exact lv_entry _ (by rw [sl_len]; exact hl)
section Rq
variable {K : Ctx} {y : Sys} {nL d : Nat} {Qf : Int32 → Tau → State → Prop} {own : String} {cc : ByteArray} {τ : Tau} {pc : Nat} {L : List (Nat × Value)} {S : List Value} {i v : Int32} {c q : Nat} {x : Option (Int32 × Tau)} {index : Nat}
theorem sm_aret {w : Int32} {Cn : String} (C : Cx K y own cc nL d) (hr : Rt K (some (.object Cn))) (hd : decode cc pc = .ok (.areturn, 1)) : Sm K y nL (Qq q K y) (some (w, τ)) pc L [.ref q] τ := by
  intro r τ' h H locs ls hL hP hS
  cases h
  exact W.aret C.1 C.2.1 hr (Or.inl ⟨_, rfl⟩) (Or.inr ⟨_, rfl⟩) (fun t ht hW => ⟨⟨some (K.2.2.2.2.2.2.2.2.2.2.2.2.2.2 q), τ, rfl, ⟨rfl, rfl⟩, by unfold Bp; rw [ht]; exact hP⟩, hS.F ht⟩) hS.2.2 hd C.2.2.2.2.2.2.2
theorem sm_alenq (n : Nat) (C : Cx K y own cc nL d) (hc : c < y.1) (hk : y.2.1 c = 23) (hn : y.2.2.1 c = n) (hv : Int32.ofNat n = v) (hd : decode cc pc = .ok (.arraylength, 1)) (k : Sm K y nL Qf x (pc + 1) L (.int v :: S) τ) : Sm K y nL Qf x pc L (.ref c :: S) τ :=
  fun r τ' h H locs ls hL hP hS => va_alen (x := (n, .inr (.inr (.inr (.inr (fun j => (y.2.2.2 c j).map K.2.2.2.2.2.2.2.2.2.2.2.2.2.2)))))) (cA := K.2.2.2.2.2.2.2.2.2.2.2.2.2.1 23) C.1 C.2.1 C.2.2.2.2.2.2.1.1 hP c 3 (by rw [wl_at hc, en_rarr hk hn]) rfl hv hd (k r τ' h H locs ls hL hP hS)
def X1_townAt (i : Int32) (τ : Tau) : Option (Int32 × Tau) := if i < 0 then none else (if (6 : Int32) ≤ i then none else (gd i 6 (some (0, τ))))
theorem townAt_in {i : Int32} (g : inb i 6 = true) (τ : Tau) : X1_townAt i τ = some (0, τ) := by
  have g1 := g
  simp only [inb, Bool.and_eq_true, decide_eq_true_eq] at g1
  obtain ⟨g2, g3⟩ := g1
  have h0 : (0 : Int) ≤ i.toInt := by have := Int32.le_iff_toInt_le.mp g2; simpa using this
  have h6 : i.toInt < 6 := by
    have e : i.toNatClampNeg = i.toInt.toNat := rfl
    rw [e] at g3
    omega
  unfold X1_townAt
  rw [if_neg (fun z => by have := Int32.lt_iff_toInt_lt.mp z; have e : (0 : Int32).toInt = 0 := rfl; omega), if_neg (fun z => by have := Int32.le_iff_toInt_le.mp z; have e : (6 : Int32).toInt = 6 := rfl; omega)]
  unfold gd
  rw [if_pos g]
set_option maxRecDepth 20000 in
set_option maxHeartbeats 4000000 in
theorem c_X1_townAt {i : Int32} (g : inb i 6 = true) (τ : Tau) : MCq sysX yX1_townAt cX1_townAt 2 (some (.object "BasketEnvoys$Town")) 1 [.ref 116, .int i] τ (118 + 13 * ix i) τ :=
  mcq_of (f := X1_townAt i τ) (r := 0) (by decide +kernel) (Nat.le_of_ble_eq_true rfl) (fun K C hr => by
    show Sm K sysX 2 (Qq (118 + 13 * ix i) K sysX) (X1_townAt i τ) 0 [(0, .ref 116), (1, .int i)] [] τ
    unfold X1_townAt
    refine sm_seg C [(.iload_n 1, 0)] (pc' := 1) (L' := [(0, .ref 116), (1, .int i)]) (S' := [.int i]) (by decide +kernel) rfl ?_
    refine sm_iflt 22 (off := 21) C (by decide +kernel) (by decide) (fun _ => sm_none) (fun _ => ?_)
    refine sm_seg C [(.iload_n 1, 0), (.aload_n 0, 0)] (pc' := 6) (L' := [(0, .ref 116), (1, .int i)]) (S' := [.ref 116, .int i]) (by decide +kernel) rfl ?_
    refine sm_getR 1 2 117 cls1 C (ltX (by decide +kernel : kdX 116 = 1) (by decide)) (by decide +kernel : kdX 116 = 1) (obX1 (by decide +kernel : kdX 116 = 1)) (by decide) (frX1_2 (by decide +kernel : kdX 116 = 1)) fl1_20 (by decide +kernel) ?_
    refine sm_alenq 6 C (ltX (krX1_2 (by decide +kernel : kdX 116 = 1)) (by decide)) (krX1_2 (by decide +kernel : kdX 116 = 1)) (nrX1_2 (by decide +kernel : kdX 116 = 1)) rfl (by decide +kernel) ?_
    refine sm_icmpge 22 (off := 12) C (by decide +kernel) (by decide) (fun _ => sm_none) (fun _ => ?_)
    refine sm_seg C [(.aload_n 0, 0)] (pc' := 14) (L' := [(0, .ref 116), (1, .int i)]) (S' := [.ref 116]) (by decide +kernel) rfl ?_
    refine sm_getR 1 2 117 cls1 C (ltX (by decide +kernel : kdX 116 = 1) (by decide)) (by decide +kernel : kdX 116 = 1) (obX1 (by decide +kernel : kdX 116 = 1)) (by decide) (frX1_2 (by decide +kernel : kdX 116 = 1)) fl1_20 (by decide +kernel) ?_
    refine sm_seg C [(.iload_n 1, 0)] (pc' := 18) (L' := [(0, .ref 116), (1, .int i)]) (S' := [.int i, .ref 117]) (by decide +kernel) rfl ?_
    refine sm_aald 6 (118 + 13 * ix i) C (ltX (krX1_2 (by decide +kernel : kdX 116 = 1)) (by decide)) (krX1_2 (by decide +kernel : kdX 116 = 1)) (nrX1_2 (by decide +kernel : kdX 116 = 1)) tw_rf (by decide +kernel) (fun _ => ?_)
    refine sm_seg C [(.goto 4, 0)] (pc' := 23) (L' := [(0, .ref 116), (1, .int i)]) (S' := [.ref (118 + 13 * ix i)]) (by decide +kernel) rfl ?_
    exact sm_aret C hr (by decide +kernel)) (townAt_in g τ)
theorem sm_townAt (rest : List Value) (C : Cx K sysX own cc nL d) (hl : Cond.methodLink own index yX1_townAt ∈ lw_g) (hd' : 1 + 1 ≤ d ∧ 19 + 2 + 64 * 1 ≤ 64 * d) (hrest : (rest.map fun v => v.category).sum ≤ 8) (hd : decode cc pc = .ok (.invokevirtual index, 3))
    (k : inb i 6 = true → Sm K sysX nL Qf x (pc + 3) L (.ref (118 + 13 * ix i) :: rest) τ) : Sm K sysX nL Qf (gd i 6 x) pc L (.int i :: .ref 116 :: rest) τ := by
  unfold gd
  refine sm_ite (fun g => ?_) (fun _ => sm_none)
  intro r τ' h H locs ls hL hP hSt
  obtain ⟨w1, w2, w3, w4, w5, w6, w7⟩ := mw_X1_townAt
  have hM1 := c_X1_townAt g τ K.2.1 K.2.2.2.2.2.2.2.2.2.2.2.2.1 K.2.2.2.2.2.2.2.2.2.2.2.2.2.1 K.2.2.2.2.2.2.2.2.2.2.2.2.2.2
  have hk9 := k g
  obtain ⟨hx, hb1, hml, hown, hts, hR, hst, hlk⟩ := C
  rw [show (Value.int i :: .ref 116 :: rest) = [Value.int i].reverse ++ .ref 116 :: rest from rfl, cv_rev]
  refine va_callq (va_runV (As := [Value.int i].map (cv _)) (rest := rest.map (cv _)) ⟨hx, hb1, hml, hown, hts⟩ hM1 (cwV (bytes := cX1_townAt) (maxL := 2) (ret := some (.object "BasketEnvoys$Town")) (ws' := lw_g) 1 hts ?_ rfl rfl rfl ⟨rfl, w5, w6, w7⟩ ?_) ⟨Pp.blind, va_recv hst.1 hP cls1.1 (wl_at (ltX (by decide +kernel : kdX 116 = 1) (by decide)) |>.trans (by rw [en_obj (by decide +kernel : kdX 116 = 1) (by decide)])), fun U hU hW => ⟨rfl, by rw [hU]; exact hP, ?_⟩⟩ rfl rfl hL.1 rfl ?_ hd ⟨by have := hR.2.2.1; omega, by have := hR.2.2.2; omega⟩) hSt (fun q _ h => h) (fun q h => h) (fun r2 u t H1 locs1 ht hvm hw9 hB hz1 hk1 hS1 => ?_)
  · intro w hw
    unfold wsV at hw
    rcases List.mem_append.mp hw with hw | hw
    · simp only [List.mem_cons, List.not_mem_nil, or_false] at hw
      rcases hw with rfl | rfl | rfl | rfl
      · exact ⟨hl, good_g hl⟩
      · exact ⟨w3, good_g w3⟩
      · exact ⟨w4, good_g w4⟩
      · exact ⟨w2, good_g w2⟩
    · exact goodIn_l rfl w1 w hw
  · exact ⟨Nat.le_trans hd'.1 hR.1, by have h1 := hR.2.1; have h2 := hd'.2; show 8 + (2 + 11) + 64 * 1 ≤ _; omega⟩
  · rw [hU]
    exact Stt.warm hW (fun a ha hn => hSt.2.1 a ha hn) hst
  · show 2 * 0 + _ ≤ 8
    rw [cv_sum]
    omega
  · obtain ⟨rfl, rfl⟩ := hw9
    have hP1 := hB
    unfold Bp at hP1
    rw [ht] at hP1
    exact hk9 r τ' h H1 locs1 ls hL hP1 hS1
end Rq
