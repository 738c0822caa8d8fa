/-! BasketEnvoys_Town.hasMute -/
def X8_hasMute (F : Nat) (t0 : Nat) (a1 : Int32) (τ : Tau) : Option (Int32 × Tau) :=
  if a1 < 0 then (some (0, τ)) else (if (τ t0 1) ≤ a1 then (some (0, τ)) else (if 14 ≤ a1 then (some (0, τ)) else (some (1, τ))))
set_option maxRecDepth 20000 in
set_option maxHeartbeats 4000000 in
theorem c_X8_hasMute (F : Nat) (t0 : Nat) (h0 : kdX t0 = 8) (a1 : Int32) (τ : Tau) (r : Int32) (τ' : Tau) (h : X8_hasMute F t0 a1 τ = some (r, τ')) : MCi sysX yX8_hasMute cX8_hasMute 2 (some .boolean) 1 [.ref t0, .int a1] τ r τ' :=
  mci_of (by decide +kernel) (Nat.le_of_ble_eq_true rfl) (fun K C hr => by
    show Sm K sysX 2 (Qi K sysX) (X8_hasMute F t0 a1 τ) 0 [(0, .ref t0), (1, .int a1)] [] τ
    unfold X8_hasMute
    refine sm_seg C [(.iload_n 1, 0)] (pc' := 1) (L' := [(0, .ref t0), (1, .int a1)]) (S' := [.int a1]) (by decide +kernel) rfl ?_
    refine sm_iflt 22 (off := 21) C (by decide +kernel) (by decide) (fun _ => ?_) (fun _ => ?_)
    · refine sm_seg C [(.iconst 0, 0)] (pc' := 23) (L' := [(0, .ref t0), (1, .int a1)]) (S' := [.int 0]) (by decide +kernel) rfl ?_
      exact sm_iret C hr rfl (by decide +kernel)
    · refine sm_seg C [(.iload_n 1, 0), (.aload_n 0, 0)] (pc' := 6) (L' := [(0, .ref t0), (1, .int a1)]) (S' := [.ref t0, .int a1]) (by decide +kernel) rfl ?_
      refine sm_getI 8 1 cls8 C (ltX h0 (by decide)) h0 (obX8 h0) (by decide) (fiX8_1 h0) fl8_15 (by decide +kernel) ?_
      refine sm_icmpge 22 (off := 13) C (by decide +kernel) (by decide) (fun _ => ?_) (fun _ => ?_)
      · refine sm_seg C [(.iconst 0, 0)] (pc' := 23) (L' := [(0, .ref t0), (1, .int a1)]) (S' := [.int 0]) (by decide +kernel) rfl ?_
        exact sm_iret C hr rfl (by decide +kernel)
      · refine sm_seg C [(.iload_n 1, 0), (.bipush 14, 14)] (pc' := 15) (L' := [(0, .ref t0), (1, .int a1)]) (S' := [.int 14, .int a1]) (by decide +kernel) rfl ?_
        refine sm_icmpge 22 (off := 7) C (by decide +kernel) (by decide) (fun _ => ?_) (fun _ => ?_)
        · refine sm_seg C [(.iconst 0, 0)] (pc' := 23) (L' := [(0, .ref t0), (1, .int a1)]) (S' := [.int 0]) (by decide +kernel) rfl ?_
          exact sm_iret C hr rfl (by decide +kernel)
        · refine sm_seg C [(.iconst 1, 1), (.goto 4, 0)] (pc' := 23) (L' := [(0, .ref t0), (1, .int a1)]) (S' := [.int 1]) (by decide +kernel) rfl ?_
          exact sm_iret C hr rfl (by decide +kernel)) h
/-! BasketEnvoys_Town.isHome -/
def X8_isHome (F : Nat) (t0 : Nat) (a1 : Int32) (τ : Tau) : Option (Int32 × Tau) :=
  cal (X8_hasMute F t0 a1 τ) fun r1 τ2 => if r1 = 0 then (some (0, τ2)) else (ald τ2 (t0 + 8) 14 a1 fun v3 => if v3 = (-1) then (some (1, τ2)) else (some (0, τ2)))
set_option maxRecDepth 20000 in
set_option maxHeartbeats 4000000 in
theorem c_X8_isHome (F : Nat) (t0 : Nat) (h0 : kdX t0 = 8) (a1 : Int32) (τ : Tau) (r : Int32) (τ' : Tau) (h : X8_isHome F t0 a1 τ = some (r, τ')) : MCi sysX yX8_isHome cX8_isHome 2 (some .boolean) 2 [.ref t0, .int a1] τ r τ' :=
  mci_of (by decide +kernel) (Nat.le_of_ble_eq_true rfl) (fun K C hr => by
    show Sm K sysX 2 (Qi K sysX) (X8_isHome F t0 a1 τ) 0 [(0, .ref t0), (1, .int a1)] [] τ
    unfold X8_isHome
    refine sm_seg C [(.aload_n 0, 0), (.iload_n 1, 0)] (pc' := 2) (L' := [(0, .ref t0), (1, .int a1)]) (S' := [.int a1, .ref t0]) (by decide +kernel) rfl ?_
    refine sm_vcal [.int a1] [] rfl C mw_X8_hasMute ml_8_86 rfl (ci := 8) rfl (ltX h0 (by decide)) h0 (by decide) ⟨by decide, by decide⟩ (Nat.le_of_ble_eq_true rfl) (by decide +kernel) (c_X8_hasMute F t0 h0 a1 τ) (fun r1 τ2 => ?_)
    refine sm_ifeq 22 (off := 17) C (by decide +kernel) (by decide) (fun _ => ?_) (fun _ => ?_)
    · refine sm_seg C [(.iconst 0, 0)] (pc' := 23) (L' := [(0, .ref t0), (1, .int a1)]) (S' := [.int 0]) (by decide +kernel) rfl ?_
      exact sm_iret C hr rfl (by decide +kernel)
    · refine sm_seg C [(.aload_n 0, 0)] (pc' := 9) (L' := [(0, .ref t0), (1, .int a1)]) (S' := [.ref t0]) (by decide +kernel) rfl ?_
      refine sm_getR 8 14 (t0 + 8) cls8 C (ltX h0 (by decide)) h0 (obX8 h0) (by decide) (frX8_14 h0) fl8_55 (by decide +kernel) ?_
      refine sm_seg C [(.iload_n 1, 0)] (pc' := 13) (L' := [(0, .ref t0), (1, .int a1)]) (S' := [.int a1, .ref (t0 + 8)]) (by decide +kernel) rfl ?_
      refine sm_ald 14 C (ltX (krX8_14 h0) (by decide)) (krX8_14 h0) (nrX8_14 h0) (by decide +kernel) (fun v3 => ?_)
      refine sm_seg C [(.iconst (-1), (-1))] (pc' := 15) (L' := [(0, .ref t0), (1, .int a1)]) (S' := [.int (-1), .int v3]) (by decide +kernel) rfl ?_
      refine sm_icmpne 22 (off := 7) C (by decide +kernel) (by decide) (fun _ => ?_) (fun _ => ?_)
      · refine sm_seg C [(.iconst 1, 1), (.goto 4, 0)] (pc' := 23) (L' := [(0, .ref t0), (1, .int a1)]) (S' := [.int 1]) (by decide +kernel) rfl ?_
        exact sm_iret C hr rfl (by decide +kernel)
      · refine sm_seg C [(.iconst 0, 0)] (pc' := 23) (L' := [(0, .ref t0), (1, .int a1)]) (S' := [.int 0]) (by decide +kernel) rfl ?_
        exact sm_iret C hr rfl (by decide +kernel)) h
/-! BasketEnvoys_Town.hasPower -/
def X8_hasPower (F : Nat) (t0 : Nat) (a1 : Int32) (τ : Tau) : Option (Int32 × Tau) :=
  if a1 < 0 then (some (0, τ)) else (if (τ t0 0) ≤ a1 then (some (0, τ)) else (if 10 ≤ a1 then (some (0, τ)) else (some (1, τ))))
set_option maxRecDepth 20000 in
set_option maxHeartbeats 4000000 in
theorem c_X8_hasPower (F : Nat) (t0 : Nat) (h0 : kdX t0 = 8) (a1 : Int32) (τ : Tau) (r : Int32) (τ' : Tau) (h : X8_hasPower F t0 a1 τ = some (r, τ')) : MCi sysX yX8_hasPower cX8_hasPower 2 (some .boolean) 1 [.ref t0, .int a1] τ r τ' :=
  mci_of (by decide +kernel) (Nat.le_of_ble_eq_true rfl) (fun K C hr => by
    show Sm K sysX 2 (Qi K sysX) (X8_hasPower F t0 a1 τ) 0 [(0, .ref t0), (1, .int a1)] [] τ
    unfold X8_hasPower
    refine sm_seg C [(.iload_n 1, 0)] (pc' := 1) (L' := [(0, .ref t0), (1, .int a1)]) (S' := [.int a1]) (by decide +kernel) rfl ?_
    refine sm_iflt 22 (off := 21) C (by decide +kernel) (by decide) (fun _ => ?_) (fun _ => ?_)
    · refine sm_seg C [(.iconst 0, 0)] (pc' := 23) (L' := [(0, .ref t0), (1, .int a1)]) (S' := [.int 0]) (by decide +kernel) rfl ?_
      exact sm_iret C hr rfl (by decide +kernel)
    · refine sm_seg C [(.iload_n 1, 0), (.aload_n 0, 0)] (pc' := 6) (L' := [(0, .ref t0), (1, .int a1)]) (S' := [.ref t0, .int a1]) (by decide +kernel) rfl ?_
      refine sm_getI 8 0 cls8 C (ltX h0 (by decide)) h0 (obX8 h0) (by decide) (fiX8_0 h0) fl8_9 (by decide +kernel) ?_
      refine sm_icmpge 22 (off := 13) C (by decide +kernel) (by decide) (fun _ => ?_) (fun _ => ?_)
      · refine sm_seg C [(.iconst 0, 0)] (pc' := 23) (L' := [(0, .ref t0), (1, .int a1)]) (S' := [.int 0]) (by decide +kernel) rfl ?_
        exact sm_iret C hr rfl (by decide +kernel)
      · refine sm_seg C [(.iload_n 1, 0), (.bipush 10, 10)] (pc' := 15) (L' := [(0, .ref t0), (1, .int a1)]) (S' := [.int 10, .int a1]) (by decide +kernel) rfl ?_
        refine sm_icmpge 22 (off := 7) C (by decide +kernel) (by decide) (fun _ => ?_) (fun _ => ?_)
        · refine sm_seg C [(.iconst 0, 0)] (pc' := 23) (L' := [(0, .ref t0), (1, .int a1)]) (S' := [.int 0]) (by decide +kernel) rfl ?_
          exact sm_iret C hr rfl (by decide +kernel)
        · refine sm_seg C [(.iconst 1, 1), (.goto 4, 0)] (pc' := 23) (L' := [(0, .ref t0), (1, .int a1)]) (S' := [.int 1]) (by decide +kernel) rfl ?_
          exact sm_iret C hr rfl (by decide +kernel)) h
/-! BasketEnvoys_Town.isAway -/
def X8_isAway (F : Nat) (t0 : Nat) (a1 : Int32) (τ : Tau) : Option (Int32 × Tau) :=
  cal (X8_hasMute F t0 a1 τ) fun r1 τ2 => if r1 = 0 then (some (0, τ2)) else (ald τ2 (t0 + 8) 14 a1 fun v3 => if v3 = (-1) then (some (0, τ2)) else (some (1, τ2)))
set_option maxRecDepth 20000 in
set_option maxHeartbeats 4000000 in
theorem c_X8_isAway (F : Nat) (t0 : Nat) (h0 : kdX t0 = 8) (a1 : Int32) (τ : Tau) (r : Int32) (τ' : Tau) (h : X8_isAway F t0 a1 τ = some (r, τ')) : MCi sysX yX8_isAway cX8_isAway 2 (some .boolean) 2 [.ref t0, .int a1] τ r τ' :=
  mci_of (by decide +kernel) (Nat.le_of_ble_eq_true rfl) (fun K C hr => by
    show Sm K sysX 2 (Qi K sysX) (X8_isAway F t0 a1 τ) 0 [(0, .ref t0), (1, .int a1)] [] τ
    unfold X8_isAway
    refine sm_seg C [(.aload_n 0, 0), (.iload_n 1, 0)] (pc' := 2) (L' := [(0, .ref t0), (1, .int a1)]) (S' := [.int a1, .ref t0]) (by decide +kernel) rfl ?_
    refine sm_vcal [.int a1] [] rfl C mw_X8_hasMute ml_8_86 rfl (ci := 8) rfl (ltX h0 (by decide)) h0 (by decide) ⟨by decide, by decide⟩ (Nat.le_of_ble_eq_true rfl) (by decide +kernel) (c_X8_hasMute F t0 h0 a1 τ) (fun r1 τ2 => ?_)
    refine sm_ifeq 22 (off := 17) C (by decide +kernel) (by decide) (fun _ => ?_) (fun _ => ?_)
    · refine sm_seg C [(.iconst 0, 0)] (pc' := 23) (L' := [(0, .ref t0), (1, .int a1)]) (S' := [.int 0]) (by decide +kernel) rfl ?_
      exact sm_iret C hr rfl (by decide +kernel)
    · refine sm_seg C [(.aload_n 0, 0)] (pc' := 9) (L' := [(0, .ref t0), (1, .int a1)]) (S' := [.ref t0]) (by decide +kernel) rfl ?_
      refine sm_getR 8 14 (t0 + 8) cls8 C (ltX h0 (by decide)) h0 (obX8 h0) (by decide) (frX8_14 h0) fl8_55 (by decide +kernel) ?_
      refine sm_seg C [(.iload_n 1, 0)] (pc' := 13) (L' := [(0, .ref t0), (1, .int a1)]) (S' := [.int a1, .ref (t0 + 8)]) (by decide +kernel) rfl ?_
      refine sm_ald 14 C (ltX (krX8_14 h0) (by decide)) (krX8_14 h0) (nrX8_14 h0) (by decide +kernel) (fun v3 => ?_)
      refine sm_seg C [(.iconst (-1), (-1))] (pc' := 15) (L' := [(0, .ref t0), (1, .int a1)]) (S' := [.int (-1), .int v3]) (by decide +kernel) rfl ?_
      refine sm_icmpeq 22 (off := 7) C (by decide +kernel) (by decide) (fun _ => ?_) (fun _ => ?_)
      · refine sm_seg C [(.iconst 0, 0)] (pc' := 23) (L' := [(0, .ref t0), (1, .int a1)]) (S' := [.int 0]) (by decide +kernel) rfl ?_
        exact sm_iret C hr rfl (by decide +kernel)
      · refine sm_seg C [(.iconst 1, 1), (.goto 4, 0)] (pc' := 23) (L' := [(0, .ref t0), (1, .int a1)]) (S' := [.int 1]) (by decide +kernel) rfl ?_
        exact sm_iret C hr rfl (by decide +kernel)) h
/-! BasketEnvoys.within -/
def X10_within (F : Nat) (a0 : Int32) (a1 : Int32) (a2 : Int32) (τ : Tau) : Option (Int32 × Tau) :=
  if a0 < a1 then (some (0, τ)) else (if a2 < a0 then (some (0, τ)) else (some (1, τ)))
set_option maxRecDepth 20000 in
set_option maxHeartbeats 4000000 in
theorem c_X10_within (F : Nat) (a0 : Int32) (a1 : Int32) (a2 : Int32) (τ : Tau) (r : Int32) (τ' : Tau) (h : X10_within F a0 a1 a2 τ = some (r, τ')) : MCi sysX yX10_within cX10_within 3 (some .boolean) 1 [.int a0, .int a1, .int a2] τ r τ' :=
  mci_of (by decide +kernel) (Nat.le_of_ble_eq_true rfl) (fun K C hr => by
    show Sm K sysX 3 (Qi K sysX) (X10_within F a0 a1 a2 τ) 0 [(0, .int a0), (1, .int a1), (2, .int a2)] [] τ
    unfold X10_within
    refine sm_seg C [(.iload_n 0, 0), (.iload_n 1, 0)] (pc' := 2) (L' := [(0, .int a0), (1, .int a1), (2, .int a2)]) (S' := [.int a1, .int a0]) (by decide +kernel) rfl ?_
    refine sm_icmplt 14 (off := 12) C (by decide +kernel) (by decide) (fun _ => ?_) (fun _ => ?_)
    · refine sm_seg C [(.iconst 0, 0)] (pc' := 15) (L' := [(0, .int a0), (1, .int a1), (2, .int a2)]) (S' := [.int 0]) (by decide +kernel) rfl ?_
      exact sm_iret C hr rfl (by decide +kernel)
    · refine sm_seg C [(.iload_n 0, 0), (.iload_n 2, 0)] (pc' := 7) (L' := [(0, .int a0), (1, .int a1), (2, .int a2)]) (S' := [.int a2, .int a0]) (by decide +kernel) rfl ?_
      refine sm_icmpgt 14 (off := 7) C (by decide +kernel) (by decide) (fun _ => ?_) (fun _ => ?_)
      · refine sm_seg C [(.iconst 0, 0)] (pc' := 15) (L' := [(0, .int a0), (1, .int a1), (2, .int a2)]) (S' := [.int 0]) (by decide +kernel) rfl ?_
        exact sm_iret C hr rfl (by decide +kernel)
      · refine sm_seg C [(.iconst 1, 1), (.goto 4, 0)] (pc' := 15) (L' := [(0, .int a0), (1, .int a1), (2, .int a2)]) (S' := [.int 1]) (by decide +kernel) rfl ?_
        exact sm_iret C hr rfl (by decide +kernel)) h
/-! BasketEnvoys_Town.allows -/
def X8_allows (F : Nat) (t0 : Nat) (a1 : Int32) (a2 : Int32) (a3 : Int32) (τ : Tau) : Option (Int32 × Tau) :=
  if a1 = 0 then (cal (X8_isHome F t0 a2 τ) fun r1 τ2 => if r1 = 0 then (some (0, τ2)) else (cal (X8_hasPower F t0 a3 τ2) fun r3 τ4 => if r3 = 0 then (some (0, τ4)) else (some (1, τ4)))) else if a1 = 1 then (cal (X8_isAway F t0 a2 τ) fun r5 τ6 => some (vp_nar .boolean r5, τ6)) else if a1 = 2 then (cal (X8_isHome F t0 a2 τ) fun r7 τ8 => if r7 = 0 then (some (0, τ8)) else (ald τ8 (t0 + 10) 14 a2 fun v9 => if 8 ≤ v9 then (some (0, τ8)) else (cal (X10_within F a3 0 11 τ8) fun r10 τ11 => if r10 = 0 then (some (0, τ11)) else (some (1, τ11))))) else if a1 = 3 then (cal (X8_isHome F t0 a2 τ) fun r12 τ13 => if r12 = 0 then (some (0, τ13)) else (ald τ13 (t0 + 10) 14 a2 fun v14 => if v14 ≤ 0 then (some (0, τ13)) else (some (1, τ13)))) else if a1 = 4 then (cal (X8_isHome F t0 a2 τ) fun r15 τ16 => some (vp_nar .boolean r15, τ16)) else (some (0, τ))
set_option maxRecDepth 20000 in
set_option maxHeartbeats 4000000 in
theorem c_X8_allows (F : Nat) (t0 : Nat) (h0 : kdX t0 = 8) (a1 : Int32) (a2 : Int32) (a3 : Int32) (τ : Tau) (r : Int32) (τ' : Tau) (h : X8_allows F t0 a1 a2 a3 τ = some (r, τ')) : MCi sysX yX8_allows cX8_allows 4 (some .boolean) 3 [.ref t0, .int a1, .int a2, .int a3] τ r τ' :=
  mci_of (by decide +kernel) (Nat.le_of_ble_eq_true rfl) (fun K C hr => by
    show Sm K sysX 4 (Qi K sysX) (X8_allows F t0 a1 a2 a3 τ) 0 [(0, .ref t0), (1, .int a1), (2, .int a2), (3, .int a3)] [] τ
    unfold X8_allows
    refine sm_seg C [(.iload_n 1, 0)] (pc' := 1) (L' := [(0, .ref t0), (1, .int a1), (2, .int a2), (3, .int a3)]) (S' := [.int a1]) (by decide +kernel) rfl ?_
    have hd1 : decode cX8_allows 1 = .ok (.tableswitch 127 0 4 #[35, 57, 63, 98, 121], 35) := by decide +kernel
    refine sm_ite (fun e => ?_) (fun n1_0 => ?_)
    · refine sm_tabIn (off := 35) 36 C hd1 (by rw [e]; decide) (by rw [e]; decide) (by rw [e]; decide) (by decide) ?_
      refine sm_seg C [(.aload_n 0, 0), (.iload_n 2, 0)] (pc' := 38) (L' := [(0, .ref t0), (1, .int a1), (2, .int a2), (3, .int a3)]) (S' := [.int a2, .ref t0]) (by decide +kernel) rfl ?_
      refine sm_vcal [.int a2] [] rfl C mw_X8_isHome ml_8_89 rfl (ci := 8) rfl (ltX h0 (by decide)) h0 (by decide) ⟨by decide, by decide⟩ (Nat.le_of_ble_eq_true rfl) (by decide +kernel) (c_X8_isHome F t0 h0 a2 τ) (fun r1 τ2 => ?_)
      refine sm_ifeq 56 (off := 15) C (by decide +kernel) (by decide) (fun _ => ?_) (fun _ => ?_)
      · refine sm_seg C [(.iconst 0, 0)] (pc' := 57) (L' := [(0, .ref t0), (1, .int a1), (2, .int a2), (3, .int a3)]) (S' := [.int 0]) (by decide +kernel) rfl ?_
        exact sm_iret C hr rfl (by decide +kernel)
      · refine sm_seg C [(.aload_n 0, 0), (.iload_n 3, 0)] (pc' := 46) (L' := [(0, .ref t0), (1, .int a1), (2, .int a2), (3, .int a3)]) (S' := [.int a3, .ref t0]) (by decide +kernel) rfl ?_
        refine sm_vcal [.int a3] [] rfl C mw_X8_hasPower ml_8_74 rfl (ci := 8) rfl (ltX h0 (by decide)) h0 (by decide) ⟨by decide, by decide⟩ (Nat.le_of_ble_eq_true rfl) (by decide +kernel) (c_X8_hasPower F t0 h0 a3 τ2) (fun r3 τ4 => ?_)
        refine sm_ifeq 56 (off := 7) C (by decide +kernel) (by decide) (fun _ => ?_) (fun _ => ?_)
        · refine sm_seg C [(.iconst 0, 0)] (pc' := 57) (L' := [(0, .ref t0), (1, .int a1), (2, .int a2), (3, .int a3)]) (S' := [.int 0]) (by decide +kernel) rfl ?_
          exact sm_iret C hr rfl (by decide +kernel)
        · refine sm_seg C [(.iconst 1, 1), (.goto 4, 0)] (pc' := 57) (L' := [(0, .ref t0), (1, .int a1), (2, .int a2), (3, .int a3)]) (S' := [.int 1]) (by decide +kernel) rfl ?_
          exact sm_iret C hr rfl (by decide +kernel)
    refine sm_ite (fun e => ?_) (fun n1_1 => ?_)
    · refine sm_tabIn (off := 57) 58 C hd1 (by rw [e]; decide) (by rw [e]; decide) (by rw [e]; decide) (by decide) ?_
      refine sm_seg C [(.aload_n 0, 0), (.iload_n 2, 0)] (pc' := 60) (L' := [(0, .ref t0), (1, .int a1), (2, .int a2), (3, .int a3)]) (S' := [.int a2, .ref t0]) (by decide +kernel) rfl ?_
      refine sm_vcal [.int a2] [] rfl C mw_X8_isAway ml_8_92 rfl (ci := 8) rfl (ltX h0 (by decide)) h0 (by decide) ⟨by decide, by decide⟩ (Nat.le_of_ble_eq_true rfl) (by decide +kernel) (c_X8_isAway F t0 h0 a2 τ) (fun r5 τ6 => ?_)
      exact sm_iret C hr nar_boolean (by decide +kernel)
    refine sm_ite (fun e => ?_) (fun n1_2 => ?_)
    · refine sm_tabIn (off := 63) 64 C hd1 (by rw [e]; decide) (by rw [e]; decide) (by rw [e]; decide) (by decide) ?_
      refine sm_seg C [(.aload_n 0, 0), (.iload_n 2, 0)] (pc' := 66) (L' := [(0, .ref t0), (1, .int a1), (2, .int a2), (3, .int a3)]) (S' := [.int a2, .ref t0]) (by decide +kernel) rfl ?_
      refine sm_vcal [.int a2] [] rfl C mw_X8_isHome ml_8_89 rfl (ci := 8) rfl (ltX h0 (by decide)) h0 (by decide) ⟨by decide, by decide⟩ (Nat.le_of_ble_eq_true rfl) (by decide +kernel) (c_X8_isHome F t0 h0 a2 τ) (fun r7 τ8 => ?_)
      refine sm_ifeq 97 (off := 28) C (by decide +kernel) (by decide) (fun _ => ?_) (fun _ => ?_)
      · refine sm_seg C [(.iconst 0, 0)] (pc' := 98) (L' := [(0, .ref t0), (1, .int a1), (2, .int a2), (3, .int a3)]) (S' := [.int 0]) (by decide +kernel) rfl ?_
        exact sm_iret C hr rfl (by decide +kernel)
      · refine sm_seg C [(.aload_n 0, 0)] (pc' := 73) (L' := [(0, .ref t0), (1, .int a1), (2, .int a2), (3, .int a3)]) (S' := [.ref t0]) (by decide +kernel) rfl ?_
        refine sm_getR 8 16 (t0 + 10) cls8 C (ltX h0 (by decide)) h0 (obX8 h0) (by decide) (frX8_16 h0) fl8_61 (by decide +kernel) ?_
        refine sm_seg C [(.iload_n 2, 0)] (pc' := 77) (L' := [(0, .ref t0), (1, .int a1), (2, .int a2), (3, .int a3)]) (S' := [.int a2, .ref (t0 + 10)]) (by decide +kernel) rfl ?_
        refine sm_ald 14 C (ltX (krX8_16 h0) (by decide)) (krX8_16 h0) (nrX8_16 h0) (by decide +kernel) (fun v9 => ?_)
        refine sm_seg C [(.bipush 8, 8)] (pc' := 80) (L' := [(0, .ref t0), (1, .int a1), (2, .int a2), (3, .int a3)]) (S' := [.int 8, .int v9]) (by decide +kernel) rfl ?_
        refine sm_icmpge 97 (off := 17) C (by decide +kernel) (by decide) (fun _ => ?_) (fun _ => ?_)
        · refine sm_seg C [(.iconst 0, 0)] (pc' := 98) (L' := [(0, .ref t0), (1, .int a1), (2, .int a2), (3, .int a3)]) (S' := [.int 0]) (by decide +kernel) rfl ?_
          exact sm_iret C hr rfl (by decide +kernel)
        · refine sm_seg C [(.iload_n 3, 0), (.iconst 0, 0), (.bipush 11, 11)] (pc' := 87) (L' := [(0, .ref t0), (1, .int a1), (2, .int a2), (3, .int a3)]) (S' := [.int 11, .int 0, .int a3]) (by decide +kernel) rfl ?_
          refine sm_ncal "BasketEnvoys" [.int a3, .int 0, .int 11] [] rfl C mw_X10_within ml_8_78 rfl ⟨by decide, by decide⟩ (Nat.le_of_ble_eq_true rfl) (by decide +kernel) (c_X10_within F a3 0 11 τ8) (fun r10 τ11 => ?_)
          refine sm_ifeq 97 (off := 7) C (by decide +kernel) (by decide) (fun _ => ?_) (fun _ => ?_)
          · refine sm_seg C [(.iconst 0, 0)] (pc' := 98) (L' := [(0, .ref t0), (1, .int a1), (2, .int a2), (3, .int a3)]) (S' := [.int 0]) (by decide +kernel) rfl ?_
            exact sm_iret C hr rfl (by decide +kernel)
          · refine sm_seg C [(.iconst 1, 1), (.goto 4, 0)] (pc' := 98) (L' := [(0, .ref t0), (1, .int a1), (2, .int a2), (3, .int a3)]) (S' := [.int 1]) (by decide +kernel) rfl ?_
            exact sm_iret C hr rfl (by decide +kernel)
    refine sm_ite (fun e => ?_) (fun n1_3 => ?_)
    · refine sm_tabIn (off := 98) 99 C hd1 (by rw [e]; decide) (by rw [e]; decide) (by rw [e]; decide) (by decide) ?_
      refine sm_seg C [(.aload_n 0, 0), (.iload_n 2, 0)] (pc' := 101) (L' := [(0, .ref t0), (1, .int a1), (2, .int a2), (3, .int a3)]) (S' := [.int a2, .ref t0]) (by decide +kernel) rfl ?_
      refine sm_vcal [.int a2] [] rfl C mw_X8_isHome ml_8_89 rfl (ci := 8) rfl (ltX h0 (by decide)) h0 (by decide) ⟨by decide, by decide⟩ (Nat.le_of_ble_eq_true rfl) (by decide +kernel) (c_X8_isHome F t0 h0 a2 τ) (fun r12 τ13 => ?_)
      refine sm_ifeq 120 (off := 16) C (by decide +kernel) (by decide) (fun _ => ?_) (fun _ => ?_)
      · refine sm_seg C [(.iconst 0, 0)] (pc' := 121) (L' := [(0, .ref t0), (1, .int a1), (2, .int a2), (3, .int a3)]) (S' := [.int 0]) (by decide +kernel) rfl ?_
        exact sm_iret C hr rfl (by decide +kernel)
      · refine sm_seg C [(.aload_n 0, 0)] (pc' := 108) (L' := [(0, .ref t0), (1, .int a1), (2, .int a2), (3, .int a3)]) (S' := [.ref t0]) (by decide +kernel) rfl ?_
        refine sm_getR 8 16 (t0 + 10) cls8 C (ltX h0 (by decide)) h0 (obX8 h0) (by decide) (frX8_16 h0) fl8_61 (by decide +kernel) ?_
        refine sm_seg C [(.iload_n 2, 0)] (pc' := 112) (L' := [(0, .ref t0), (1, .int a1), (2, .int a2), (3, .int a3)]) (S' := [.int a2, .ref (t0 + 10)]) (by decide +kernel) rfl ?_
        refine sm_ald 14 C (ltX (krX8_16 h0) (by decide)) (krX8_16 h0) (nrX8_16 h0) (by decide +kernel) (fun v14 => ?_)
        refine sm_ifle 120 (off := 7) C (by decide +kernel) (by decide) (fun _ => ?_) (fun _ => ?_)
        · refine sm_seg C [(.iconst 0, 0)] (pc' := 121) (L' := [(0, .ref t0), (1, .int a1), (2, .int a2), (3, .int a3)]) (S' := [.int 0]) (by decide +kernel) rfl ?_
          exact sm_iret C hr rfl (by decide +kernel)
        · refine sm_seg C [(.iconst 1, 1), (.goto 4, 0)] (pc' := 121) (L' := [(0, .ref t0), (1, .int a1), (2, .int a2), (3, .int a3)]) (S' := [.int 1]) (by decide +kernel) rfl ?_
          exact sm_iret C hr rfl (by decide +kernel)
    refine sm_ite (fun e => ?_) (fun n1_4 => ?_)
    · refine sm_tabIn (off := 121) 122 C hd1 (by rw [e]; decide) (by rw [e]; decide) (by rw [e]; decide) (by decide) ?_
      refine sm_seg C [(.aload_n 0, 0), (.iload_n 2, 0)] (pc' := 124) (L' := [(0, .ref t0), (1, .int a1), (2, .int a2), (3, .int a3)]) (S' := [.int a2, .ref t0]) (by decide +kernel) rfl ?_
      refine sm_vcal [.int a2] [] rfl C mw_X8_isHome ml_8_89 rfl (ci := 8) rfl (ltX h0 (by decide)) h0 (by decide) ⟨by decide, by decide⟩ (Nat.le_of_ble_eq_true rfl) (by decide +kernel) (c_X8_isHome F t0 h0 a2 τ) (fun r15 τ16 => ?_)
      exact sm_iret C hr nar_boolean (by decide +kernel)
    refine sm_tabOut 128 C hd1 (by have q0 := toInt_neZ (z := 0) n1_0 (by decide); have q1 := toInt_neZ (z := 1) n1_1 (by decide); have q2 := toInt_neZ (z := 2) n1_2 (by decide); have q3 := toInt_neZ (z := 3) n1_3 (by decide); have q4 := toInt_neZ (z := 4) n1_4 (by decide); omega) (by decide) ?_
    refine sm_seg C [(.iconst 0, 0)] (pc' := 129) (L' := [(0, .ref t0), (1, .int a1), (2, .int a2), (3, .int a3)]) (S' := [.int 0]) (by decide +kernel) rfl ?_
    exact sm_iret C hr rfl (by decide +kernel)) h
/-! BasketEnvoys.copy -/
def X10_copy (F : Nat) (t0 : Nat) (t1 : Nat) (τ : Tau) : Option (Int32 × Tau) :=
  cpg τ t0 t1 (lnX t0) (lnX t1) (imin (Int32.ofNat (lnX t0)) (Int32.ofNat (lnX t1))) fun τ1 => some (0, τ1)
set_option maxRecDepth 20000 in
set_option maxHeartbeats 4000000 in
theorem c_X10_copy (F : Nat) (t0 : Nat) (t1 : Nat) (h0 : kdX t0 = 20) (h1 : kdX t1 = 20) (τ : Tau) (r : Int32) (τ' : Tau) (h : X10_copy F t0 t1 τ = some (r, τ')) : MCv sysX yX10_copy cX10_copy 2 1 [.ref t0, .ref t1] τ τ' :=
  mcv_of (by decide +kernel) (Nat.le_of_ble_eq_true rfl) (fun K C hr => by
    show Sm K sysX 2 (Qv K sysX) (X10_copy F t0 t1 τ) 0 [(0, .ref t0), (1, .ref t1)] [] τ
    unfold X10_copy
    refine sm_seg C [(.aload_n 0, 0), (.iconst 0, 0), (.aload_n 1, 0), (.iconst 0, 0), (.aload_n 0, 0)] (pc' := 5) (L' := [(0, .ref t0), (1, .ref t1)]) (S' := [.ref t0, .int 0, .ref t1, .int 0, .ref t0]) (by decide +kernel) rfl ?_
    refine sm_alen 20 0 (lnX t0) (fun _ => rfl) C (ltX h0 (by decide)) h0 (by decide) (by decide) rfl rfl (by decide +kernel) ?_
    refine sm_seg C [(.aload_n 1, 0)] (pc' := 7) (L' := [(0, .ref t0), (1, .ref t1)]) (S' := [.ref t1, .int (Int32.ofNat (lnX t0)), .int 0, .ref t1, .int 0, .ref t0]) (by decide +kernel) rfl ?_
    refine sm_alen 20 0 (lnX t1) (fun _ => rfl) C (ltX h1 (by decide)) h1 (by decide) (by decide) rfl rfl (by decide +kernel) ?_
    refine sm_min C (by decide) ml_10_430 jw_mins jw_math jw_minc (Nat.le_of_ble_eq_true rfl) (by decide +kernel) ?_
    refine sm_cpg t0 t1 (lnX t0) (lnX t1) C (by decide) (ltX h0 (by decide)) h0 rfl (ltX h1 (by decide)) h1 rfl ml_10_433 jw_acn jw_acs jw_sys (Nat.le_of_ble_eq_true rfl) (by decide +kernel) (fun τ1 => ?_)
    exact sm_vret C hr (by decide +kernel)) h
/-! BasketEnvoys_Town.copyFrom -/
def X8_copyFrom (F : Nat) (t0 : Nat) (t1 : Nat) (τ : Tau) : Option (Int32 × Tau) :=
  pst τ t0 0 (τ t1 0) fun τ1 => pst τ1 t0 1 (τ1 t1 1) fun τ2 => pst τ2 t0 2 (τ2 t1 2) fun τ3 => pst τ3 t0 3 (τ3 t1 3) fun τ4 => pst τ4 t0 4 (τ4 t1 4) fun τ5 => pst τ5 t0 5 (τ5 t1 5) fun τ6 => pst τ6 t0 6 (τ6 t1 6) fun τ7 => cal (X10_copy F (t1 + 1) (t0 + 1) τ7) fun r8 τ9 => cal (X10_copy F (t1 + 2) (t0 + 2) τ9) fun r10 τ11 => cal (X10_copy F (t1 + 3) (t0 + 3) τ11) fun r12 τ13 => cal (X10_copy F (t1 + 4) (t0 + 4) τ13) fun r14 τ15 => cal (X10_copy F (t1 + 5) (t0 + 5) τ15) fun r16 τ17 => cal (X10_copy F (t1 + 6) (t0 + 6) τ17) fun r18 τ19 => cal (X10_copy F (t1 + 7) (t0 + 7) τ19) fun r20 τ21 => cal (X10_copy F (t1 + 8) (t0 + 8) τ21) fun r22 τ23 => cal (X10_copy F (t1 + 9) (t0 + 9) τ23) fun r24 τ25 => cal (X10_copy F (t1 + 10) (t0 + 10) τ25) fun r26 τ27 => cal (X10_copy F (t1 + 11) (t0 + 11) τ27) fun r28 τ29 => cal (X10_copy F (t1 + 12) (t0 + 12) τ29) fun r30 τ31 => some (0, τ31)
set_option maxRecDepth 20000 in
set_option maxHeartbeats 4000000 in
theorem c_X8_copyFrom (F : Nat) (t0 : Nat) (t1 : Nat) (h0 : kdX t0 = 8) (h1 : kdX t1 = 8) (τ : Tau) (r : Int32) (τ' : Tau) (h : X8_copyFrom F t0 t1 τ = some (r, τ')) : MCv sysX yX8_copyFrom cX8_copyFrom 2 2 [.ref t0, .ref t1] τ τ' :=
  mcv_of (by decide +kernel) (Nat.le_of_ble_eq_true rfl) (fun K C hr => by
    show Sm K sysX 2 (Qv K sysX) (X8_copyFrom F t0 t1 τ) 0 [(0, .ref t0), (1, .ref t1)] [] τ
    unfold X8_copyFrom
    refine sm_seg C [(.aload_n 0, 0), (.aload_n 1, 0)] (pc' := 2) (L' := [(0, .ref t0), (1, .ref t1)]) (S' := [.ref t1, .ref t0]) (by decide +kernel) rfl ?_
    refine sm_getI 8 0 cls8 C (ltX h1 (by decide)) h1 (obX8 h1) (by decide) (fiX8_0 h1) fl8_9 (by decide +kernel) ?_
    refine sm_pst 8 0 cls8 C (ltX h0 (by decide)) h0 (obX8 h0) (by decide) (fiX8_0 h0) rfl rfl rfl fl8_9 (by decide +kernel) (fun τ1 => ?_)
    refine sm_seg C [(.aload_n 0, 0), (.aload_n 1, 0)] (pc' := 10) (L' := [(0, .ref t0), (1, .ref t1)]) (S' := [.ref t1, .ref t0]) (by decide +kernel) rfl ?_
    refine sm_getI 8 1 cls8 C (ltX h1 (by decide)) h1 (obX8 h1) (by decide) (fiX8_1 h1) fl8_15 (by decide +kernel) ?_
    refine sm_pst 8 1 cls8 C (ltX h0 (by decide)) h0 (obX8 h0) (by decide) (fiX8_1 h0) rfl rfl rfl fl8_15 (by decide +kernel) (fun τ2 => ?_)
    refine sm_seg C [(.aload_n 0, 0), (.aload_n 1, 0)] (pc' := 18) (L' := [(0, .ref t0), (1, .ref t1)]) (S' := [.ref t1, .ref t0]) (by decide +kernel) rfl ?_
    refine sm_getI 8 2 cls8 C (ltX h1 (by decide)) h1 (obX8 h1) (by decide) (fiX8_2 h1) fl8_18 (by decide +kernel) ?_
    refine sm_pst 8 2 cls8 C (ltX h0 (by decide)) h0 (obX8 h0) (by decide) (fiX8_2 h0) rfl rfl rfl fl8_18 (by decide +kernel) (fun τ3 => ?_)
    refine sm_seg C [(.aload_n 0, 0), (.aload_n 1, 0)] (pc' := 26) (L' := [(0, .ref t0), (1, .ref t1)]) (S' := [.ref t1, .ref t0]) (by decide +kernel) rfl ?_
    refine sm_getI 8 3 cls8 C (ltX h1 (by decide)) h1 (obX8 h1) (by decide) (fiX8_3 h1) fl8_21 (by decide +kernel) ?_
    refine sm_pst 8 3 cls8 C (ltX h0 (by decide)) h0 (obX8 h0) (by decide) (fiX8_3 h0) rfl rfl rfl fl8_21 (by decide +kernel) (fun τ4 => ?_)
    refine sm_seg C [(.aload_n 0, 0), (.aload_n 1, 0)] (pc' := 34) (L' := [(0, .ref t0), (1, .ref t1)]) (S' := [.ref t1, .ref t0]) (by decide +kernel) rfl ?_
    refine sm_getI 8 4 cls8 C (ltX h1 (by decide)) h1 (obX8 h1) (by decide) (fiX8_4 h1) fl8_24 (by decide +kernel) ?_
    refine sm_pst 8 4 cls8 C (ltX h0 (by decide)) h0 (obX8 h0) (by decide) (fiX8_4 h0) rfl rfl rfl fl8_24 (by decide +kernel) (fun τ5 => ?_)
    refine sm_seg C [(.aload_n 0, 0), (.aload_n 1, 0)] (pc' := 42) (L' := [(0, .ref t0), (1, .ref t1)]) (S' := [.ref t1, .ref t0]) (by decide +kernel) rfl ?_
    refine sm_getI 8 5 cls8 C (ltX h1 (by decide)) h1 (obX8 h1) (by decide) (fiX8_5 h1) fl8_27 (by decide +kernel) ?_
    refine sm_pst 8 5 cls8 C (ltX h0 (by decide)) h0 (obX8 h0) (by decide) (fiX8_5 h0) rfl rfl rfl fl8_27 (by decide +kernel) (fun τ6 => ?_)
    refine sm_seg C [(.aload_n 0, 0), (.aload_n 1, 0)] (pc' := 50) (L' := [(0, .ref t0), (1, .ref t1)]) (S' := [.ref t1, .ref t0]) (by decide +kernel) rfl ?_
    refine sm_getI 8 6 cls8 C (ltX h1 (by decide)) h1 (obX8 h1) (by decide) (fiX8_6 h1) fl8_30 (by decide +kernel) ?_
    refine sm_pst 8 6 cls8 C (ltX h0 (by decide)) h0 (obX8 h0) (by decide) (fiX8_6 h0) rfl rfl rfl fl8_30 (by decide +kernel) (fun τ7 => ?_)
    refine sm_seg C [(.aload_n 1, 0)] (pc' := 57) (L' := [(0, .ref t0), (1, .ref t1)]) (S' := [.ref t1]) (by decide +kernel) rfl ?_
    refine sm_getR 8 7 (t1 + 1) cls8 C (ltX h1 (by decide)) h1 (obX8 h1) (by decide) (frX8_7 h1) fl8_33 (by decide +kernel) ?_
    refine sm_seg C [(.aload_n 0, 0)] (pc' := 61) (L' := [(0, .ref t0), (1, .ref t1)]) (S' := [.ref t0, .ref (t1 + 1)]) (by decide +kernel) rfl ?_
    refine sm_getR 8 7 (t0 + 1) cls8 C (ltX h0 (by decide)) h0 (obX8 h0) (by decide) (frX8_7 h0) fl8_33 (by decide +kernel) ?_
    refine sm_ncalv "BasketEnvoys" [.ref (t1 + 1), .ref (t0 + 1)] [] rfl C mw_X10_copy ml_8_70 rfl ⟨by decide, by decide⟩ (Nat.le_of_ble_eq_true rfl) (by decide +kernel) (c_X10_copy F (t1 + 1) (t0 + 1) (krX8_7 h1) (krX8_7 h0) τ7) (fun r8 τ9 => ?_)
    refine sm_seg C [(.aload_n 1, 0)] (pc' := 68) (L' := [(0, .ref t0), (1, .ref t1)]) (S' := [.ref t1]) (by decide +kernel) rfl ?_
    refine sm_getR 8 8 (t1 + 2) cls8 C (ltX h1 (by decide)) h1 (obX8 h1) (by decide) (frX8_8 h1) fl8_37 (by decide +kernel) ?_
    refine sm_seg C [(.aload_n 0, 0)] (pc' := 72) (L' := [(0, .ref t0), (1, .ref t1)]) (S' := [.ref t0, .ref (t1 + 2)]) (by decide +kernel) rfl ?_
    refine sm_getR 8 8 (t0 + 2) cls8 C (ltX h0 (by decide)) h0 (obX8 h0) (by decide) (frX8_8 h0) fl8_37 (by decide +kernel) ?_
    refine sm_ncalv "BasketEnvoys" [.ref (t1 + 2), .ref (t0 + 2)] [] rfl C mw_X10_copy ml_8_70 rfl ⟨by decide, by decide⟩ (Nat.le_of_ble_eq_true rfl) (by decide +kernel) (c_X10_copy F (t1 + 2) (t0 + 2) (krX8_8 h1) (krX8_8 h0) τ9) (fun r10 τ11 => ?_)
    refine sm_seg C [(.aload_n 1, 0)] (pc' := 79) (L' := [(0, .ref t0), (1, .ref t1)]) (S' := [.ref t1]) (by decide +kernel) rfl ?_
    refine sm_getR 8 9 (t1 + 3) cls8 C (ltX h1 (by decide)) h1 (obX8 h1) (by decide) (frX8_9 h1) fl8_40 (by decide +kernel) ?_
    refine sm_seg C [(.aload_n 0, 0)] (pc' := 83) (L' := [(0, .ref t0), (1, .ref t1)]) (S' := [.ref t0, .ref (t1 + 3)]) (by decide +kernel) rfl ?_
    refine sm_getR 8 9 (t0 + 3) cls8 C (ltX h0 (by decide)) h0 (obX8 h0) (by decide) (frX8_9 h0) fl8_40 (by decide +kernel) ?_
    refine sm_ncalv "BasketEnvoys" [.ref (t1 + 3), .ref (t0 + 3)] [] rfl C mw_X10_copy ml_8_70 rfl ⟨by decide, by decide⟩ (Nat.le_of_ble_eq_true rfl) (by decide +kernel) (c_X10_copy F (t1 + 3) (t0 + 3) (krX8_9 h1) (krX8_9 h0) τ11) (fun r12 τ13 => ?_)
    refine sm_seg C [(.aload_n 1, 0)] (pc' := 90) (L' := [(0, .ref t0), (1, .ref t1)]) (S' := [.ref t1]) (by decide +kernel) rfl ?_
    refine sm_getR 8 10 (t1 + 4) cls8 C (ltX h1 (by decide)) h1 (obX8 h1) (by decide) (frX8_10 h1) fl8_43 (by decide +kernel) ?_
    refine sm_seg C [(.aload_n 0, 0)] (pc' := 94) (L' := [(0, .ref t0), (1, .ref t1)]) (S' := [.ref t0, .ref (t1 + 4)]) (by decide +kernel) rfl ?_
    refine sm_getR 8 10 (t0 + 4) cls8 C (ltX h0 (by decide)) h0 (obX8 h0) (by decide) (frX8_10 h0) fl8_43 (by decide +kernel) ?_
    refine sm_ncalv "BasketEnvoys" [.ref (t1 + 4), .ref (t0 + 4)] [] rfl C mw_X10_copy ml_8_70 rfl ⟨by decide, by decide⟩ (Nat.le_of_ble_eq_true rfl) (by decide +kernel) (c_X10_copy F (t1 + 4) (t0 + 4) (krX8_10 h1) (krX8_10 h0) τ13) (fun r14 τ15 => ?_)
    refine sm_seg C [(.aload_n 1, 0)] (pc' := 101) (L' := [(0, .ref t0), (1, .ref t1)]) (S' := [.ref t1]) (by decide +kernel) rfl ?_
    refine sm_getR 8 11 (t1 + 5) cls8 C (ltX h1 (by decide)) h1 (obX8 h1) (by decide) (frX8_11 h1) fl8_46 (by decide +kernel) ?_
    refine sm_seg C [(.aload_n 0, 0)] (pc' := 105) (L' := [(0, .ref t0), (1, .ref t1)]) (S' := [.ref t0, .ref (t1 + 5)]) (by decide +kernel) rfl ?_
    refine sm_getR 8 11 (t0 + 5) cls8 C (ltX h0 (by decide)) h0 (obX8 h0) (by decide) (frX8_11 h0) fl8_46 (by decide +kernel) ?_
    refine sm_ncalv "BasketEnvoys" [.ref (t1 + 5), .ref (t0 + 5)] [] rfl C mw_X10_copy ml_8_70 rfl ⟨by decide, by decide⟩ (Nat.le_of_ble_eq_true rfl) (by decide +kernel) (c_X10_copy F (t1 + 5) (t0 + 5) (krX8_11 h1) (krX8_11 h0) τ15) (fun r16 τ17 => ?_)
    refine sm_seg C [(.aload_n 1, 0)] (pc' := 112) (L' := [(0, .ref t0), (1, .ref t1)]) (S' := [.ref t1]) (by decide +kernel) rfl ?_
    refine sm_getR 8 12 (t1 + 6) cls8 C (ltX h1 (by decide)) h1 (obX8 h1) (by decide) (frX8_12 h1) fl8_49 (by decide +kernel) ?_
    refine sm_seg C [(.aload_n 0, 0)] (pc' := 116) (L' := [(0, .ref t0), (1, .ref t1)]) (S' := [.ref t0, .ref (t1 + 6)]) (by decide +kernel) rfl ?_
    refine sm_getR 8 12 (t0 + 6) cls8 C (ltX h0 (by decide)) h0 (obX8 h0) (by decide) (frX8_12 h0) fl8_49 (by decide +kernel) ?_
    refine sm_ncalv "BasketEnvoys" [.ref (t1 + 6), .ref (t0 + 6)] [] rfl C mw_X10_copy ml_8_70 rfl ⟨by decide, by decide⟩ (Nat.le_of_ble_eq_true rfl) (by decide +kernel) (c_X10_copy F (t1 + 6) (t0 + 6) (krX8_12 h1) (krX8_12 h0) τ17) (fun r18 τ19 => ?_)
    refine sm_seg C [(.aload_n 1, 0)] (pc' := 123) (L' := [(0, .ref t0), (1, .ref t1)]) (S' := [.ref t1]) (by decide +kernel) rfl ?_
    refine sm_getR 8 13 (t1 + 7) cls8 C (ltX h1 (by decide)) h1 (obX8 h1) (by decide) (frX8_13 h1) fl8_52 (by decide +kernel) ?_
    refine sm_seg C [(.aload_n 0, 0)] (pc' := 127) (L' := [(0, .ref t0), (1, .ref t1)]) (S' := [.ref t0, .ref (t1 + 7)]) (by decide +kernel) rfl ?_
    refine sm_getR 8 13 (t0 + 7) cls8 C (ltX h0 (by decide)) h0 (obX8 h0) (by decide) (frX8_13 h0) fl8_52 (by decide +kernel) ?_
    refine sm_ncalv "BasketEnvoys" [.ref (t1 + 7), .ref (t0 + 7)] [] rfl C mw_X10_copy ml_8_70 rfl ⟨by decide, by decide⟩ (Nat.le_of_ble_eq_true rfl) (by decide +kernel) (c_X10_copy F (t1 + 7) (t0 + 7) (krX8_13 h1) (krX8_13 h0) τ19) (fun r20 τ21 => ?_)
    refine sm_seg C [(.aload_n 1, 0)] (pc' := 134) (L' := [(0, .ref t0), (1, .ref t1)]) (S' := [.ref t1]) (by decide +kernel) rfl ?_
    refine sm_getR 8 14 (t1 + 8) cls8 C (ltX h1 (by decide)) h1 (obX8 h1) (by decide) (frX8_14 h1) fl8_55 (by decide +kernel) ?_
    refine sm_seg C [(.aload_n 0, 0)] (pc' := 138) (L' := [(0, .ref t0), (1, .ref t1)]) (S' := [.ref t0, .ref (t1 + 8)]) (by decide +kernel) rfl ?_
    refine sm_getR 8 14 (t0 + 8) cls8 C (ltX h0 (by decide)) h0 (obX8 h0) (by decide) (frX8_14 h0) fl8_55 (by decide +kernel) ?_
    refine sm_ncalv "BasketEnvoys" [.ref (t1 + 8), .ref (t0 + 8)] [] rfl C mw_X10_copy ml_8_70 rfl ⟨by decide, by decide⟩ (Nat.le_of_ble_eq_true rfl) (by decide +kernel) (c_X10_copy F (t1 + 8) (t0 + 8) (krX8_14 h1) (krX8_14 h0) τ21) (fun r22 τ23 => ?_)
    refine sm_seg C [(.aload_n 1, 0)] (pc' := 145) (L' := [(0, .ref t0), (1, .ref t1)]) (S' := [.ref t1]) (by decide +kernel) rfl ?_
    refine sm_getR 8 15 (t1 + 9) cls8 C (ltX h1 (by decide)) h1 (obX8 h1) (by decide) (frX8_15 h1) fl8_58 (by decide +kernel) ?_
    refine sm_seg C [(.aload_n 0, 0)] (pc' := 149) (L' := [(0, .ref t0), (1, .ref t1)]) (S' := [.ref t0, .ref (t1 + 9)]) (by decide +kernel) rfl ?_
    refine sm_getR 8 15 (t0 + 9) cls8 C (ltX h0 (by decide)) h0 (obX8 h0) (by decide) (frX8_15 h0) fl8_58 (by decide +kernel) ?_
    refine sm_ncalv "BasketEnvoys" [.ref (t1 + 9), .ref (t0 + 9)] [] rfl C mw_X10_copy ml_8_70 rfl ⟨by decide, by decide⟩ (Nat.le_of_ble_eq_true rfl) (by decide +kernel) (c_X10_copy F (t1 + 9) (t0 + 9) (krX8_15 h1) (krX8_15 h0) τ23) (fun r24 τ25 => ?_)
    refine sm_seg C [(.aload_n 1, 0)] (pc' := 156) (L' := [(0, .ref t0), (1, .ref t1)]) (S' := [.ref t1]) (by decide +kernel) rfl ?_
    refine sm_getR 8 16 (t1 + 10) cls8 C (ltX h1 (by decide)) h1 (obX8 h1) (by decide) (frX8_16 h1) fl8_61 (by decide +kernel) ?_
    refine sm_seg C [(.aload_n 0, 0)] (pc' := 160) (L' := [(0, .ref t0), (1, .ref t1)]) (S' := [.ref t0, .ref (t1 + 10)]) (by decide +kernel) rfl ?_
    refine sm_getR 8 16 (t0 + 10) cls8 C (ltX h0 (by decide)) h0 (obX8 h0) (by decide) (frX8_16 h0) fl8_61 (by decide +kernel) ?_
    refine sm_ncalv "BasketEnvoys" [.ref (t1 + 10), .ref (t0 + 10)] [] rfl C mw_X10_copy ml_8_70 rfl ⟨by decide, by decide⟩ (Nat.le_of_ble_eq_true rfl) (by decide +kernel) (c_X10_copy F (t1 + 10) (t0 + 10) (krX8_16 h1) (krX8_16 h0) τ25) (fun r26 τ27 => ?_)
    refine sm_seg C [(.aload_n 1, 0)] (pc' := 167) (L' := [(0, .ref t0), (1, .ref t1)]) (S' := [.ref t1]) (by decide +kernel) rfl ?_
    refine sm_getR 8 17 (t1 + 11) cls8 C (ltX h1 (by decide)) h1 (obX8 h1) (by decide) (frX8_17 h1) fl8_64 (by decide +kernel) ?_
    refine sm_seg C [(.aload_n 0, 0)] (pc' := 171) (L' := [(0, .ref t0), (1, .ref t1)]) (S' := [.ref t0, .ref (t1 + 11)]) (by decide +kernel) rfl ?_
    refine sm_getR 8 17 (t0 + 11) cls8 C (ltX h0 (by decide)) h0 (obX8 h0) (by decide) (frX8_17 h0) fl8_64 (by decide +kernel) ?_
    refine sm_ncalv "BasketEnvoys" [.ref (t1 + 11), .ref (t0 + 11)] [] rfl C mw_X10_copy ml_8_70 rfl ⟨by decide, by decide⟩ (Nat.le_of_ble_eq_true rfl) (by decide +kernel) (c_X10_copy F (t1 + 11) (t0 + 11) (krX8_17 h1) (krX8_17 h0) τ27) (fun r28 τ29 => ?_)
    refine sm_seg C [(.aload_n 1, 0)] (pc' := 178) (L' := [(0, .ref t0), (1, .ref t1)]) (S' := [.ref t1]) (by decide +kernel) rfl ?_
    refine sm_getR 8 18 (t1 + 12) cls8 C (ltX h1 (by decide)) h1 (obX8 h1) (by decide) (frX8_18 h1) fl8_67 (by decide +kernel) ?_
    refine sm_seg C [(.aload_n 0, 0)] (pc' := 182) (L' := [(0, .ref t0), (1, .ref t1)]) (S' := [.ref t0, .ref (t1 + 12)]) (by decide +kernel) rfl ?_
    refine sm_getR 8 18 (t0 + 12) cls8 C (ltX h0 (by decide)) h0 (obX8 h0) (by decide) (frX8_18 h0) fl8_67 (by decide +kernel) ?_
    refine sm_ncalv "BasketEnvoys" [.ref (t1 + 12), .ref (t0 + 12)] [] rfl C mw_X10_copy ml_8_70 rfl ⟨by decide, by decide⟩ (Nat.le_of_ble_eq_true rfl) (by decide +kernel) (c_X10_copy F (t1 + 12) (t0 + 12) (krX8_18 h1) (krX8_18 h0) τ29) (fun r30 τ31 => ?_)
    exact sm_vret C hr (by decide +kernel)) h
/-! BasketEnvoys_History.keep -/
def X1_keep (F : Nat) (t1 : Nat) (τ : Tau) : Option (Int32 × Tau) :=
  gd (τ 116 1) 6 (cal (X8_copyFrom F (118 + 13 * ix (τ 116 1)) t1 τ) fun r2 τ3 => pst τ3 116 1 (rmd ((τ3 116 1) + 1) 6) fun τ4 => pst τ4 116 0 (imin 6 ((τ4 116 0) + 1)) fun τ5 => some (0, τ5))
set_option maxRecDepth 20000 in
set_option maxHeartbeats 4000000 in
theorem c_X1_keep (F : Nat) (t1 : Nat) (h1 : kdX t1 = 8) (τ : Tau) (r : Int32) (τ' : Tau) (h : X1_keep F t1 τ = some (r, τ')) : MCv sysX yX1_keep cX1_keep 3 3 [.ref 116, .ref t1] τ τ' :=
  mcv_of (by decide +kernel) (Nat.le_of_ble_eq_true rfl) (fun K C hr => by
    show Sm K sysX 3 (Qv K sysX) (X1_keep F t1 τ) 0 [(0, .ref 116), (1, .ref t1)] [] τ
    unfold X1_keep
    refine sm_seg C [(.aload_n 0, 0), (.aload_n 0, 0)] (pc' := 2) (L' := [(0, .ref 116), (1, .ref t1)]) (S' := [.ref 116, .ref 116]) (by decide +kernel) rfl ?_
    refine sm_getI 1 1 cls1 C (ltX (by decide +kernel : kdX 116 = 1) (by decide)) (by decide +kernel : kdX 116 = 1) (obX1 (by decide +kernel : kdX 116 = 1)) (by decide) (fiX1_1 (by decide +kernel : kdX 116 = 1)) fl1_15 (by decide +kernel) ?_
    refine sm_townAt [] C ml_1_25 ⟨by decide, by decide⟩ (Nat.le_of_ble_eq_true rfl) (by decide +kernel) (fun g1 => ?_)
    refine sm_seg C [(.astore_n 2, 0), (.aload_n 2, 0)] (pc' := 10) (L' := [(2, .ref (118 + 13 * ix (τ 116 1))), (0, .ref 116), (1, .ref t1)]) (S' := [.ref (118 + 13 * ix (τ 116 1))]) (by decide +kernel) rfl ?_
    refine sm_ifnull (off := 36) C (by decide +kernel) ?_
    refine sm_seg C [(.aload_n 2, 0), (.aload_n 1, 0)] (pc' := 15) (L' := [(2, .ref (118 + 13 * ix (τ 116 1))), (0, .ref 116), (1, .ref t1)]) (S' := [.ref t1, .ref (118 + 13 * ix (τ 116 1))]) (by decide +kernel) rfl ?_
    refine sm_vcalv [.ref t1] [] rfl C mw_X8_copyFrom ml_1_29 rfl (ci := 8) rfl (ltX (tw_kd g1) (by decide)) (tw_kd g1) (by decide) ⟨by decide, by decide⟩ (Nat.le_of_ble_eq_true rfl) (by decide +kernel) (c_X8_copyFrom F (118 + 13 * ix (τ 116 1)) t1 (tw_kd g1) h1 τ) (fun r2 τ3 => ?_)
    refine sm_seg C [(.aload_n 0, 0), (.aload_n 0, 0)] (pc' := 20) (L' := [(2, .ref (118 + 13 * ix (τ 116 1))), (0, .ref 116), (1, .ref t1)]) (S' := [.ref 116, .ref 116]) (by decide +kernel) rfl ?_
    refine sm_getI 1 1 cls1 C (ltX (by decide +kernel : kdX 116 = 1) (by decide)) (by decide +kernel : kdX 116 = 1) (obX1 (by decide +kernel : kdX 116 = 1)) (by decide) (fiX1_1 (by decide +kernel : kdX 116 = 1)) fl1_15 (by decide +kernel) ?_
    refine sm_seg C [(.iconst 1, 1), (.iadd, 0), (.bipush 6, 6)] (pc' := 27) (L' := [(2, .ref (118 + 13 * ix (τ 116 1))), (0, .ref 116), (1, .ref t1)]) (S' := [.int 6, .int ((τ3 116 1) + 1), .ref 116]) (by decide +kernel) rfl ?_
    refine sm_irem C (by decide +kernel) (by decide) ?_
    refine sm_pst 1 1 cls1 C (ltX (by decide +kernel : kdX 116 = 1) (by decide)) (by decide +kernel : kdX 116 = 1) (obX1 (by decide +kernel : kdX 116 = 1)) (by decide) (fiX1_1 (by decide +kernel : kdX 116 = 1)) rfl rfl rfl fl1_15 (by decide +kernel) (fun τ4 => ?_)
    refine sm_seg C [(.aload_n 0, 0), (.bipush 6, 6), (.aload_n 0, 0)] (pc' := 35) (L' := [(2, .ref (118 + 13 * ix (τ 116 1))), (0, .ref 116), (1, .ref t1)]) (S' := [.ref 116, .int 6, .ref 116]) (by decide +kernel) rfl ?_
    refine sm_getI 1 0 cls1 C (ltX (by decide +kernel : kdX 116 = 1) (by decide)) (by decide +kernel : kdX 116 = 1) (obX1 (by decide +kernel : kdX 116 = 1)) (by decide) (fiX1_0 (by decide +kernel : kdX 116 = 1)) fl1_9 (by decide +kernel) ?_
    refine sm_seg C [(.iconst 1, 1), (.iadd, 0)] (pc' := 40) (L' := [(2, .ref (118 + 13 * ix (τ 116 1))), (0, .ref 116), (1, .ref t1)]) (S' := [.int ((τ4 116 0) + 1), .int 6, .ref 116]) (by decide +kernel) rfl ?_
    refine sm_min C (by decide) ml_1_33 jw_mins jw_math jw_minc (Nat.le_of_ble_eq_true rfl) (by decide +kernel) ?_
    refine sm_pst 1 0 cls1 C (ltX (by decide +kernel : kdX 116 = 1) (by decide)) (by decide +kernel : kdX 116 = 1) (obX1 (by decide +kernel : kdX 116 = 1)) (by decide) (fiX1_0 (by decide +kernel : kdX 116 = 1)) rfl rfl rfl fl1_9 (by decide +kernel) (fun τ5 => ?_)
    exact sm_vret C hr (by decide +kernel)) h
/-! BasketEnvoys_World.write -/
def X9_write (F : Nat) (t0 : Nat) (a1 : Int32) (a2 : Int32) (a3 : Int32) (τ : Tau) : Option (Int32 × Tau) :=
  if 150 ≤ (τ (t0 + 1) 6) then (some (0, τ)) else (if (4 * (τ (t0 + 1) 6)) < 0 then (some (0, τ)) else (if 600 ≤ ((4 * (τ (t0 + 1) 6)) + 3) then (some (0, τ)) else (ast τ (t0 + 45) 600 (4 * (τ (t0 + 1) 6)) (τ (t0 + 1) 4) fun τ1 => ast τ1 (t0 + 45) 600 ((4 * (τ (t0 + 1) 6)) + 1) a1 fun τ2 => ast τ2 (t0 + 45) 600 ((4 * (τ (t0 + 1) 6)) + 2) a2 fun τ3 => ast τ3 (t0 + 45) 600 ((4 * (τ (t0 + 1) 6)) + 3) a3 fun τ4 => pst τ4 (t0 + 1) 6 ((τ4 (t0 + 1) 6) + 1) fun τ5 => some (0, τ5))))
set_option maxRecDepth 20000 in
set_option maxHeartbeats 4000000 in
theorem c_X9_write (F : Nat) (t0 : Nat) (h0 : kdX t0 = 9) (a1 : Int32) (a2 : Int32) (a3 : Int32) (τ : Tau) (r : Int32) (τ' : Tau) (h : X9_write F t0 a1 a2 a3 τ = some (r, τ')) : MCv sysX yX9_write cX9_write 5 1 [.ref t0, .int a1, .int a2, .int a3] τ τ' :=
  mcv_of (by decide +kernel) (Nat.le_of_ble_eq_true rfl) (fun K C hr => by
    show Sm K sysX 5 (Qv K sysX) (X9_write F t0 a1 a2 a3 τ) 0 [(0, .ref t0), (1, .int a1), (2, .int a2), (3, .int a3)] [] τ
    unfold X9_write
    refine sm_seg C [(.iconst 4, 4), (.aload_n 0, 0)] (pc' := 2) (L' := [(0, .ref t0), (1, .int a1), (2, .int a2), (3, .int a3)]) (S' := [.ref t0, .int 4]) (by decide +kernel) rfl ?_
    refine sm_getR 9 0 (t0 + 1) cls9 C (ltX h0 (by decide)) h0 (obX9 h0) (by decide) (frX9_0 h0) fl9_12 (by decide +kernel) ?_
    refine sm_getI 8 6 cls8 C (ltX (krX9_0 h0) (by decide)) (krX9_0 h0) (obX8 (krX9_0 h0)) (by decide) (fiX8_6 (krX9_0 h0)) fl9_94 (by decide +kernel) ?_
    refine sm_seg C [(.imul, 0), (.istore 4, 0), (.aload_n 0, 0)] (pc' := 12) (L' := [(4, .int (4 * (τ (t0 + 1) 6))), (0, .ref t0), (1, .int a1), (2, .int a2), (3, .int a3)]) (S' := [.ref t0]) (by decide +kernel) rfl ?_
    refine sm_getR 9 0 (t0 + 1) cls9 C (ltX h0 (by decide)) h0 (obX9 h0) (by decide) (frX9_0 h0) fl9_12 (by decide +kernel) ?_
    refine sm_getI 8 6 cls8 C (ltX (krX9_0 h0) (by decide)) (krX9_0 h0) (obX8 (krX9_0 h0)) (by decide) (fiX8_6 (krX9_0 h0)) fl9_94 (by decide +kernel) ?_
    refine sm_seg C [(.sipush 150, 150)] (pc' := 21) (L' := [(4, .int (4 * (τ (t0 + 1) 6))), (0, .ref t0), (1, .int a1), (2, .int a2), (3, .int a3)]) (S' := [.int 150, .int (τ (t0 + 1) 6)]) (by decide +kernel) rfl ?_
    refine sm_icmpge 98 (off := 77) C (by decide +kernel) (by decide) (fun _ => ?_) (fun _ => ?_)
    · exact sm_vret C hr (by decide +kernel)
    · refine sm_seg C [(.iload 4, 0)] (pc' := 26) (L' := [(4, .int (4 * (τ (t0 + 1) 6))), (0, .ref t0), (1, .int a1), (2, .int a2), (3, .int a3)]) (S' := [.int (4 * (τ (t0 + 1) 6))]) (by decide +kernel) rfl ?_
      refine sm_iflt 98 (off := 72) C (by decide +kernel) (by decide) (fun _ => ?_) (fun _ => ?_)
      · exact sm_vret C hr (by decide +kernel)
      · refine sm_seg C [(.iload 4, 0), (.iconst 3, 3), (.iadd, 0), (.aload_n 0, 0)] (pc' := 34) (L' := [(4, .int (4 * (τ (t0 + 1) 6))), (0, .ref t0), (1, .int a1), (2, .int a2), (3, .int a3)]) (S' := [.ref t0, .int ((4 * (τ (t0 + 1) 6)) + 3)]) (by decide +kernel) rfl ?_
        refine sm_getR 9 3 (t0 + 45) cls9 C (ltX h0 (by decide)) h0 (obX9 h0) (by decide) (frX9_3 h0) fl9_32 (by decide +kernel) ?_
        refine sm_alen 20 0 600 (fun _ => rfl) C (ltX (krX9_3 h0) (by decide)) (krX9_3 h0) (by decide) (by decide) (nrX9_3 h0) rfl (by decide +kernel) ?_
        refine sm_icmpge 98 (off := 60) C (by decide +kernel) (by decide) (fun _ => ?_) (fun _ => ?_)
        · exact sm_vret C hr (by decide +kernel)
        · refine sm_seg C [(.aload_n 0, 0)] (pc' := 42) (L' := [(4, .int (4 * (τ (t0 + 1) 6))), (0, .ref t0), (1, .int a1), (2, .int a2), (3, .int a3)]) (S' := [.ref t0]) (by decide +kernel) rfl ?_
          refine sm_getR 9 3 (t0 + 45) cls9 C (ltX h0 (by decide)) h0 (obX9 h0) (by decide) (frX9_3 h0) fl9_32 (by decide +kernel) ?_
          refine sm_seg C [(.iload 4, 0), (.aload_n 0, 0)] (pc' := 48) (L' := [(4, .int (4 * (τ (t0 + 1) 6))), (0, .ref t0), (1, .int a1), (2, .int a2), (3, .int a3)]) (S' := [.ref t0, .int (4 * (τ (t0 + 1) 6)), .ref (t0 + 45)]) (by decide +kernel) rfl ?_
          refine sm_getR 9 0 (t0 + 1) cls9 C (ltX h0 (by decide)) h0 (obX9 h0) (by decide) (frX9_0 h0) fl9_12 (by decide +kernel) ?_
          refine sm_getI 8 4 cls8 C (ltX (krX9_0 h0) (by decide)) (krX9_0 h0) (obX8 (krX9_0 h0)) (by decide) (fiX8_4 (krX9_0 h0)) fl9_98 (by decide +kernel) ?_
          refine sm_ast 600 C (ltX (krX9_3 h0) (by decide)) (krX9_3 h0) (nrX9_3 h0) (by decide +kernel) (fun τ1 => ?_)
          refine sm_seg C [(.aload_n 0, 0)] (pc' := 56) (L' := [(4, .int (4 * (τ (t0 + 1) 6))), (0, .ref t0), (1, .int a1), (2, .int a2), (3, .int a3)]) (S' := [.ref t0]) (by decide +kernel) rfl ?_
          refine sm_getR 9 3 (t0 + 45) cls9 C (ltX h0 (by decide)) h0 (obX9 h0) (by decide) (frX9_3 h0) fl9_32 (by decide +kernel) ?_
          refine sm_seg C [(.iload 4, 0), (.iconst 1, 1), (.iadd, 0), (.iload_n 1, 0)] (pc' := 64) (L' := [(4, .int (4 * (τ (t0 + 1) 6))), (0, .ref t0), (1, .int a1), (2, .int a2), (3, .int a3)]) (S' := [.int a1, .int ((4 * (τ (t0 + 1) 6)) + 1), .ref (t0 + 45)]) (by decide +kernel) rfl ?_
          refine sm_ast 600 C (ltX (krX9_3 h0) (by decide)) (krX9_3 h0) (nrX9_3 h0) (by decide +kernel) (fun τ2 => ?_)
          refine sm_seg C [(.aload_n 0, 0)] (pc' := 66) (L' := [(4, .int (4 * (τ (t0 + 1) 6))), (0, .ref t0), (1, .int a1), (2, .int a2), (3, .int a3)]) (S' := [.ref t0]) (by decide +kernel) rfl ?_
          refine sm_getR 9 3 (t0 + 45) cls9 C (ltX h0 (by decide)) h0 (obX9 h0) (by decide) (frX9_3 h0) fl9_32 (by decide +kernel) ?_
          refine sm_seg C [(.iload 4, 0), (.iconst 2, 2), (.iadd, 0), (.iload_n 2, 0)] (pc' := 74) (L' := [(4, .int (4 * (τ (t0 + 1) 6))), (0, .ref t0), (1, .int a1), (2, .int a2), (3, .int a3)]) (S' := [.int a2, .int ((4 * (τ (t0 + 1) 6)) + 2), .ref (t0 + 45)]) (by decide +kernel) rfl ?_
          refine sm_ast 600 C (ltX (krX9_3 h0) (by decide)) (krX9_3 h0) (nrX9_3 h0) (by decide +kernel) (fun τ3 => ?_)
          refine sm_seg C [(.aload_n 0, 0)] (pc' := 76) (L' := [(4, .int (4 * (τ (t0 + 1) 6))), (0, .ref t0), (1, .int a1), (2, .int a2), (3, .int a3)]) (S' := [.ref t0]) (by decide +kernel) rfl ?_
          refine sm_getR 9 3 (t0 + 45) cls9 C (ltX h0 (by decide)) h0 (obX9 h0) (by decide) (frX9_3 h0) fl9_32 (by decide +kernel) ?_
          refine sm_seg C [(.iload 4, 0), (.iconst 3, 3), (.iadd, 0), (.iload_n 3, 0)] (pc' := 84) (L' := [(4, .int (4 * (τ (t0 + 1) 6))), (0, .ref t0), (1, .int a1), (2, .int a2), (3, .int a3)]) (S' := [.int a3, .int ((4 * (τ (t0 + 1) 6)) + 3), .ref (t0 + 45)]) (by decide +kernel) rfl ?_
          refine sm_ast 600 C (ltX (krX9_3 h0) (by decide)) (krX9_3 h0) (nrX9_3 h0) (by decide +kernel) (fun τ4 => ?_)
          refine sm_seg C [(.aload_n 0, 0)] (pc' := 86) (L' := [(4, .int (4 * (τ (t0 + 1) 6))), (0, .ref t0), (1, .int a1), (2, .int a2), (3, .int a3)]) (S' := [.ref t0]) (by decide +kernel) rfl ?_
          refine sm_getR 9 0 (t0 + 1) cls9 C (ltX h0 (by decide)) h0 (obX9 h0) (by decide) (frX9_0 h0) fl9_12 (by decide +kernel) ?_
          refine sm_seg C [(.dup, 0)] (pc' := 90) (L' := [(4, .int (4 * (τ (t0 + 1) 6))), (0, .ref t0), (1, .int a1), (2, .int a2), (3, .int a3)]) (S' := [.ref (t0 + 1), .ref (t0 + 1)]) (by decide +kernel) rfl ?_
          refine sm_getI 8 6 cls8 C (ltX (krX9_0 h0) (by decide)) (krX9_0 h0) (obX8 (krX9_0 h0)) (by decide) (fiX8_6 (krX9_0 h0)) fl9_94 (by decide +kernel) ?_
          refine sm_seg C [(.iconst 1, 1), (.iadd, 0)] (pc' := 95) (L' := [(4, .int (4 * (τ (t0 + 1) 6))), (0, .ref t0), (1, .int a1), (2, .int a2), (3, .int a3)]) (S' := [.int ((τ4 (t0 + 1) 6) + 1), .ref (t0 + 1)]) (by decide +kernel) rfl ?_
          refine sm_pst 8 6 cls8 C (ltX (krX9_0 h0) (by decide)) (krX9_0 h0) (obX8 (krX9_0 h0)) (by decide) (fiX8_6 (krX9_0 h0)) rfl rfl rfl fl9_94 (by decide +kernel) (fun τ5 => ?_)
          exact sm_vret C hr (by decide +kernel)) h
/-! BasketEnvoys_Course.sendTo -/
def X0_sendTo (F : Nat) (t1 : Nat) (a2 : Int32) (a3 : Int32) (a4 : Int32) (τ : Tau) : Option (Int32 × Tau) :=
  cal (X8_isHome F t1 a2 τ) fun r1 τ2 => if r1 = 0 then (some (0, τ2)) else (ast τ2 (t1 + 8) 14 a2 a3 fun τ3 => ast τ3 (t1 + 11) 14 a2 0 fun τ4 => if a4 = 0 then (some (0, τ4)) else (cal (X9_write F 1 0 a2 a3 τ4) fun r5 τ6 => some (0, τ6)))
set_option maxRecDepth 20000 in
set_option maxHeartbeats 4000000 in
theorem c_X0_sendTo (F : Nat) (t1 : Nat) (h1 : kdX t1 = 8) (a2 : Int32) (a3 : Int32) (a4 : Int32) (τ : Tau) (r : Int32) (τ' : Tau) (h : X0_sendTo F t1 a2 a3 a4 τ = some (r, τ')) : MCv sysX yX0_sendTo cX0_sendTo 5 3 [.ref 211, .ref t1, .int a2, .int a3, .int a4] τ τ' :=
  mcv_of (by decide +kernel) (Nat.le_of_ble_eq_true rfl) (fun K C hr => by
    show Sm K sysX 5 (Qv K sysX) (X0_sendTo F t1 a2 a3 a4 τ) 0 [(0, .ref 211), (1, .ref t1), (2, .int a2), (3, .int a3), (4, .int a4)] [] τ
    unfold X0_sendTo
    refine sm_seg C [(.aload_n 1, 0), (.iload_n 2, 0)] (pc' := 2) (L' := [(0, .ref 211), (1, .ref t1), (2, .int a2), (3, .int a3), (4, .int a4)]) (S' := [.int a2, .ref t1]) (by decide +kernel) rfl ?_
    refine sm_vcal [.int a2] [] rfl C mw_X8_isHome ml_0_81 rfl (ci := 8) rfl (ltX h1 (by decide)) h1 (by decide) ⟨by decide, by decide⟩ (Nat.le_of_ble_eq_true rfl) (by decide +kernel) (c_X8_isHome F t1 h1 a2 τ) (fun r1 τ2 => ?_)
    refine sm_ifeq 37 (off := 32) C (by decide +kernel) (by decide) (fun _ => ?_) (fun _ => ?_)
    · exact sm_vret C hr (by decide +kernel)
    · refine sm_seg C [(.aload_n 1, 0)] (pc' := 9) (L' := [(0, .ref 211), (1, .ref t1), (2, .int a2), (3, .int a3), (4, .int a4)]) (S' := [.ref t1]) (by decide +kernel) rfl ?_
      refine sm_getR 8 14 (t1 + 8) cls8 C (ltX h1 (by decide)) h1 (obX8 h1) (by decide) (frX8_14 h1) fl0_84 (by decide +kernel) ?_
      refine sm_seg C [(.iload_n 2, 0), (.iload_n 3, 0)] (pc' := 14) (L' := [(0, .ref 211), (1, .ref t1), (2, .int a2), (3, .int a3), (4, .int a4)]) (S' := [.int a3, .int a2, .ref (t1 + 8)]) (by decide +kernel) rfl ?_
      refine sm_ast 14 C (ltX (krX8_14 h1) (by decide)) (krX8_14 h1) (nrX8_14 h1) (by decide +kernel) (fun τ3 => ?_)
      refine sm_seg C [(.aload_n 1, 0)] (pc' := 16) (L' := [(0, .ref 211), (1, .ref t1), (2, .int a2), (3, .int a3), (4, .int a4)]) (S' := [.ref t1]) (by decide +kernel) rfl ?_
      refine sm_getR 8 17 (t1 + 11) cls8 C (ltX h1 (by decide)) h1 (obX8 h1) (by decide) (frX8_17 h1) fl0_87 (by decide +kernel) ?_
      refine sm_seg C [(.iload_n 2, 0), (.iconst 0, 0)] (pc' := 21) (L' := [(0, .ref 211), (1, .ref t1), (2, .int a2), (3, .int a3), (4, .int a4)]) (S' := [.int 0, .int a2, .ref (t1 + 11)]) (by decide +kernel) rfl ?_
      refine sm_ast 14 C (ltX (krX8_17 h1) (by decide)) (krX8_17 h1) (nrX8_17 h1) (by decide +kernel) (fun τ4 => ?_)
      refine sm_seg C [(.iload 4, 0)] (pc' := 24) (L' := [(0, .ref 211), (1, .ref t1), (2, .int a2), (3, .int a3), (4, .int a4)]) (S' := [.int a4]) (by decide +kernel) rfl ?_
      refine sm_ifeq 37 (off := 13) C (by decide +kernel) (by decide) (fun _ => ?_) (fun _ => ?_)
      · exact sm_vret C hr (by decide +kernel)
      · refine sm_seg C [(.aload_n 0, 0)] (pc' := 28) (L' := [(0, .ref 211), (1, .ref t1), (2, .int a2), (3, .int a3), (4, .int a4)]) (S' := [.ref 211]) (by decide +kernel) rfl ?_
        refine sm_getR 0 0 1 cls0 C (ltX (by decide +kernel : kdX 211 = 0) (by decide)) (by decide +kernel : kdX 211 = 0) (obX0 (by decide +kernel : kdX 211 = 0)) (by decide) (frX0_0 (by decide +kernel : kdX 211 = 0)) fl0_15 (by decide +kernel) ?_
        refine sm_seg C [(.iconst 0, 0), (.iload_n 2, 0), (.iload_n 3, 0)] (pc' := 34) (L' := [(0, .ref 211), (1, .ref t1), (2, .int a2), (3, .int a3), (4, .int a4)]) (S' := [.int a3, .int a2, .int 0, .ref 1]) (by decide +kernel) rfl ?_
        refine sm_vcalv [.int 0, .int a2, .int a3] [] rfl C mw_X9_write ml_0_90 rfl (ci := 9) rfl (ltX (krX0_0 (by decide +kernel : kdX 211 = 0)) (by decide)) (krX0_0 (by decide +kernel : kdX 211 = 0)) (by decide) ⟨by decide, by decide⟩ (Nat.le_of_ble_eq_true rfl) (by decide +kernel) (c_X9_write F 1 (krX0_0 (by decide +kernel : kdX 211 = 0)) 0 a2 a3 τ4) (fun r5 τ6 => ?_)
        exact sm_vret C hr (by decide +kernel)) h
/-! BasketEnvoys_Course.goHome -/
def X0_goHome (F : Nat) (t1 : Nat) (a2 : Int32) (a3 : Int32) (τ : Tau) : Option (Int32 × Tau) :=
  cal (X8_isAway F t1 a2 τ) fun r1 τ2 => if r1 = 0 then (some (0, τ2)) else (ast τ2 (t1 + 8) 14 a2 (-1) fun τ3 => if a3 = 0 then (some (0, τ3)) else (ald τ3 (t1 + 11) 14 a2 fun v4 => cal (X9_write F 1 5 a2 v4 τ3) fun r5 τ6 => some (0, τ6)))
set_option maxRecDepth 20000 in
set_option maxHeartbeats 4000000 in
theorem c_X0_goHome (F : Nat) (t1 : Nat) (h1 : kdX t1 = 8) (a2 : Int32) (a3 : Int32) (τ : Tau) (r : Int32) (τ' : Tau) (h : X0_goHome F t1 a2 a3 τ = some (r, τ')) : MCv sysX yX0_goHome cX0_goHome 4 3 [.ref 211, .ref t1, .int a2, .int a3] τ τ' :=
  mcv_of (by decide +kernel) (Nat.le_of_ble_eq_true rfl) (fun K C hr => by
    show Sm K sysX 4 (Qv K sysX) (X0_goHome F t1 a2 a3 τ) 0 [(0, .ref 211), (1, .ref t1), (2, .int a2), (3, .int a3)] [] τ
    unfold X0_goHome
    refine sm_seg C [(.aload_n 1, 0), (.iload_n 2, 0)] (pc' := 2) (L' := [(0, .ref 211), (1, .ref t1), (2, .int a2), (3, .int a3)]) (S' := [.int a2, .ref t1]) (by decide +kernel) rfl ?_
    refine sm_vcal [.int a2] [] rfl C mw_X8_isAway ml_0_67 rfl (ci := 8) rfl (ltX h1 (by decide)) h1 (by decide) ⟨by decide, by decide⟩ (Nat.le_of_ble_eq_true rfl) (by decide +kernel) (c_X8_isAway F t1 h1 a2 τ) (fun r1 τ2 => ?_)
    refine sm_ifeq 34 (off := 29) C (by decide +kernel) (by decide) (fun _ => ?_) (fun _ => ?_)
    · exact sm_vret C hr (by decide +kernel)
    · refine sm_seg C [(.aload_n 1, 0)] (pc' := 9) (L' := [(0, .ref 211), (1, .ref t1), (2, .int a2), (3, .int a3)]) (S' := [.ref t1]) (by decide +kernel) rfl ?_
      refine sm_getR 8 14 (t1 + 8) cls8 C (ltX h1 (by decide)) h1 (obX8 h1) (by decide) (frX8_14 h1) fl0_84 (by decide +kernel) ?_
      refine sm_seg C [(.iload_n 2, 0), (.iconst (-1), (-1))] (pc' := 14) (L' := [(0, .ref 211), (1, .ref t1), (2, .int a2), (3, .int a3)]) (S' := [.int (-1), .int a2, .ref (t1 + 8)]) (by decide +kernel) rfl ?_
      refine sm_ast 14 C (ltX (krX8_14 h1) (by decide)) (krX8_14 h1) (nrX8_14 h1) (by decide +kernel) (fun τ3 => ?_)
      refine sm_seg C [(.iload_n 3, 0)] (pc' := 16) (L' := [(0, .ref 211), (1, .ref t1), (2, .int a2), (3, .int a3)]) (S' := [.int a3]) (by decide +kernel) rfl ?_
      refine sm_ifeq 34 (off := 18) C (by decide +kernel) (by decide) (fun _ => ?_) (fun _ => ?_)
      · exact sm_vret C hr (by decide +kernel)
      · refine sm_seg C [(.aload_n 0, 0)] (pc' := 20) (L' := [(0, .ref 211), (1, .ref t1), (2, .int a2), (3, .int a3)]) (S' := [.ref 211]) (by decide +kernel) rfl ?_
        refine sm_getR 0 0 1 cls0 C (ltX (by decide +kernel : kdX 211 = 0) (by decide)) (by decide +kernel : kdX 211 = 0) (obX0 (by decide +kernel : kdX 211 = 0)) (by decide) (frX0_0 (by decide +kernel : kdX 211 = 0)) fl0_15 (by decide +kernel) ?_
        refine sm_seg C [(.iconst 5, 5), (.iload_n 2, 0), (.aload_n 1, 0)] (pc' := 26) (L' := [(0, .ref 211), (1, .ref t1), (2, .int a2), (3, .int a3)]) (S' := [.ref t1, .int a2, .int 5, .ref 1]) (by decide +kernel) rfl ?_
        refine sm_getR 8 17 (t1 + 11) cls8 C (ltX h1 (by decide)) h1 (obX8 h1) (by decide) (frX8_17 h1) fl0_87 (by decide +kernel) ?_
        refine sm_seg C [(.iload_n 2, 0)] (pc' := 30) (L' := [(0, .ref 211), (1, .ref t1), (2, .int a2), (3, .int a3)]) (S' := [.int a2, .ref (t1 + 11), .int a2, .int 5, .ref 1]) (by decide +kernel) rfl ?_
        refine sm_ald 14 C (ltX (krX8_17 h1) (by decide)) (krX8_17 h1) (nrX8_17 h1) (by decide +kernel) (fun v4 => ?_)
        refine sm_vcalv [.int 5, .int a2, .int v4] [] rfl C mw_X9_write ml_0_90 rfl (ci := 9) rfl (ltX (krX0_0 (by decide +kernel : kdX 211 = 0)) (by decide)) (krX0_0 (by decide +kernel : kdX 211 = 0)) (by decide) ⟨by decide, by decide⟩ (Nat.le_of_ble_eq_true rfl) (by decide +kernel) (c_X9_write F 1 (krX0_0 (by decide +kernel : kdX 211 = 0)) 5 a2 v4 τ3) (fun r5 τ6 => ?_)
        exact sm_vret C hr (by decide +kernel)) h
/-! BasketEnvoys_Town.putThing -/
def X8_putThing (F : Nat) (t0 : Nat) (a1 : Int32) (a2 : Int32) (τ : Tau) : Option (Int32 × Tau) :=
  cal (X8_hasMute F t0 a1 τ) fun r1 τ2 => if r1 = 0 then (some (0, τ2)) else (ald τ2 (t0 + 10) 14 a1 fun v3 => cal (X10_within F v3 0 7 τ2) fun r4 τ5 => if r4 = 0 then (some (0, τ5)) else (ald τ5 (t0 + 10) 14 a1 fun v6 => ast τ5 (t0 + 12) 112 ((8 * a1) + v6) a2 fun τ7 => ald τ7 (t0 + 10) 14 a1 fun v8 => ast τ7 (t0 + 10) 14 a1 (v8 + 1) fun τ9 => some (0, τ9)))
set_option maxRecDepth 20000 in
set_option maxHeartbeats 4000000 in
theorem c_X8_putThing (F : Nat) (t0 : Nat) (h0 : kdX t0 = 8) (a1 : Int32) (a2 : Int32) (τ : Tau) (r : Int32) (τ' : Tau) (h : X8_putThing F t0 a1 a2 τ = some (r, τ')) : MCv sysX yX8_putThing cX8_putThing 3 2 [.ref t0, .int a1, .int a2] τ τ' :=
  mcv_of (by decide +kernel) (Nat.le_of_ble_eq_true rfl) (fun K C hr => by
    show Sm K sysX 3 (Qv K sysX) (X8_putThing F t0 a1 a2 τ) 0 [(0, .ref t0), (1, .int a1), (2, .int a2)] [] τ
    unfold X8_putThing
    refine sm_seg C [(.aload_n 0, 0), (.iload_n 1, 0)] (pc' := 2) (L' := [(0, .ref t0), (1, .int a1), (2, .int a2)]) (S' := [.int a1, .ref t0]) (by decide +kernel) rfl ?_
    refine sm_vcal [.int a1] [] rfl C mw_X8_hasMute ml_8_86 rfl (ci := 8) rfl (ltX h0 (by decide)) h0 (by decide) ⟨by decide, by decide⟩ (Nat.le_of_ble_eq_true rfl) (by decide +kernel) (c_X8_hasMute F t0 h0 a1 τ) (fun r1 τ2 => ?_)
    refine sm_ifeq 50 (off := 45) C (by decide +kernel) (by decide) (fun _ => ?_) (fun _ => ?_)
    · exact sm_vret C hr (by decide +kernel)
    · refine sm_seg C [(.aload_n 0, 0)] (pc' := 9) (L' := [(0, .ref t0), (1, .int a1), (2, .int a2)]) (S' := [.ref t0]) (by decide +kernel) rfl ?_
      refine sm_getR 8 16 (t0 + 10) cls8 C (ltX h0 (by decide)) h0 (obX8 h0) (by decide) (frX8_16 h0) fl8_61 (by decide +kernel) ?_
      refine sm_seg C [(.iload_n 1, 0)] (pc' := 13) (L' := [(0, .ref t0), (1, .int a1), (2, .int a2)]) (S' := [.int a1, .ref (t0 + 10)]) (by decide +kernel) rfl ?_
      refine sm_ald 14 C (ltX (krX8_16 h0) (by decide)) (krX8_16 h0) (nrX8_16 h0) (by decide +kernel) (fun v3 => ?_)
      refine sm_seg C [(.iconst 0, 0), (.bipush 7, 7)] (pc' := 17) (L' := [(0, .ref t0), (1, .int a1), (2, .int a2)]) (S' := [.int 7, .int 0, .int v3]) (by decide +kernel) rfl ?_
      refine sm_ncal "BasketEnvoys" [.int v3, .int 0, .int 7] [] rfl C mw_X10_within ml_8_78 rfl ⟨by decide, by decide⟩ (Nat.le_of_ble_eq_true rfl) (by decide +kernel) (c_X10_within F v3 0 7 τ2) (fun r4 τ5 => ?_)
      refine sm_ifeq 50 (off := 30) C (by decide +kernel) (by decide) (fun _ => ?_) (fun _ => ?_)
      · exact sm_vret C hr (by decide +kernel)
      · refine sm_seg C [(.aload_n 0, 0)] (pc' := 24) (L' := [(0, .ref t0), (1, .int a1), (2, .int a2)]) (S' := [.ref t0]) (by decide +kernel) rfl ?_
        refine sm_getR 8 18 (t0 + 12) cls8 C (ltX h0 (by decide)) h0 (obX8 h0) (by decide) (frX8_18 h0) fl8_67 (by decide +kernel) ?_
        refine sm_seg C [(.bipush 8, 8), (.iload_n 1, 0), (.imul, 0), (.aload_n 0, 0)] (pc' := 32) (L' := [(0, .ref t0), (1, .int a1), (2, .int a2)]) (S' := [.ref t0, .int (8 * a1), .ref (t0 + 12)]) (by decide +kernel) rfl ?_
        refine sm_getR 8 16 (t0 + 10) cls8 C (ltX h0 (by decide)) h0 (obX8 h0) (by decide) (frX8_16 h0) fl8_61 (by decide +kernel) ?_
        refine sm_seg C [(.iload_n 1, 0)] (pc' := 36) (L' := [(0, .ref t0), (1, .int a1), (2, .int a2)]) (S' := [.int a1, .ref (t0 + 10), .int (8 * a1), .ref (t0 + 12)]) (by decide +kernel) rfl ?_
        refine sm_ald 14 C (ltX (krX8_16 h0) (by decide)) (krX8_16 h0) (nrX8_16 h0) (by decide +kernel) (fun v6 => ?_)
        refine sm_seg C [(.iadd, 0), (.iload_n 2, 0)] (pc' := 39) (L' := [(0, .ref t0), (1, .int a1), (2, .int a2)]) (S' := [.int a2, .int ((8 * a1) + v6), .ref (t0 + 12)]) (by decide +kernel) rfl ?_
        refine sm_ast 112 C (ltX (krX8_18 h0) (by decide)) (krX8_18 h0) (nrX8_18 h0) (by decide +kernel) (fun τ7 => ?_)
        refine sm_seg C [(.aload_n 0, 0)] (pc' := 41) (L' := [(0, .ref t0), (1, .int a1), (2, .int a2)]) (S' := [.ref t0]) (by decide +kernel) rfl ?_
        refine sm_getR 8 16 (t0 + 10) cls8 C (ltX h0 (by decide)) h0 (obX8 h0) (by decide) (frX8_16 h0) fl8_61 (by decide +kernel) ?_
        refine sm_seg C [(.iload_n 1, 0), (.dup2, 0)] (pc' := 46) (L' := [(0, .ref t0), (1, .int a1), (2, .int a2)]) (S' := [.int a1, .ref (t0 + 10), .int a1, .ref (t0 + 10)]) (by decide +kernel) rfl ?_
        refine sm_ald 14 C (ltX (krX8_16 h0) (by decide)) (krX8_16 h0) (nrX8_16 h0) (by decide +kernel) (fun v8 => ?_)
        refine sm_seg C [(.iconst 1, 1), (.iadd, 0)] (pc' := 49) (L' := [(0, .ref t0), (1, .int a1), (2, .int a2)]) (S' := [.int (v8 + 1), .int a1, .ref (t0 + 10)]) (by decide +kernel) rfl ?_
        refine sm_ast 14 C (ltX (krX8_16 h0) (by decide)) (krX8_16 h0) (nrX8_16 h0) (by decide +kernel) (fun τ9 => ?_)
        exact sm_vret C hr (by decide +kernel)) h
/-! BasketEnvoys.put -/
def X10_put (F : Nat) (t0 : Nat) (a1 : Int32) (a2 : Int32) (a3 : Int32) (τ : Tau) : Option (Int32 × Tau) :=
  if a3 = 0 then (some (0, τ)) else (if a1 < 0 then (some (0, τ)) else (if a1 < (Int32.ofNat (lnX t0)) then (ast τ t0 (lnX t0) a1 a2 fun τ1 => some (1, τ1)) else (some (0, τ))))
set_option maxRecDepth 20000 in
set_option maxHeartbeats 4000000 in
theorem c_X10_put (F : Nat) (t0 : Nat) (h0 : kdX t0 = 20) (a1 : Int32) (a2 : Int32) (a3 : Int32) (τ : Tau) (r : Int32) (τ' : Tau) (h : X10_put F t0 a1 a2 a3 τ = some (r, τ')) : MCi sysX yX10_put cX10_put 4 (some .boolean) 1 [.ref t0, .int a1, .int a2, .int a3] τ r τ' :=
  mci_of (by decide +kernel) (Nat.le_of_ble_eq_true rfl) (fun K C hr => by
    show Sm K sysX 4 (Qi K sysX) (X10_put F t0 a1 a2 a3 τ) 0 [(0, .ref t0), (1, .int a1), (2, .int a2), (3, .int a3)] [] τ
    unfold X10_put
    refine sm_seg C [(.iload_n 3, 0)] (pc' := 1) (L' := [(0, .ref t0), (1, .int a1), (2, .int a2), (3, .int a3)]) (S' := [.int a3]) (by decide +kernel) rfl ?_
    refine sm_ifeq 14 (off := 13) C (by decide +kernel) (by decide) (fun _ => ?_) (fun _ => ?_)
    · refine sm_seg C [(.iconst 0, 0)] (pc' := 15) (L' := [(0, .ref t0), (1, .int a1), (2, .int a2), (3, .int a3)]) (S' := [.int 0]) (by decide +kernel) rfl ?_
      exact sm_iret C hr rfl (by decide +kernel)
    · refine sm_seg C [(.iload_n 1, 0)] (pc' := 5) (L' := [(0, .ref t0), (1, .int a1), (2, .int a2), (3, .int a3)]) (S' := [.int a1]) (by decide +kernel) rfl ?_
      refine sm_iflt 14 (off := 9) C (by decide +kernel) (by decide) (fun _ => ?_) (fun _ => ?_)
      · refine sm_seg C [(.iconst 0, 0)] (pc' := 15) (L' := [(0, .ref t0), (1, .int a1), (2, .int a2), (3, .int a3)]) (S' := [.int 0]) (by decide +kernel) rfl ?_
        exact sm_iret C hr rfl (by decide +kernel)
      · refine sm_seg C [(.iload_n 1, 0), (.aload_n 0, 0)] (pc' := 10) (L' := [(0, .ref t0), (1, .int a1), (2, .int a2), (3, .int a3)]) (S' := [.ref t0, .int a1]) (by decide +kernel) rfl ?_
        refine sm_alen 20 0 (lnX t0) (fun _ => rfl) C (ltX h0 (by decide)) h0 (by decide) (by decide) rfl rfl (by decide +kernel) ?_
        refine sm_icmplt 16 (off := 5) C (by decide +kernel) (by decide) (fun _ => ?_) (fun _ => ?_)
        · refine sm_seg C [(.aload_n 0, 0), (.iload_n 1, 0), (.iload_n 2, 0)] (pc' := 19) (L' := [(0, .ref t0), (1, .int a1), (2, .int a2), (3, .int a3)]) (S' := [.int a2, .int a1, .ref t0]) (by decide +kernel) rfl ?_
          refine sm_ast (lnX t0) C (ltX h0 (by decide)) h0 rfl (by decide +kernel) (fun τ1 => ?_)
          refine sm_seg C [(.iconst 1, 1)] (pc' := 21) (L' := [(0, .ref t0), (1, .int a1), (2, .int a2), (3, .int a3)]) (S' := [.int 1]) (by decide +kernel) rfl ?_
          exact sm_iret C hr rfl (by decide +kernel)
        · refine sm_seg C [(.iconst 0, 0)] (pc' := 15) (L' := [(0, .ref t0), (1, .int a1), (2, .int a2), (3, .int a3)]) (S' := [.int 0]) (by decide +kernel) rfl ?_
          exact sm_iret C hr rfl (by decide +kernel)) h
/-! BasketEnvoys_Town.thingOf -/
def X8_thingOf_j33 (F : Nat) (t0 : Nat) (a1 : Int32) (a2 : Int32) (z0 : Int32) (τ : Tau) : Option (Int32 × Tau) :=
  if z0 = 0 then (some ((-1), τ)) else (ald τ (t0 + 12) 112 ((8 * a1) + a2) fun v3 => some (v3, τ))
theorem s_X8_thingOf_j33 (F : Nat) (t0 : Nat) {K : Ctx} (C : Cx K sysX RX8 cX8_thingOf 4 2) (hr : Rt K (some .int)) (h0 : kdX t0 = 8) (a1 : Int32) (a2 : Int32) (z0 : Int32) (τ : Tau) : Sm K sysX 4 (Qi K sysX) (X8_thingOf_j33 F t0 a1 a2 z0 τ) 33 [(0, .ref t0), (1, .int a1), (2, .int a2)] [.int z0] τ := by
  unfold X8_thingOf_j33
  refine sm_seg C [(.istore_n 3, 0), (.iload_n 3, 0)] (pc' := 35) (L' := [(3, .int z0), (0, .ref t0), (1, .int a1), (2, .int a2)]) (S' := [.int z0]) (by decide +kernel) rfl ?_
  refine sm_ifeq 52 (off := 17) C (by decide +kernel) (by decide) (fun _ => ?_) (fun _ => ?_)
  · refine sm_seg C [(.iconst (-1), (-1))] (pc' := 53) (L' := [(3, .int z0), (0, .ref t0), (1, .int a1), (2, .int a2)]) (S' := [.int (-1)]) (by decide +kernel) rfl ?_
    exact sm_iret C hr rfl (by decide +kernel)
  · refine sm_seg C [(.aload_n 0, 0)] (pc' := 39) (L' := [(3, .int z0), (0, .ref t0), (1, .int a1), (2, .int a2)]) (S' := [.ref t0]) (by decide +kernel) rfl ?_
    refine sm_getR 8 18 (t0 + 12) cls8 C (ltX h0 (by decide)) h0 (obX8 h0) (by decide) (frX8_18 h0) fl8_67 (by decide +kernel) ?_
    refine sm_seg C [(.bipush 8, 8), (.iload_n 1, 0), (.imul, 0), (.iload_n 2, 0), (.iadd, 0)] (pc' := 48) (L' := [(3, .int z0), (0, .ref t0), (1, .int a1), (2, .int a2)]) (S' := [.int ((8 * a1) + a2), .ref (t0 + 12)]) (by decide +kernel) rfl ?_
    refine sm_ald 112 C (ltX (krX8_18 h0) (by decide)) (krX8_18 h0) (nrX8_18 h0) (by decide +kernel) (fun v3 => ?_)
    refine sm_seg C [(.goto 4, 0)] (pc' := 53) (L' := [(3, .int z0), (0, .ref t0), (1, .int a1), (2, .int a2)]) (S' := [.int v3]) (by decide +kernel) rfl ?_
    exact sm_iret C hr rfl (by decide +kernel)
def X8_thingOf_j32 (F : Nat) (t0 : Nat) (a1 : Int32) (a2 : Int32) (τ : Tau) : Option (Int32 × Tau) :=
  X8_thingOf_j33 F t0 a1 a2 0 τ
theorem s_X8_thingOf_j32 (F : Nat) (t0 : Nat) {K : Ctx} (C : Cx K sysX RX8 cX8_thingOf 4 2) (hr : Rt K (some .int)) (h0 : kdX t0 = 8) (a1 : Int32) (a2 : Int32) (τ : Tau) : Sm K sysX 4 (Qi K sysX) (X8_thingOf_j32 F t0 a1 a2 τ) 32 [(0, .ref t0), (1, .int a1), (2, .int a2)] [] τ := by
  unfold X8_thingOf_j32
  refine sm_seg C [(.iconst 0, 0)] (pc' := 33) (L' := [(0, .ref t0), (1, .int a1), (2, .int a2)]) (S' := [.int 0]) (by decide +kernel) rfl ?_
  exact sm_sub [0, 1, 2] rfl (s_X8_thingOf_j33 F t0 C hr h0 a1 a2 0 τ)
def X8_thingOf (F : Nat) (t0 : Nat) (a1 : Int32) (a2 : Int32) (τ : Tau) : Option (Int32 × Tau) :=
  cal (X8_hasMute F t0 a1 τ) fun r1 τ2 => if r1 = 0 then (X8_thingOf_j32 F t0 a1 a2 τ2) else (cal (X10_within F a2 0 7 τ2) fun r4 τ5 => if r4 = 0 then (X8_thingOf_j32 F t0 a1 a2 τ5) else (ald τ5 (t0 + 10) 14 a1 fun v6 => if v6 ≤ a2 then (X8_thingOf_j32 F t0 a1 a2 τ5) else (X8_thingOf_j33 F t0 a1 a2 1 τ5)))
set_option maxRecDepth 20000 in
set_option maxHeartbeats 4000000 in
theorem c_X8_thingOf (F : Nat) (t0 : Nat) (h0 : kdX t0 = 8) (a1 : Int32) (a2 : Int32) (τ : Tau) (r : Int32) (τ' : Tau) (h : X8_thingOf F t0 a1 a2 τ = some (r, τ')) : MCi sysX yX8_thingOf cX8_thingOf 4 (some .int) 2 [.ref t0, .int a1, .int a2] τ r τ' :=
  mci_of (by decide +kernel) (Nat.le_of_ble_eq_true rfl) (fun K C hr => by
    show Sm K sysX 4 (Qi K sysX) (X8_thingOf F t0 a1 a2 τ) 0 [(0, .ref t0), (1, .int a1), (2, .int a2)] [] τ
    unfold X8_thingOf
    refine sm_seg C [(.aload_n 0, 0), (.iload_n 1, 0)] (pc' := 2) (L' := [(0, .ref t0), (1, .int a1), (2, .int a2)]) (S' := [.int a1, .ref t0]) (by decide +kernel) rfl ?_
    refine sm_vcal [.int a1] [] rfl C mw_X8_hasMute ml_8_86 rfl (ci := 8) rfl (ltX h0 (by decide)) h0 (by decide) ⟨by decide, by decide⟩ (Nat.le_of_ble_eq_true rfl) (by decide +kernel) (c_X8_hasMute F t0 h0 a1 τ) (fun r1 τ2 => ?_)
    refine sm_ifeq 32 (off := 27) C (by decide +kernel) (by decide) (fun _ => ?_) (fun _ => ?_)
    · exact sm_sub [0, 1, 2] rfl (s_X8_thingOf_j32 F t0 C hr h0 a1 a2 τ2)
    · refine sm_seg C [(.iload_n 2, 0), (.iconst 0, 0), (.bipush 7, 7)] (pc' := 12) (L' := [(0, .ref t0), (1, .int a1), (2, .int a2)]) (S' := [.int 7, .int 0, .int a2]) (by decide +kernel) rfl ?_
      refine sm_ncal "BasketEnvoys" [.int a2, .int 0, .int 7] [] rfl C mw_X10_within ml_8_78 rfl ⟨by decide, by decide⟩ (Nat.le_of_ble_eq_true rfl) (by decide +kernel) (c_X10_within F a2 0 7 τ2) (fun r4 τ5 => ?_)
      refine sm_ifeq 32 (off := 17) C (by decide +kernel) (by decide) (fun _ => ?_) (fun _ => ?_)
      · exact sm_sub [0, 1, 2] rfl (s_X8_thingOf_j32 F t0 C hr h0 a1 a2 τ5)
      · refine sm_seg C [(.iload_n 2, 0), (.aload_n 0, 0)] (pc' := 20) (L' := [(0, .ref t0), (1, .int a1), (2, .int a2)]) (S' := [.ref t0, .int a2]) (by decide +kernel) rfl ?_
        refine sm_getR 8 16 (t0 + 10) cls8 C (ltX h0 (by decide)) h0 (obX8 h0) (by decide) (frX8_16 h0) fl8_61 (by decide +kernel) ?_
        refine sm_seg C [(.iload_n 1, 0)] (pc' := 24) (L' := [(0, .ref t0), (1, .int a1), (2, .int a2)]) (S' := [.int a1, .ref (t0 + 10), .int a2]) (by decide +kernel) rfl ?_
        refine sm_ald 14 C (ltX (krX8_16 h0) (by decide)) (krX8_16 h0) (nrX8_16 h0) (by decide +kernel) (fun v6 => ?_)
        refine sm_icmpge 32 (off := 7) C (by decide +kernel) (by decide) (fun _ => ?_) (fun _ => ?_)
        · exact sm_sub [0, 1, 2] rfl (s_X8_thingOf_j32 F t0 C hr h0 a1 a2 τ5)
        · refine sm_seg C [(.iconst 1, 1), (.goto 4, 0)] (pc' := 33) (L' := [(0, .ref t0), (1, .int a1), (2, .int a2)]) (S' := [.int 1]) (by decide +kernel) rfl ?_
          exact sm_sub [0, 1, 2] rfl (s_X8_thingOf_j33 F t0 C hr h0 a1 a2 1 τ5)) h
/-! BasketEnvoys_Town.nextThing -/
def X8_nextThing (F : Nat) (t0 : Nat) (a1 : Int32) (τ : Tau) : Option (Int32 × Tau) :=
  cal (X8_hasMute F t0 a1 τ) fun r1 τ2 => if r1 = 0 then (some ((-1), τ2)) else (ald τ2 (t0 + 11) 14 a1 fun v3 => cal (X8_thingOf F t0 a1 v3 τ2) fun r4 τ5 => some (r4, τ5))
set_option maxRecDepth 20000 in
set_option maxHeartbeats 4000000 in
theorem c_X8_nextThing (F : Nat) (t0 : Nat) (h0 : kdX t0 = 8) (a1 : Int32) (τ : Tau) (r : Int32) (τ' : Tau) (h : X8_nextThing F t0 a1 τ = some (r, τ')) : MCi sysX yX8_nextThing cX8_nextThing 2 (some .int) 3 [.ref t0, .int a1] τ r τ' :=
  mci_of (by decide +kernel) (Nat.le_of_ble_eq_true rfl) (fun K C hr => by
    show Sm K sysX 2 (Qi K sysX) (X8_nextThing F t0 a1 τ) 0 [(0, .ref t0), (1, .int a1)] [] τ
    unfold X8_nextThing
    refine sm_seg C [(.aload_n 0, 0), (.iload_n 1, 0)] (pc' := 2) (L' := [(0, .ref t0), (1, .int a1)]) (S' := [.int a1, .ref t0]) (by decide +kernel) rfl ?_
    refine sm_vcal [.int a1] [] rfl C mw_X8_hasMute ml_8_86 rfl (ci := 8) rfl (ltX h0 (by decide)) h0 (by decide) ⟨by decide, by decide⟩ (Nat.le_of_ble_eq_true rfl) (by decide +kernel) (c_X8_hasMute F t0 h0 a1 τ) (fun r1 τ2 => ?_)
    refine sm_ifeq 22 (off := 17) C (by decide +kernel) (by decide) (fun _ => ?_) (fun _ => ?_)
    · refine sm_seg C [(.iconst (-1), (-1))] (pc' := 23) (L' := [(0, .ref t0), (1, .int a1)]) (S' := [.int (-1)]) (by decide +kernel) rfl ?_
      exact sm_iret C hr rfl (by decide +kernel)
    · refine sm_seg C [(.aload_n 0, 0), (.iload_n 1, 0), (.aload_n 0, 0)] (pc' := 11) (L' := [(0, .ref t0), (1, .int a1)]) (S' := [.ref t0, .int a1, .ref t0]) (by decide +kernel) rfl ?_
      refine sm_getR 8 17 (t0 + 11) cls8 C (ltX h0 (by decide)) h0 (obX8 h0) (by decide) (frX8_17 h0) fl8_64 (by decide +kernel) ?_
      refine sm_seg C [(.iload_n 1, 0)] (pc' := 15) (L' := [(0, .ref t0), (1, .int a1)]) (S' := [.int a1, .ref (t0 + 11), .int a1, .ref t0]) (by decide +kernel) rfl ?_
      refine sm_ald 14 C (ltX (krX8_17 h0) (by decide)) (krX8_17 h0) (nrX8_17 h0) (by decide +kernel) (fun v3 => ?_)
      refine sm_vcal [.int a1, .int v3] [] rfl C mw_X8_thingOf ml_8_99 rfl (ci := 8) rfl (ltX h0 (by decide)) h0 (by decide) ⟨by decide, by decide⟩ (Nat.le_of_ble_eq_true rfl) (by decide +kernel) (c_X8_thingOf F t0 h0 a1 v3 τ2) (fun r4 τ5 => ?_)
      refine sm_seg C [(.goto 4, 0)] (pc' := 23) (L' := [(0, .ref t0), (1, .int a1)]) (S' := [.int r4]) (by decide +kernel) rfl ?_
      exact sm_iret C hr rfl (by decide +kernel)) h
/-! BasketEnvoys.entry -/
def X10_entry (F : Nat) (t0 : Nat) (a1 : Int32) (τ : Tau) : Option (Int32 × Tau) :=
  if a1 < 0 then (some (0, τ)) else (if (Int32.ofNat (lnX t0)) ≤ a1 then (some (0, τ)) else (ald τ t0 (lnX t0) a1 fun v1 => some (v1, τ)))
set_option maxRecDepth 20000 in
set_option maxHeartbeats 4000000 in
theorem c_X10_entry (F : Nat) (t0 : Nat) (h0 : kdX t0 = 20) (a1 : Int32) (τ : Tau) (r : Int32) (τ' : Tau) (h : X10_entry F t0 a1 τ = some (r, τ')) : MCi sysX yX10_entry cX10_entry 2 (some .int) 1 [.ref t0, .int a1] τ r τ' :=
  mci_of (by decide +kernel) (Nat.le_of_ble_eq_true rfl) (fun K C hr => by
    show Sm K sysX 2 (Qi K sysX) (X10_entry F t0 a1 τ) 0 [(0, .ref t0), (1, .int a1)] [] τ
    unfold X10_entry
    refine sm_seg C [(.iload_n 1, 0)] (pc' := 1) (L' := [(0, .ref t0), (1, .int a1)]) (S' := [.int a1]) (by decide +kernel) rfl ?_
    refine sm_iflt 16 (off := 15) C (by decide +kernel) (by decide) (fun _ => ?_) (fun _ => ?_)
    · refine sm_seg C [(.iconst 0, 0)] (pc' := 17) (L' := [(0, .ref t0), (1, .int a1)]) (S' := [.int 0]) (by decide +kernel) rfl ?_
      exact sm_iret C hr rfl (by decide +kernel)
    · refine sm_seg C [(.iload_n 1, 0), (.aload_n 0, 0)] (pc' := 6) (L' := [(0, .ref t0), (1, .int a1)]) (S' := [.ref t0, .int a1]) (by decide +kernel) rfl ?_
      refine sm_alen 20 0 (lnX t0) (fun _ => rfl) C (ltX h0 (by decide)) h0 (by decide) (by decide) rfl rfl (by decide +kernel) ?_
      refine sm_icmpge 16 (off := 9) C (by decide +kernel) (by decide) (fun _ => ?_) (fun _ => ?_)
      · refine sm_seg C [(.iconst 0, 0)] (pc' := 17) (L' := [(0, .ref t0), (1, .int a1)]) (S' := [.int 0]) (by decide +kernel) rfl ?_
        exact sm_iret C hr rfl (by decide +kernel)
      · refine sm_seg C [(.aload_n 0, 0), (.iload_n 1, 0)] (pc' := 12) (L' := [(0, .ref t0), (1, .int a1)]) (S' := [.int a1, .ref t0]) (by decide +kernel) rfl ?_
        refine sm_ald (lnX t0) C (ltX h0 (by decide)) h0 rfl (by decide +kernel) (fun v1 => ?_)
        refine sm_seg C [(.goto 4, 0)] (pc' := 17) (L' := [(0, .ref t0), (1, .int a1)]) (S' := [.int v1]) (by decide +kernel) rfl ?_
        exact sm_iret C hr rfl (by decide +kernel)) h
/-! BasketEnvoys_World.saysTo -/
def X9_saysTo (F : Nat) (t0 : Nat) (a1 : Int32) (a2 : Int32) (τ : Tau) : Option (Int32 × Tau) :=
  cal (X10_entry F (t0 + 47) ((12 * a1) + a2) τ) fun r1 τ2 => some (r1, τ2)
set_option maxRecDepth 20000 in
set_option maxHeartbeats 4000000 in
theorem c_X9_saysTo (F : Nat) (t0 : Nat) (h0 : kdX t0 = 9) (a1 : Int32) (a2 : Int32) (τ : Tau) (r : Int32) (τ' : Tau) (h : X9_saysTo F t0 a1 a2 τ = some (r, τ')) : MCi sysX yX9_saysTo cX9_saysTo 3 (some .int) 2 [.ref t0, .int a1, .int a2] τ r τ' :=
  mci_of (by decide +kernel) (Nat.le_of_ble_eq_true rfl) (fun K C hr => by
    show Sm K sysX 3 (Qi K sysX) (X9_saysTo F t0 a1 a2 τ) 0 [(0, .ref t0), (1, .int a1), (2, .int a2)] [] τ
    unfold X9_saysTo
    refine sm_seg C [(.aload_n 0, 0)] (pc' := 1) (L' := [(0, .ref t0), (1, .int a1), (2, .int a2)]) (S' := [.ref t0]) (by decide +kernel) rfl ?_
    refine sm_getR 9 5 (t0 + 47) cls9 C (ltX h0 (by decide)) h0 (obX9 h0) (by decide) (frX9_5 h0) fl9_39 (by decide +kernel) ?_
    refine sm_seg C [(.bipush 12, 12), (.iload_n 1, 0), (.imul, 0), (.iload_n 2, 0), (.iadd, 0)] (pc' := 10) (L' := [(0, .ref t0), (1, .int a1), (2, .int a2)]) (S' := [.int ((12 * a1) + a2), .ref (t0 + 47)]) (by decide +kernel) rfl ?_
    refine sm_ncal "BasketEnvoys" [.ref (t0 + 47), .int ((12 * a1) + a2)] [] rfl C mw_X10_entry ml_9_78 rfl ⟨by decide, by decide⟩ (Nat.le_of_ble_eq_true rfl) (by decide +kernel) (c_X10_entry F (t0 + 47) (krX9_5 h0) ((12 * a1) + a2) τ) (fun r1 τ2 => ?_)
    exact sm_iret C hr rfl (by decide +kernel)) h
/-! BasketEnvoys_Course.gather -/
def X0_gather_j149 (F : Nat) (t1 : Nat) (a2 : Int32) (z0 : Int32) (z1 : Int32) (τ : Tau) : Option (Int32 × Tau) :=
  ast τ 212 10 z1 z0 fun τ17 => cal (X10_entry F (t1 + 11) a2 τ17) fun r18 τ19 => ast τ19 212 10 7 r18 fun τ20 => ast τ20 212 10 8 (τ20 t1 2) fun τ21 => ast τ21 212 10 9 (τ21 t1 4) fun τ22 => some (0, τ22)
theorem s_X0_gather_j149 (F : Nat) (t1 : Nat) {K : Ctx} (C : Cx K sysX RX0 cX0_gather 6 3) (hr : Rt K none) (h1 : kdX t1 = 8) (a2 : Int32) (z0 : Int32) (z1 : Int32) (τ : Tau) : Sm K sysX 6 (Qv K sysX) (X0_gather_j149 F t1 a2 z0 z1 τ) 149 [(0, .ref 211), (1, .ref t1), (2, .int a2)] [.int z0, .int z1, .ref 212] τ := by
  unfold X0_gather_j149
  refine sm_ast 10 C (ltX (krX0_1 (by decide +kernel : kdX 211 = 0)) (by decide)) (krX0_1 (by decide +kernel : kdX 211 = 0)) (nrX0_1 (by decide +kernel : kdX 211 = 0)) (by decide +kernel) (fun τ17 => ?_)
  refine sm_seg C [(.aload_n 0, 0)] (pc' := 151) (L' := [(0, .ref 211), (1, .ref t1), (2, .int a2)]) (S' := [.ref 211]) (by decide +kernel) rfl ?_
  refine sm_getR 0 1 212 cls0 C (ltX (by decide +kernel : kdX 211 = 0) (by decide)) (by decide +kernel : kdX 211 = 0) (obX0 (by decide +kernel : kdX 211 = 0)) (by decide) (frX0_1 (by decide +kernel : kdX 211 = 0)) fl0_9 (by decide +kernel) ?_
  refine sm_seg C [(.bipush 7, 7), (.aload_n 1, 0)] (pc' := 157) (L' := [(0, .ref 211), (1, .ref t1), (2, .int a2)]) (S' := [.ref t1, .int 7, .ref 212]) (by decide +kernel) rfl ?_
  refine sm_getR 8 17 (t1 + 11) cls8 C (ltX h1 (by decide)) h1 (obX8 h1) (by decide) (frX8_17 h1) fl0_87 (by decide +kernel) ?_
  refine sm_seg C [(.iload_n 2, 0)] (pc' := 161) (L' := [(0, .ref 211), (1, .ref t1), (2, .int a2)]) (S' := [.int a2, .ref (t1 + 11), .int 7, .ref 212]) (by decide +kernel) rfl ?_
  refine sm_ncal "BasketEnvoys" [.ref (t1 + 11), .int a2] [.int 7, .ref 212] rfl C mw_X10_entry ml_0_129 rfl ⟨by decide, by decide⟩ (Nat.le_of_ble_eq_true rfl) (by decide +kernel) (c_X10_entry F (t1 + 11) (krX8_17 h1) a2 τ17) (fun r18 τ19 => ?_)
  refine sm_ast 10 C (ltX (krX0_1 (by decide +kernel : kdX 211 = 0)) (by decide)) (krX0_1 (by decide +kernel : kdX 211 = 0)) (nrX0_1 (by decide +kernel : kdX 211 = 0)) (by decide +kernel) (fun τ20 => ?_)
  refine sm_seg C [(.aload_n 0, 0)] (pc' := 166) (L' := [(0, .ref 211), (1, .ref t1), (2, .int a2)]) (S' := [.ref 211]) (by decide +kernel) rfl ?_
  refine sm_getR 0 1 212 cls0 C (ltX (by decide +kernel : kdX 211 = 0) (by decide)) (by decide +kernel : kdX 211 = 0) (obX0 (by decide +kernel : kdX 211 = 0)) (by decide) (frX0_1 (by decide +kernel : kdX 211 = 0)) fl0_9 (by decide +kernel) ?_
  refine sm_seg C [(.bipush 8, 8), (.aload_n 1, 0)] (pc' := 172) (L' := [(0, .ref 211), (1, .ref t1), (2, .int a2)]) (S' := [.ref t1, .int 8, .ref 212]) (by decide +kernel) rfl ?_
  refine sm_getI 8 2 cls8 C (ltX h1 (by decide)) h1 (obX8 h1) (by decide) (fiX8_2 h1) fl0_133 (by decide +kernel) ?_
  refine sm_ast 10 C (ltX (krX0_1 (by decide +kernel : kdX 211 = 0)) (by decide)) (krX0_1 (by decide +kernel : kdX 211 = 0)) (nrX0_1 (by decide +kernel : kdX 211 = 0)) (by decide +kernel) (fun τ21 => ?_)
  refine sm_seg C [(.aload_n 0, 0)] (pc' := 177) (L' := [(0, .ref 211), (1, .ref t1), (2, .int a2)]) (S' := [.ref 211]) (by decide +kernel) rfl ?_
  refine sm_getR 0 1 212 cls0 C (ltX (by decide +kernel : kdX 211 = 0) (by decide)) (by decide +kernel : kdX 211 = 0) (obX0 (by decide +kernel : kdX 211 = 0)) (by decide) (frX0_1 (by decide +kernel : kdX 211 = 0)) fl0_9 (by decide +kernel) ?_
  refine sm_seg C [(.bipush 9, 9), (.aload_n 1, 0)] (pc' := 183) (L' := [(0, .ref 211), (1, .ref t1), (2, .int a2)]) (S' := [.ref t1, .int 9, .ref 212]) (by decide +kernel) rfl ?_
  refine sm_getI 8 4 cls8 C (ltX h1 (by decide)) h1 (obX8 h1) (by decide) (fiX8_4 h1) fl0_57 (by decide +kernel) ?_
  refine sm_ast 10 C (ltX (krX0_1 (by decide +kernel : kdX 211 = 0)) (by decide)) (krX0_1 (by decide +kernel : kdX 211 = 0)) (nrX0_1 (by decide +kernel : kdX 211 = 0)) (by decide +kernel) (fun τ22 => ?_)
  exact sm_vret C hr (by decide +kernel)
def X0_gather_j124 (F : Nat) (t1 : Nat) (a2 : Int32) (a4 : Int32) (a5 : Int32) (z0 : Int32) (z1 : Int32) (τ : Tau) : Option (Int32 × Tau) :=
  ast τ 212 10 z1 z0 fun τ16 => if a5 = 0 then (X0_gather_j149 F t1 a2 0 6 τ16) else (cal (X10_entry F (t1 + 2) a4 τ16) fun r23 τ24 => X0_gather_j149 F t1 a2 r23 6 τ24)
theorem s_X0_gather_j124 (F : Nat) (t1 : Nat) {K : Ctx} (C : Cx K sysX RX0 cX0_gather 6 3) (hr : Rt K none) (h1 : kdX t1 = 8) (a2 : Int32) (a4 : Int32) (a5 : Int32) (z0 : Int32) (z1 : Int32) (τ : Tau) : Sm K sysX 6 (Qv K sysX) (X0_gather_j124 F t1 a2 a4 a5 z0 z1 τ) 124 [(0, .ref 211), (1, .ref t1), (2, .int a2), (4, .int a4), (5, .int a5)] [.int z0, .int z1, .ref 212] τ := by
  unfold X0_gather_j124
  refine sm_ast 10 C (ltX (krX0_1 (by decide +kernel : kdX 211 = 0)) (by decide)) (krX0_1 (by decide +kernel : kdX 211 = 0)) (nrX0_1 (by decide +kernel : kdX 211 = 0)) (by decide +kernel) (fun τ16 => ?_)
  refine sm_seg C [(.aload_n 0, 0)] (pc' := 126) (L' := [(0, .ref 211), (1, .ref t1), (2, .int a2), (4, .int a4), (5, .int a5)]) (S' := [.ref 211]) (by decide +kernel) rfl ?_
  refine sm_getR 0 1 212 cls0 C (ltX (by decide +kernel : kdX 211 = 0) (by decide)) (by decide +kernel : kdX 211 = 0) (obX0 (by decide +kernel : kdX 211 = 0)) (by decide) (frX0_1 (by decide +kernel : kdX 211 = 0)) fl0_9 (by decide +kernel) ?_
  refine sm_seg C [(.bipush 6, 6), (.iload 5, 0)] (pc' := 133) (L' := [(0, .ref 211), (1, .ref t1), (2, .int a2), (4, .int a4), (5, .int a5)]) (S' := [.int a5, .int 6, .ref 212]) (by decide +kernel) rfl ?_
  refine sm_ifeq 148 (off := 15) C (by decide +kernel) (by decide) (fun _ => ?_) (fun _ => ?_)
  · refine sm_seg C [(.iconst 0, 0)] (pc' := 149) (L' := [(0, .ref 211), (1, .ref t1), (2, .int a2), (4, .int a4), (5, .int a5)]) (S' := [.int 0, .int 6, .ref 212]) (by decide +kernel) rfl ?_
    exact sm_sub [0, 1, 2] rfl (s_X0_gather_j149 F t1 C hr h1 a2 0 6 τ16)
  · refine sm_seg C [(.aload_n 1, 0)] (pc' := 137) (L' := [(0, .ref 211), (1, .ref t1), (2, .int a2), (4, .int a4), (5, .int a5)]) (S' := [.ref t1, .int 6, .ref 212]) (by decide +kernel) rfl ?_
    refine sm_getR 8 8 (t1 + 2) cls8 C (ltX h1 (by decide)) h1 (obX8 h1) (by decide) (frX8_8 h1) fl0_139 (by decide +kernel) ?_
    refine sm_seg C [(.iload 4, 0)] (pc' := 142) (L' := [(0, .ref 211), (1, .ref t1), (2, .int a2), (4, .int a4), (5, .int a5)]) (S' := [.int a4, .ref (t1 + 2), .int 6, .ref 212]) (by decide +kernel) rfl ?_
    refine sm_ncal "BasketEnvoys" [.ref (t1 + 2), .int a4] [.int 6, .ref 212] rfl C mw_X10_entry ml_0_129 rfl ⟨by decide, by decide⟩ (Nat.le_of_ble_eq_true rfl) (by decide +kernel) (c_X10_entry F (t1 + 2) (krX8_8 h1) a4 τ16) (fun r23 τ24 => ?_)
    refine sm_seg C [(.goto 4, 0)] (pc' := 149) (L' := [(0, .ref 211), (1, .ref t1), (2, .int a2), (4, .int a4), (5, .int a5)]) (S' := [.int r23, .int 6, .ref 212]) (by decide +kernel) rfl ?_
    exact sm_sub [0, 1, 2] rfl (s_X0_gather_j149 F t1 C hr h1 a2 r23 6 τ24)
def X0_gather_j123 (F : Nat) (t1 : Nat) (a2 : Int32) (a4 : Int32) (a5 : Int32) (z0 : Int32) (τ : Tau) : Option (Int32 × Tau) :=
  X0_gather_j124 F t1 a2 a4 a5 0 z0 τ
theorem s_X0_gather_j123 (F : Nat) (t1 : Nat) {K : Ctx} (C : Cx K sysX RX0 cX0_gather 6 3) (hr : Rt K none) (h1 : kdX t1 = 8) (a2 : Int32) (a4 : Int32) (a5 : Int32) (z0 : Int32) (τ : Tau) : Sm K sysX 6 (Qv K sysX) (X0_gather_j123 F t1 a2 a4 a5 z0 τ) 123 [(0, .ref 211), (1, .ref t1), (2, .int a2), (4, .int a4), (5, .int a5)] [.int z0, .ref 212] τ := by
  unfold X0_gather_j123
  refine sm_seg C [(.iconst 0, 0)] (pc' := 124) (L' := [(0, .ref 211), (1, .ref t1), (2, .int a2), (4, .int a4), (5, .int a5)]) (S' := [.int 0, .int z0, .ref 212]) (by decide +kernel) rfl ?_
  exact sm_sub [0, 1, 2, 3, 4] rfl (s_X0_gather_j124 F t1 C hr h1 a2 a4 a5 0 z0 τ)
def X0_gather_j83 (F : Nat) (t1 : Nat) (a2 : Int32) (a3 : Int32) (a4 : Int32) (a5 : Int32) (z0 : Int32) (z1 : Int32) (τ : Tau) : Option (Int32 × Tau) :=
  ast τ 212 10 z1 z0 fun τ14 => ast τ14 212 10 4 (imax 0 a3) fun τ15 => if a5 = 0 then (X0_gather_j123 F t1 a2 a4 a5 5 τ15) else (if a3 = (-1) then (X0_gather_j123 F t1 a2 a4 a5 5 τ15) else (cal (X9_saysTo F 1 a4 a3 τ15) fun r25 τ26 => X0_gather_j124 F t1 a2 a4 a5 r25 5 τ26))
theorem s_X0_gather_j83 (F : Nat) (t1 : Nat) {K : Ctx} (C : Cx K sysX RX0 cX0_gather 6 3) (hr : Rt K none) (h1 : kdX t1 = 8) (a2 : Int32) (a3 : Int32) (a4 : Int32) (a5 : Int32) (z0 : Int32) (z1 : Int32) (τ : Tau) : Sm K sysX 6 (Qv K sysX) (X0_gather_j83 F t1 a2 a3 a4 a5 z0 z1 τ) 83 [(0, .ref 211), (1, .ref t1), (2, .int a2), (3, .int a3), (4, .int a4), (5, .int a5)] [.int z0, .int z1, .ref 212] τ := by
  unfold X0_gather_j83
  refine sm_ast 10 C (ltX (krX0_1 (by decide +kernel : kdX 211 = 0)) (by decide)) (krX0_1 (by decide +kernel : kdX 211 = 0)) (nrX0_1 (by decide +kernel : kdX 211 = 0)) (by decide +kernel) (fun τ14 => ?_)
  refine sm_seg C [(.aload_n 0, 0)] (pc' := 85) (L' := [(0, .ref 211), (1, .ref t1), (2, .int a2), (3, .int a3), (4, .int a4), (5, .int a5)]) (S' := [.ref 211]) (by decide +kernel) rfl ?_
  refine sm_getR 0 1 212 cls0 C (ltX (by decide +kernel : kdX 211 = 0) (by decide)) (by decide +kernel : kdX 211 = 0) (obX0 (by decide +kernel : kdX 211 = 0)) (by decide) (frX0_1 (by decide +kernel : kdX 211 = 0)) fl0_9 (by decide +kernel) ?_
  refine sm_seg C [(.iconst 4, 4), (.iconst 0, 0), (.iload_n 3, 0)] (pc' := 91) (L' := [(0, .ref 211), (1, .ref t1), (2, .int a2), (3, .int a3), (4, .int a4), (5, .int a5)]) (S' := [.int a3, .int 0, .int 4, .ref 212]) (by decide +kernel) rfl ?_
  refine sm_max C (by decide) ml_0_154 jw_maxs jw_math jw_maxc (Nat.le_of_ble_eq_true rfl) (by decide +kernel) ?_
  refine sm_ast 10 C (ltX (krX0_1 (by decide +kernel : kdX 211 = 0)) (by decide)) (krX0_1 (by decide +kernel : kdX 211 = 0)) (nrX0_1 (by decide +kernel : kdX 211 = 0)) (by decide +kernel) (fun τ15 => ?_)
  refine sm_seg C [(.aload_n 0, 0)] (pc' := 96) (L' := [(0, .ref 211), (1, .ref t1), (2, .int a2), (3, .int a3), (4, .int a4), (5, .int a5)]) (S' := [.ref 211]) (by decide +kernel) rfl ?_
  refine sm_getR 0 1 212 cls0 C (ltX (by decide +kernel : kdX 211 = 0) (by decide)) (by decide +kernel : kdX 211 = 0) (obX0 (by decide +kernel : kdX 211 = 0)) (by decide) (frX0_1 (by decide +kernel : kdX 211 = 0)) fl0_9 (by decide +kernel) ?_
  refine sm_seg C [(.iconst 5, 5), (.iload 5, 0)] (pc' := 102) (L' := [(0, .ref 211), (1, .ref t1), (2, .int a2), (3, .int a3), (4, .int a4), (5, .int a5)]) (S' := [.int a5, .int 5, .ref 212]) (by decide +kernel) rfl ?_
  refine sm_ifeq 123 (off := 21) C (by decide +kernel) (by decide) (fun _ => ?_) (fun _ => ?_)
  · exact sm_sub [0, 1, 2, 4, 5] rfl (s_X0_gather_j123 F t1 C hr h1 a2 a4 a5 5 τ15)
  · refine sm_seg C [(.iload_n 3, 0), (.iconst (-1), (-1))] (pc' := 107) (L' := [(0, .ref 211), (1, .ref t1), (2, .int a2), (3, .int a3), (4, .int a4), (5, .int a5)]) (S' := [.int (-1), .int a3, .int 5, .ref 212]) (by decide +kernel) rfl ?_
    refine sm_icmpeq 123 (off := 16) C (by decide +kernel) (by decide) (fun _ => ?_) (fun _ => ?_)
    · exact sm_sub [0, 1, 2, 4, 5] rfl (s_X0_gather_j123 F t1 C hr h1 a2 a4 a5 5 τ15)
    · refine sm_seg C [(.aload_n 0, 0)] (pc' := 111) (L' := [(0, .ref 211), (1, .ref t1), (2, .int a2), (3, .int a3), (4, .int a4), (5, .int a5)]) (S' := [.ref 211, .int 5, .ref 212]) (by decide +kernel) rfl ?_
      refine sm_getR 0 0 1 cls0 C (ltX (by decide +kernel : kdX 211 = 0) (by decide)) (by decide +kernel : kdX 211 = 0) (obX0 (by decide +kernel : kdX 211 = 0)) (by decide) (frX0_0 (by decide +kernel : kdX 211 = 0)) fl0_15 (by decide +kernel) ?_
      refine sm_seg C [(.iload 4, 0), (.iload_n 3, 0)] (pc' := 117) (L' := [(0, .ref 211), (1, .ref t1), (2, .int a2), (3, .int a3), (4, .int a4), (5, .int a5)]) (S' := [.int a3, .int a4, .ref 1, .int 5, .ref 212]) (by decide +kernel) rfl ?_
      refine sm_vcal [.int a4, .int a3] [.int 5, .ref 212] rfl C mw_X9_saysTo ml_0_145 rfl (ci := 9) rfl (ltX (krX0_0 (by decide +kernel : kdX 211 = 0)) (by decide)) (krX0_0 (by decide +kernel : kdX 211 = 0)) (by decide) ⟨by decide, by decide⟩ (Nat.le_of_ble_eq_true rfl) (by decide +kernel) (c_X9_saysTo F 1 (krX0_0 (by decide +kernel : kdX 211 = 0)) a4 a3 τ15) (fun r25 τ26 => ?_)
      refine sm_seg C [(.goto 4, 0)] (pc' := 124) (L' := [(0, .ref 211), (1, .ref t1), (2, .int a2), (3, .int a3), (4, .int a4), (5, .int a5)]) (S' := [.int r25, .int 5, .ref 212]) (by decide +kernel) rfl ?_
      exact sm_sub [0, 1, 2, 4, 5] rfl (s_X0_gather_j124 F t1 C hr h1 a2 a4 a5 r25 5 τ26)
def X0_gather (F : Nat) (t1 : Nat) (a2 : Int32) (a3 : Int32) (τ : Tau) : Option (Int32 × Tau) :=
  cal (X10_entry F (t1 + 8) a2 τ) fun r1 τ2 => cal (X8_hasPower F t1 r1 τ2) fun r3 τ4 => cal (X10_entry F (t1 + 5) a2 τ4) fun r5 τ6 => ast τ6 212 10 0 r5 fun τ7 => cal (X10_entry F (t1 + 6) a2 τ7) fun r8 τ9 => ast τ9 212 10 1 r8 fun τ10 => cal (X10_entry F (t1 + 7) a2 τ10) fun r11 τ12 => ast τ12 212 10 2 r11 fun τ13 => if r3 = 0 then (X0_gather_j83 F t1 a2 a3 r1 r3 0 3 τ13) else (cal (X10_entry F (t1 + 1) r1 τ13) fun r27 τ28 => X0_gather_j83 F t1 a2 a3 r1 r3 r27 3 τ28)
set_option maxRecDepth 20000 in
set_option maxHeartbeats 4000000 in
theorem c_X0_gather (F : Nat) (t1 : Nat) (h1 : kdX t1 = 8) (a2 : Int32) (a3 : Int32) (τ : Tau) (r : Int32) (τ' : Tau) (h : X0_gather F t1 a2 a3 τ = some (r, τ')) : MCv sysX yX0_gather cX0_gather 6 3 [.ref 211, .ref t1, .int a2, .int a3] τ τ' :=
  mcv_of (by decide +kernel) (Nat.le_of_ble_eq_true rfl) (fun K C hr => by
    show Sm K sysX 6 (Qv K sysX) (X0_gather F t1 a2 a3 τ) 0 [(0, .ref 211), (1, .ref t1), (2, .int a2), (3, .int a3)] [] τ
    unfold X0_gather
    refine sm_seg C [(.aload_n 1, 0)] (pc' := 1) (L' := [(0, .ref 211), (1, .ref t1), (2, .int a2), (3, .int a3)]) (S' := [.ref t1]) (by decide +kernel) rfl ?_
    refine sm_getR 8 14 (t1 + 8) cls8 C (ltX h1 (by decide)) h1 (obX8 h1) (by decide) (frX8_14 h1) fl0_84 (by decide +kernel) ?_
    refine sm_seg C [(.iload_n 2, 0)] (pc' := 5) (L' := [(0, .ref 211), (1, .ref t1), (2, .int a2), (3, .int a3)]) (S' := [.int a2, .ref (t1 + 8)]) (by decide +kernel) rfl ?_
    refine sm_ncal "BasketEnvoys" [.ref (t1 + 8), .int a2] [] rfl C mw_X10_entry ml_0_129 rfl ⟨by decide, by decide⟩ (Nat.le_of_ble_eq_true rfl) (by decide +kernel) (c_X10_entry F (t1 + 8) (krX8_14 h1) a2 τ) (fun r1 τ2 => ?_)
    refine sm_seg C [(.istore 4, 0), (.aload_n 1, 0), (.iload 4, 0)] (pc' := 13) (L' := [(4, .int r1), (0, .ref 211), (1, .ref t1), (2, .int a2), (3, .int a3)]) (S' := [.int r1, .ref t1]) (by decide +kernel) rfl ?_
    refine sm_vcal [.int r1] [] rfl C mw_X8_hasPower ml_0_94 rfl (ci := 8) rfl (ltX h1 (by decide)) h1 (by decide) ⟨by decide, by decide⟩ (Nat.le_of_ble_eq_true rfl) (by decide +kernel) (c_X8_hasPower F t1 h1 r1 τ2) (fun r3 τ4 => ?_)
    refine sm_seg C [(.istore 5, 0), (.aload_n 0, 0)] (pc' := 19) (L' := [(5, .int r3), (4, .int r1), (0, .ref 211), (1, .ref t1), (2, .int a2), (3, .int a3)]) (S' := [.ref 211]) (by decide +kernel) rfl ?_
    refine sm_getR 0 1 212 cls0 C (ltX (by decide +kernel : kdX 211 = 0) (by decide)) (by decide +kernel : kdX 211 = 0) (obX0 (by decide +kernel : kdX 211 = 0)) (by decide) (frX0_1 (by decide +kernel : kdX 211 = 0)) fl0_9 (by decide +kernel) ?_
    refine sm_seg C [(.iconst 0, 0), (.aload_n 1, 0)] (pc' := 24) (L' := [(5, .int r3), (4, .int r1), (0, .ref 211), (1, .ref t1), (2, .int a2), (3, .int a3)]) (S' := [.ref t1, .int 0, .ref 212]) (by decide +kernel) rfl ?_
    refine sm_getR 8 11 (t1 + 5) cls8 C (ltX h1 (by decide)) h1 (obX8 h1) (by decide) (frX8_11 h1) fl0_179 (by decide +kernel) ?_
    refine sm_seg C [(.iload_n 2, 0)] (pc' := 28) (L' := [(5, .int r3), (4, .int r1), (0, .ref 211), (1, .ref t1), (2, .int a2), (3, .int a3)]) (S' := [.int a2, .ref (t1 + 5), .int 0, .ref 212]) (by decide +kernel) rfl ?_
    refine sm_ncal "BasketEnvoys" [.ref (t1 + 5), .int a2] [.int 0, .ref 212] rfl C mw_X10_entry ml_0_129 rfl ⟨by decide, by decide⟩ (Nat.le_of_ble_eq_true rfl) (by decide +kernel) (c_X10_entry F (t1 + 5) (krX8_11 h1) a2 τ4) (fun r5 τ6 => ?_)
    refine sm_ast 10 C (ltX (krX0_1 (by decide +kernel : kdX 211 = 0)) (by decide)) (krX0_1 (by decide +kernel : kdX 211 = 0)) (nrX0_1 (by decide +kernel : kdX 211 = 0)) (by decide +kernel) (fun τ7 => ?_)
    refine sm_seg C [(.aload_n 0, 0)] (pc' := 33) (L' := [(5, .int r3), (4, .int r1), (0, .ref 211), (1, .ref t1), (2, .int a2), (3, .int a3)]) (S' := [.ref 211]) (by decide +kernel) rfl ?_
    refine sm_getR 0 1 212 cls0 C (ltX (by decide +kernel : kdX 211 = 0) (by decide)) (by decide +kernel : kdX 211 = 0) (obX0 (by decide +kernel : kdX 211 = 0)) (by decide) (frX0_1 (by decide +kernel : kdX 211 = 0)) fl0_9 (by decide +kernel) ?_
    refine sm_seg C [(.iconst 1, 1), (.aload_n 1, 0)] (pc' := 38) (L' := [(5, .int r3), (4, .int r1), (0, .ref 211), (1, .ref t1), (2, .int a2), (3, .int a3)]) (S' := [.ref t1, .int 1, .ref 212]) (by decide +kernel) rfl ?_
    refine sm_getR 8 12 (t1 + 6) cls8 C (ltX h1 (by decide)) h1 (obX8 h1) (by decide) (frX8_12 h1) fl0_78 (by decide +kernel) ?_
    refine sm_seg C [(.iload_n 2, 0)] (pc' := 42) (L' := [(5, .int r3), (4, .int r1), (0, .ref 211), (1, .ref t1), (2, .int a2), (3, .int a3)]) (S' := [.int a2, .ref (t1 + 6), .int 1, .ref 212]) (by decide +kernel) rfl ?_
    refine sm_ncal "BasketEnvoys" [.ref (t1 + 6), .int a2] [.int 1, .ref 212] rfl C mw_X10_entry ml_0_129 rfl ⟨by decide, by decide⟩ (Nat.le_of_ble_eq_true rfl) (by decide +kernel) (c_X10_entry F (t1 + 6) (krX8_12 h1) a2 τ7) (fun r8 τ9 => ?_)
    refine sm_ast 10 C (ltX (krX0_1 (by decide +kernel : kdX 211 = 0)) (by decide)) (krX0_1 (by decide +kernel : kdX 211 = 0)) (nrX0_1 (by decide +kernel : kdX 211 = 0)) (by decide +kernel) (fun τ10 => ?_)
    refine sm_seg C [(.aload_n 0, 0)] (pc' := 47) (L' := [(5, .int r3), (4, .int r1), (0, .ref 211), (1, .ref t1), (2, .int a2), (3, .int a3)]) (S' := [.ref 211]) (by decide +kernel) rfl ?_
    refine sm_getR 0 1 212 cls0 C (ltX (by decide +kernel : kdX 211 = 0) (by decide)) (by decide +kernel : kdX 211 = 0) (obX0 (by decide +kernel : kdX 211 = 0)) (by decide) (frX0_1 (by decide +kernel : kdX 211 = 0)) fl0_9 (by decide +kernel) ?_
    refine sm_seg C [(.iconst 2, 2), (.aload_n 1, 0)] (pc' := 52) (L' := [(5, .int r3), (4, .int r1), (0, .ref 211), (1, .ref t1), (2, .int a2), (3, .int a3)]) (S' := [.ref t1, .int 2, .ref 212]) (by decide +kernel) rfl ?_
    refine sm_getR 8 13 (t1 + 7) cls8 C (ltX h1 (by decide)) h1 (obX8 h1) (by decide) (frX8_13 h1) fl0_182 (by decide +kernel) ?_
    refine sm_seg C [(.iload_n 2, 0)] (pc' := 56) (L' := [(5, .int r3), (4, .int r1), (0, .ref 211), (1, .ref t1), (2, .int a2), (3, .int a3)]) (S' := [.int a2, .ref (t1 + 7), .int 2, .ref 212]) (by decide +kernel) rfl ?_
    refine sm_ncal "BasketEnvoys" [.ref (t1 + 7), .int a2] [.int 2, .ref 212] rfl C mw_X10_entry ml_0_129 rfl ⟨by decide, by decide⟩ (Nat.le_of_ble_eq_true rfl) (by decide +kernel) (c_X10_entry F (t1 + 7) (krX8_13 h1) a2 τ10) (fun r11 τ12 => ?_)
    refine sm_ast 10 C (ltX (krX0_1 (by decide +kernel : kdX 211 = 0)) (by decide)) (krX0_1 (by decide +kernel : kdX 211 = 0)) (nrX0_1 (by decide +kernel : kdX 211 = 0)) (by decide +kernel) (fun τ13 => ?_)
    refine sm_seg C [(.aload_n 0, 0)] (pc' := 61) (L' := [(5, .int r3), (4, .int r1), (0, .ref 211), (1, .ref t1), (2, .int a2), (3, .int a3)]) (S' := [.ref 211]) (by decide +kernel) rfl ?_
    refine sm_getR 0 1 212 cls0 C (ltX (by decide +kernel : kdX 211 = 0) (by decide)) (by decide +kernel : kdX 211 = 0) (obX0 (by decide +kernel : kdX 211 = 0)) (by decide) (frX0_1 (by decide +kernel : kdX 211 = 0)) fl0_9 (by decide +kernel) ?_
    refine sm_seg C [(.iconst 3, 3), (.iload 5, 0)] (pc' := 67) (L' := [(5, .int r3), (4, .int r1), (0, .ref 211), (1, .ref t1), (2, .int a2), (3, .int a3)]) (S' := [.int r3, .int 3, .ref 212]) (by decide +kernel) rfl ?_
    refine sm_ifeq 82 (off := 15) C (by decide +kernel) (by decide) (fun _ => ?_) (fun _ => ?_)
    · refine sm_seg C [(.iconst 0, 0)] (pc' := 83) (L' := [(5, .int r3), (4, .int r1), (0, .ref 211), (1, .ref t1), (2, .int a2), (3, .int a3)]) (S' := [.int 0, .int 3, .ref 212]) (by decide +kernel) rfl ?_
      exact sm_sub [2, 3, 4, 5, 1, 0] rfl (s_X0_gather_j83 F t1 C hr h1 a2 a3 r1 r3 0 3 τ13)
    · refine sm_seg C [(.aload_n 1, 0)] (pc' := 71) (L' := [(5, .int r3), (4, .int r1), (0, .ref 211), (1, .ref t1), (2, .int a2), (3, .int a3)]) (S' := [.ref t1, .int 3, .ref 212]) (by decide +kernel) rfl ?_
      refine sm_getR 8 7 (t1 + 1) cls8 C (ltX h1 (by decide)) h1 (obX8 h1) (by decide) (frX8_7 h1) fl0_97 (by decide +kernel) ?_
      refine sm_seg C [(.iload 4, 0)] (pc' := 76) (L' := [(5, .int r3), (4, .int r1), (0, .ref 211), (1, .ref t1), (2, .int a2), (3, .int a3)]) (S' := [.int r1, .ref (t1 + 1), .int 3, .ref 212]) (by decide +kernel) rfl ?_
      refine sm_ncal "BasketEnvoys" [.ref (t1 + 1), .int r1] [.int 3, .ref 212] rfl C mw_X10_entry ml_0_129 rfl ⟨by decide, by decide⟩ (Nat.le_of_ble_eq_true rfl) (by decide +kernel) (c_X10_entry F (t1 + 1) (krX8_7 h1) r1 τ13) (fun r27 τ28 => ?_)
      refine sm_seg C [(.goto 4, 0)] (pc' := 83) (L' := [(5, .int r3), (4, .int r1), (0, .ref 211), (1, .ref t1), (2, .int a2), (3, .int a3)]) (S' := [.int r27, .int 3, .ref 212]) (by decide +kernel) rfl ?_
      exact sm_sub [2, 3, 4, 5, 1, 0] rfl (s_X0_gather_j83 F t1 C hr h1 a2 a3 r1 r3 r27 3 τ28)) h
/-! BasketEnvoys_Law.join -/
def X2_join (F : Nat) (a0 : Int32) (a1 : Int32) (a2 : Int32) (τ : Tau) : Option (Int32 × Tau) :=
  if a0 = 10 then (some ((a1 + a2), τ)) else if a0 = 11 then (some ((a1 - a2), τ)) else if a0 = 12 then (some ((a1 * a2), τ)) else if a0 = 13 then (if a2 = 0 then (some (0, τ)) else (if a2 = 0 then none else (some ((a1 / a2), τ)))) else if a0 = 14 then (if a2 ≤ a1 then (some (0, τ)) else (some (1, τ))) else if a0 = 15 then (if a1 = a2 then (some (1, τ)) else (some (0, τ))) else if a0 = 16 then (if a1 ≤ a2 then (some (0, τ)) else (some (1, τ))) else if a0 = 17 then (some ((a1 &&& a2), τ)) else if a0 = 18 then (some ((a1 ||| a2), τ)) else (some (0, τ))
set_option maxRecDepth 20000 in
set_option maxHeartbeats 4000000 in
theorem c_X2_join (F : Nat) (a0 : Int32) (a1 : Int32) (a2 : Int32) (τ : Tau) (r : Int32) (τ' : Tau) (h : X2_join F a0 a1 a2 τ = some (r, τ')) : MCi sysX yX2_join cX2_join 3 (some .int) 1 [.int a0, .int a1, .int a2] τ r τ' :=
  mci_of (by decide +kernel) (Nat.le_of_ble_eq_true rfl) (fun K C hr => by
    show Sm K sysX 3 (Qi K sysX) (X2_join F a0 a1 a2 τ) 0 [(0, .int a0), (1, .int a1), (2, .int a2)] [] τ
    unfold X2_join
    refine sm_seg C [(.iload_n 0, 0)] (pc' := 1) (L' := [(0, .int a0), (1, .int a1), (2, .int a2)]) (S' := [.int a0]) (by decide +kernel) rfl ?_
    have hd1 : decode cX2_join 1 = .ok (.tableswitch 116 10 18 #[51, 55, 59, 63, 75, 86, 97, 108, 112], 51) := by decide +kernel
    refine sm_ite (fun e => ?_) (fun n1_0 => ?_)
    · refine sm_tabIn (off := 51) 52 C hd1 (by rw [e]; decide) (by rw [e]; decide) (by rw [e]; decide) (by decide) ?_
      refine sm_seg C [(.iload_n 1, 0), (.iload_n 2, 0), (.iadd, 0)] (pc' := 55) (L' := [(0, .int a0), (1, .int a1), (2, .int a2)]) (S' := [.int (a1 + a2)]) (by decide +kernel) rfl ?_
      exact sm_iret C hr rfl (by decide +kernel)
    refine sm_ite (fun e => ?_) (fun n1_1 => ?_)
    · refine sm_tabIn (off := 55) 56 C hd1 (by rw [e]; decide) (by rw [e]; decide) (by rw [e]; decide) (by decide) ?_
      refine sm_seg C [(.iload_n 1, 0), (.iload_n 2, 0), (.isub, 0)] (pc' := 59) (L' := [(0, .int a0), (1, .int a1), (2, .int a2)]) (S' := [.int (a1 - a2)]) (by decide +kernel) rfl ?_
      exact sm_iret C hr rfl (by decide +kernel)
    refine sm_ite (fun e => ?_) (fun n1_2 => ?_)
    · refine sm_tabIn (off := 59) 60 C hd1 (by rw [e]; decide) (by rw [e]; decide) (by rw [e]; decide) (by decide) ?_
      refine sm_seg C [(.iload_n 1, 0), (.iload_n 2, 0), (.imul, 0)] (pc' := 63) (L' := [(0, .int a0), (1, .int a1), (2, .int a2)]) (S' := [.int (a1 * a2)]) (by decide +kernel) rfl ?_
      exact sm_iret C hr rfl (by decide +kernel)
    refine sm_ite (fun e => ?_) (fun n1_3 => ?_)
    · refine sm_tabIn (off := 63) 64 C hd1 (by rw [e]; decide) (by rw [e]; decide) (by rw [e]; decide) (by decide) ?_
      refine sm_seg C [(.iload_n 2, 0)] (pc' := 65) (L' := [(0, .int a0), (1, .int a1), (2, .int a2)]) (S' := [.int a2]) (by decide +kernel) rfl ?_
      refine sm_ifne 72 (off := 7) C (by decide +kernel) (by decide) (fun _ => ?_) (fun _ => ?_)
      · refine sm_seg C [(.iconst 0, 0), (.goto 6, 0)] (pc' := 75) (L' := [(0, .int a0), (1, .int a1), (2, .int a2)]) (S' := [.int 0]) (by decide +kernel) rfl ?_
        exact sm_iret C hr rfl (by decide +kernel)
      · refine sm_seg C [(.iload_n 1, 0), (.iload_n 2, 0)] (pc' := 74) (L' := [(0, .int a0), (1, .int a1), (2, .int a2)]) (S' := [.int a2, .int a1]) (by decide +kernel) rfl ?_
        refine sm_ite (fun _ => sm_none) (fun hz => ?_)
        refine sm_idiv C (by decide +kernel) hz ?_
        exact sm_iret C hr rfl (by decide +kernel)
    refine sm_ite (fun e => ?_) (fun n1_4 => ?_)
    · refine sm_tabIn (off := 75) 76 C hd1 (by rw [e]; decide) (by rw [e]; decide) (by rw [e]; decide) (by decide) ?_
      refine sm_seg C [(.iload_n 1, 0), (.iload_n 2, 0)] (pc' := 78) (L' := [(0, .int a0), (1, .int a1), (2, .int a2)]) (S' := [.int a2, .int a1]) (by decide +kernel) rfl ?_
      refine sm_icmpge 85 (off := 7) C (by decide +kernel) (by decide) (fun _ => ?_) (fun _ => ?_)
      · refine sm_seg C [(.iconst 0, 0)] (pc' := 86) (L' := [(0, .int a0), (1, .int a1), (2, .int a2)]) (S' := [.int 0]) (by decide +kernel) rfl ?_
        exact sm_iret C hr rfl (by decide +kernel)
      · refine sm_seg C [(.iconst 1, 1), (.goto 4, 0)] (pc' := 86) (L' := [(0, .int a0), (1, .int a1), (2, .int a2)]) (S' := [.int 1]) (by decide +kernel) rfl ?_
        exact sm_iret C hr rfl (by decide +kernel)
    refine sm_ite (fun e => ?_) (fun n1_5 => ?_)
    · refine sm_tabIn (off := 86) 87 C hd1 (by rw [e]; decide) (by rw [e]; decide) (by rw [e]; decide) (by decide) ?_
      refine sm_seg C [(.iload_n 1, 0), (.iload_n 2, 0)] (pc' := 89) (L' := [(0, .int a0), (1, .int a1), (2, .int a2)]) (S' := [.int a2, .int a1]) (by decide +kernel) rfl ?_
      refine sm_icmpne 96 (off := 7) C (by decide +kernel) (by decide) (fun _ => ?_) (fun _ => ?_)
      · refine sm_seg C [(.iconst 1, 1), (.goto 4, 0)] (pc' := 97) (L' := [(0, .int a0), (1, .int a1), (2, .int a2)]) (S' := [.int 1]) (by decide +kernel) rfl ?_
        exact sm_iret C hr rfl (by decide +kernel)
      · refine sm_seg C [(.iconst 0, 0)] (pc' := 97) (L' := [(0, .int a0), (1, .int a1), (2, .int a2)]) (S' := [.int 0]) (by decide +kernel) rfl ?_
        exact sm_iret C hr rfl (by decide +kernel)
    refine sm_ite (fun e => ?_) (fun n1_6 => ?_)
    · refine sm_tabIn (off := 97) 98 C hd1 (by rw [e]; decide) (by rw [e]; decide) (by rw [e]; decide) (by decide) ?_
      refine sm_seg C [(.iload_n 1, 0), (.iload_n 2, 0)] (pc' := 100) (L' := [(0, .int a0), (1, .int a1), (2, .int a2)]) (S' := [.int a2, .int a1]) (by decide +kernel) rfl ?_
      refine sm_icmple 107 (off := 7) C (by decide +kernel) (by decide) (fun _ => ?_) (fun _ => ?_)
      · refine sm_seg C [(.iconst 0, 0)] (pc' := 108) (L' := [(0, .int a0), (1, .int a1), (2, .int a2)]) (S' := [.int 0]) (by decide +kernel) rfl ?_
        exact sm_iret C hr rfl (by decide +kernel)
      · refine sm_seg C [(.iconst 1, 1), (.goto 4, 0)] (pc' := 108) (L' := [(0, .int a0), (1, .int a1), (2, .int a2)]) (S' := [.int 1]) (by decide +kernel) rfl ?_
        exact sm_iret C hr rfl (by decide +kernel)
    refine sm_ite (fun e => ?_) (fun n1_7 => ?_)
    · refine sm_tabIn (off := 108) 109 C hd1 (by rw [e]; decide) (by rw [e]; decide) (by rw [e]; decide) (by decide) ?_
      refine sm_seg C [(.iload_n 1, 0), (.iload_n 2, 0), (.iand, 0)] (pc' := 112) (L' := [(0, .int a0), (1, .int a1), (2, .int a2)]) (S' := [.int (a1 &&& a2)]) (by decide +kernel) rfl ?_
      exact sm_iret C hr rfl (by decide +kernel)
    refine sm_ite (fun e => ?_) (fun n1_8 => ?_)
    · refine sm_tabIn (off := 112) 113 C hd1 (by rw [e]; decide) (by rw [e]; decide) (by rw [e]; decide) (by decide) ?_
      refine sm_seg C [(.iload_n 1, 0), (.iload_n 2, 0), (.ior, 0)] (pc' := 116) (L' := [(0, .int a0), (1, .int a1), (2, .int a2)]) (S' := [.int (a1 ||| a2)]) (by decide +kernel) rfl ?_
      exact sm_iret C hr rfl (by decide +kernel)
    refine sm_tabOut 117 C hd1 (by have q0 := toInt_neZ (z := 10) n1_0 (by decide); have q1 := toInt_neZ (z := 11) n1_1 (by decide); have q2 := toInt_neZ (z := 12) n1_2 (by decide); have q3 := toInt_neZ (z := 13) n1_3 (by decide); have q4 := toInt_neZ (z := 14) n1_4 (by decide); have q5 := toInt_neZ (z := 15) n1_5 (by decide); have q6 := toInt_neZ (z := 16) n1_6 (by decide); have q7 := toInt_neZ (z := 17) n1_7 (by decide); have q8 := toInt_neZ (z := 18) n1_8 (by decide); omega) (by decide) ?_
    refine sm_seg C [(.iconst 0, 0)] (pc' := 118) (L' := [(0, .int a0), (1, .int a1), (2, .int a2)]) (S' := [.int 0]) (by decide +kernel) rfl ?_
    exact sm_iret C hr rfl (by decide +kernel)) h
/-! BasketEnvoys_Law.run -/
def X2_run_j181 (F : Nat) (t0 : Nat) (t3 : Nat) (a4 : Int32) (τ : Tau) : Option (Int32 × Tau) :=
  if a4 ≤ 0 then (some (0, τ)) else (ald τ (t0 + 6) 32 (a4 - 1) fun v1 => some (v1, τ))
theorem s_X2_run_j181 (F : Nat) (t0 : Nat) (t3 : Nat) {K : Ctx} (C : Cx K sysX RX2 cX2_run 8 2) (hr : Rt K (some .int)) (h0 : kdX t0 = 2) (h3 : kdX t3 = 20) (a4 : Int32) (τ : Tau) : Sm K sysX 8 (Qi K sysX) (X2_run_j181 F t0 t3 a4 τ) 181 [(0, .ref t0), (4, .int a4)] [] τ := by
  unfold X2_run_j181
  refine sm_seg C [(.iload 4, 0)] (pc' := 183) (L' := [(0, .ref t0), (4, .int a4)]) (S' := [.int a4]) (by decide +kernel) rfl ?_
  refine sm_ifle 198 (off := 15) C (by decide +kernel) (by decide) (fun _ => ?_) (fun _ => ?_)
  · refine sm_seg C [(.iconst 0, 0)] (pc' := 199) (L' := [(0, .ref t0), (4, .int a4)]) (S' := [.int 0]) (by decide +kernel) rfl ?_
    exact sm_iret C hr rfl (by decide +kernel)
  · refine sm_seg C [(.aload_n 0, 0)] (pc' := 187) (L' := [(0, .ref t0), (4, .int a4)]) (S' := [.ref t0]) (by decide +kernel) rfl ?_
    refine sm_getR 2 7 (t0 + 6) cls2 C (ltX h0 (by decide)) h0 (obX2 h0) (by decide) (frX2_7 h0) fl2_34 (by decide +kernel) ?_
    refine sm_seg C [(.iload 4, 0), (.iconst 1, 1), (.isub, 0)] (pc' := 194) (L' := [(0, .ref t0), (4, .int a4)]) (S' := [.int (a4 - 1), .ref (t0 + 6)]) (by decide +kernel) rfl ?_
    refine sm_ald 32 C (ltX (krX2_7 h0) (by decide)) (krX2_7 h0) (nrX2_7 h0) (by decide +kernel) (fun v1 => ?_)
    refine sm_seg C [(.goto 4, 0)] (pc' := 199) (L' := [(0, .ref t0), (4, .int a4)]) (S' := [.int v1]) (by decide +kernel) rfl ?_
    exact sm_iret C hr rfl (by decide +kernel)
def X2_run_j175 (F : Nat) (self10 : Int32 → Int32 → Int32 → Tau → Option (Int32 × Tau)) (t0 : Nat) (t3 : Nat) (a2 : Int32) (a4 : Int32) (a5 : Int32) (τ : Tau) : Option (Int32 × Tau) :=
  self10 a2 a4 (a5 + 1) τ
theorem s_X2_run_j175 (F : Nat) (t0 : Nat) (t3 : Nat) {K : Ctx} (C : Cx K sysX RX2 cX2_run 8 2) (hr : Rt K (some .int)) (h0 : kdX t0 = 2) (h3 : kdX t3 = 20) (self10 : Int32 → Int32 → Int32 → Tau → Option (Int32 × Tau)) (ih10 : ∀ (a2 : Int32) (a4 : Int32) (a5 : Int32) (τ : Tau), Sm K sysX 8 (Qi K sysX) (self10 a2 a4 a5 τ) 10 [(0, .ref t0), (2, .int a2), (3, .ref t3), (4, .int a4), (5, .int a5)] [] τ) (a2 : Int32) (a4 : Int32) (a5 : Int32) (τ : Tau) : Sm K sysX 8 (Qi K sysX) (X2_run_j175 F self10 t0 t3 a2 a4 a5 τ) 175 [(0, .ref t0), (2, .int a2), (3, .ref t3), (4, .int a4), (5, .int a5)] [] τ := by
  unfold X2_run_j175
  refine sm_seg C [(.iinc 5 1, 1), (.goto (-168), 0)] (pc' := 10) (L' := [(5, .int (a5 + 1)), (0, .ref t0), (2, .int a2), (3, .ref t3), (4, .int a4)]) (S' := []) (by decide +kernel) rfl ?_
  exact sm_sub [1, 2, 3, 4, 0] rfl (ih10 a2 a4 (a5 + 1) τ)
def X2_run_j136 (F : Nat) (self10 : Int32 → Int32 → Int32 → Tau → Option (Int32 × Tau)) (t0 : Nat) (t3 : Nat) (a2 : Int32) (a4 : Int32) (a5 : Int32) (a6 : Int32) (τ : Tau) : Option (Int32 × Tau) :=
  if a4 ≤ 1 then (X2_run_j175 F self10 t0 t3 a2 a4 a5 τ) else (ald τ (t0 + 6) 32 ((a4 + (-1)) - 1) fun v3 => ald τ (t0 + 6) 32 (a4 + (-1)) fun v4 => cal (X2_join F a6 v3 v4 τ) fun r5 τ6 => ast τ6 (t0 + 6) 32 ((a4 + (-1)) - 1) r5 fun τ7 => X2_run_j175 F self10 t0 t3 a2 (a4 + (-1)) a5 τ7)
theorem s_X2_run_j136 (F : Nat) (t0 : Nat) (t3 : Nat) {K : Ctx} (C : Cx K sysX RX2 cX2_run 8 2) (hr : Rt K (some .int)) (h0 : kdX t0 = 2) (h3 : kdX t3 = 20) (self10 : Int32 → Int32 → Int32 → Tau → Option (Int32 × Tau)) (ih10 : ∀ (a2 : Int32) (a4 : Int32) (a5 : Int32) (τ : Tau), Sm K sysX 8 (Qi K sysX) (self10 a2 a4 a5 τ) 10 [(0, .ref t0), (2, .int a2), (3, .ref t3), (4, .int a4), (5, .int a5)] [] τ) (a2 : Int32) (a4 : Int32) (a5 : Int32) (a6 : Int32) (τ : Tau) : Sm K sysX 8 (Qi K sysX) (X2_run_j136 F self10 t0 t3 a2 a4 a5 a6 τ) 136 [(0, .ref t0), (2, .int a2), (3, .ref t3), (4, .int a4), (5, .int a5), (6, .int a6)] [] τ := by
  unfold X2_run_j136
  refine sm_seg C [(.iload 4, 0), (.iconst 1, 1)] (pc' := 139) (L' := [(0, .ref t0), (2, .int a2), (3, .ref t3), (4, .int a4), (5, .int a5), (6, .int a6)]) (S' := [.int 1, .int a4]) (by decide +kernel) rfl ?_
  refine sm_icmple 175 (off := 36) C (by decide +kernel) (by decide) (fun _ => ?_) (fun _ => ?_)
  · exact sm_sub [0, 1, 2, 3, 4] rfl (s_X2_run_j175 F t0 t3 C hr h0 h3 self10 ih10 a2 a4 a5 τ)
  · refine sm_seg C [(.iinc 4 (-1), (-1)), (.aload_n 0, 0)] (pc' := 146) (L' := [(4, .int (a4 + (-1))), (0, .ref t0), (2, .int a2), (3, .ref t3), (5, .int a5), (6, .int a6)]) (S' := [.ref t0]) (by decide +kernel) rfl ?_
    refine sm_getR 2 7 (t0 + 6) cls2 C (ltX h0 (by decide)) h0 (obX2 h0) (by decide) (frX2_7 h0) fl2_34 (by decide +kernel) ?_
    refine sm_seg C [(.iload 4, 0), (.iconst 1, 1), (.isub, 0), (.iload 6, 0), (.aload_n 0, 0)] (pc' := 156) (L' := [(4, .int (a4 + (-1))), (0, .ref t0), (2, .int a2), (3, .ref t3), (5, .int a5), (6, .int a6)]) (S' := [.ref t0, .int a6, .int ((a4 + (-1)) - 1), .ref (t0 + 6)]) (by decide +kernel) rfl ?_
    refine sm_getR 2 7 (t0 + 6) cls2 C (ltX h0 (by decide)) h0 (obX2 h0) (by decide) (frX2_7 h0) fl2_34 (by decide +kernel) ?_
    refine sm_seg C [(.iload 4, 0), (.iconst 1, 1), (.isub, 0)] (pc' := 163) (L' := [(4, .int (a4 + (-1))), (0, .ref t0), (2, .int a2), (3, .ref t3), (5, .int a5), (6, .int a6)]) (S' := [.int ((a4 + (-1)) - 1), .ref (t0 + 6), .int a6, .int ((a4 + (-1)) - 1), .ref (t0 + 6)]) (by decide +kernel) rfl ?_
    refine sm_ald 32 C (ltX (krX2_7 h0) (by decide)) (krX2_7 h0) (nrX2_7 h0) (by decide +kernel) (fun v3 => ?_)
    refine sm_seg C [(.aload_n 0, 0)] (pc' := 165) (L' := [(4, .int (a4 + (-1))), (0, .ref t0), (2, .int a2), (3, .ref t3), (5, .int a5), (6, .int a6)]) (S' := [.ref t0, .int v3, .int a6, .int ((a4 + (-1)) - 1), .ref (t0 + 6)]) (by decide +kernel) rfl ?_
    refine sm_getR 2 7 (t0 + 6) cls2 C (ltX h0 (by decide)) h0 (obX2 h0) (by decide) (frX2_7 h0) fl2_34 (by decide +kernel) ?_
    refine sm_seg C [(.iload 4, 0)] (pc' := 170) (L' := [(4, .int (a4 + (-1))), (0, .ref t0), (2, .int a2), (3, .ref t3), (5, .int a5), (6, .int a6)]) (S' := [.int (a4 + (-1)), .ref (t0 + 6), .int v3, .int a6, .int ((a4 + (-1)) - 1), .ref (t0 + 6)]) (by decide +kernel) rfl ?_
    refine sm_ald 32 C (ltX (krX2_7 h0) (by decide)) (krX2_7 h0) (nrX2_7 h0) (by decide +kernel) (fun v4 => ?_)
    refine sm_scal [.int a6, .int v3, .int v4] [.int ((a4 + (-1)) - 1), .ref (t0 + 6)] rfl C mw_X2_join ml_2_55 rfl ⟨by decide, by decide⟩ (Nat.le_of_ble_eq_true rfl) (by decide +kernel) (c_X2_join F a6 v3 v4 τ) (fun r5 τ6 => ?_)
    refine sm_ast 32 C (ltX (krX2_7 h0) (by decide)) (krX2_7 h0) (nrX2_7 h0) (by decide +kernel) (fun τ7 => ?_)
    exact sm_sub [1, 2, 3, 0, 4] rfl (s_X2_run_j175 F t0 t3 C hr h0 h3 self10 ih10 a2 (a4 + (-1)) a5 τ7)
def X2_run_j101 (F : Nat) (self10 : Int32 → Int32 → Int32 → Tau → Option (Int32 × Tau)) (t0 : Nat) (t3 : Nat) (a2 : Int32) (a4 : Int32) (a5 : Int32) (a6 : Int32) (τ : Tau) : Option (Int32 × Tau) :=
  if a6 = 19 then (if a4 ≤ 0 then (X2_run_j136 F self10 t0 t3 a2 a4 a5 a6 τ) else (ald τ (t0 + 6) 32 (a4 - 1) fun v8 => ast τ (t0 + 6) 32 (a4 - 1) (1 - v8) fun τ9 => X2_run_j175 F self10 t0 t3 a2 a4 a5 τ9)) else (X2_run_j136 F self10 t0 t3 a2 a4 a5 a6 τ)
theorem s_X2_run_j101 (F : Nat) (t0 : Nat) (t3 : Nat) {K : Ctx} (C : Cx K sysX RX2 cX2_run 8 2) (hr : Rt K (some .int)) (h0 : kdX t0 = 2) (h3 : kdX t3 = 20) (self10 : Int32 → Int32 → Int32 → Tau → Option (Int32 × Tau)) (ih10 : ∀ (a2 : Int32) (a4 : Int32) (a5 : Int32) (τ : Tau), Sm K sysX 8 (Qi K sysX) (self10 a2 a4 a5 τ) 10 [(0, .ref t0), (2, .int a2), (3, .ref t3), (4, .int a4), (5, .int a5)] [] τ) (a2 : Int32) (a4 : Int32) (a5 : Int32) (a6 : Int32) (τ : Tau) : Sm K sysX 8 (Qi K sysX) (X2_run_j101 F self10 t0 t3 a2 a4 a5 a6 τ) 101 [(0, .ref t0), (2, .int a2), (3, .ref t3), (4, .int a4), (5, .int a5), (6, .int a6)] [] τ := by
  unfold X2_run_j101
  refine sm_seg C [(.iload 6, 0), (.bipush 19, 19)] (pc' := 105) (L' := [(0, .ref t0), (2, .int a2), (3, .ref t3), (4, .int a4), (5, .int a5), (6, .int a6)]) (S' := [.int 19, .int a6]) (by decide +kernel) rfl ?_
  refine sm_icmpne 136 (off := 31) C (by decide +kernel) (by decide) (fun _ => ?_) (fun _ => ?_)
  · refine sm_seg C [(.iload 4, 0)] (pc' := 110) (L' := [(0, .ref t0), (2, .int a2), (3, .ref t3), (4, .int a4), (5, .int a5), (6, .int a6)]) (S' := [.int a4]) (by decide +kernel) rfl ?_
    refine sm_ifle 136 (off := 26) C (by decide +kernel) (by decide) (fun _ => ?_) (fun _ => ?_)
    · exact sm_sub [0, 1, 2, 3, 4, 5] rfl (s_X2_run_j136 F t0 t3 C hr h0 h3 self10 ih10 a2 a4 a5 a6 τ)
    · refine sm_seg C [(.aload_n 0, 0)] (pc' := 114) (L' := [(0, .ref t0), (2, .int a2), (3, .ref t3), (4, .int a4), (5, .int a5), (6, .int a6)]) (S' := [.ref t0]) (by decide +kernel) rfl ?_
      refine sm_getR 2 7 (t0 + 6) cls2 C (ltX h0 (by decide)) h0 (obX2 h0) (by decide) (frX2_7 h0) fl2_34 (by decide +kernel) ?_
      refine sm_seg C [(.iload 4, 0), (.iconst 1, 1), (.isub, 0), (.iconst 1, 1), (.aload_n 0, 0)] (pc' := 123) (L' := [(0, .ref t0), (2, .int a2), (3, .ref t3), (4, .int a4), (5, .int a5), (6, .int a6)]) (S' := [.ref t0, .int 1, .int (a4 - 1), .ref (t0 + 6)]) (by decide +kernel) rfl ?_
      refine sm_getR 2 7 (t0 + 6) cls2 C (ltX h0 (by decide)) h0 (obX2 h0) (by decide) (frX2_7 h0) fl2_34 (by decide +kernel) ?_
      refine sm_seg C [(.iload 4, 0), (.iconst 1, 1), (.isub, 0)] (pc' := 130) (L' := [(0, .ref t0), (2, .int a2), (3, .ref t3), (4, .int a4), (5, .int a5), (6, .int a6)]) (S' := [.int (a4 - 1), .ref (t0 + 6), .int 1, .int (a4 - 1), .ref (t0 + 6)]) (by decide +kernel) rfl ?_
      refine sm_ald 32 C (ltX (krX2_7 h0) (by decide)) (krX2_7 h0) (nrX2_7 h0) (by decide +kernel) (fun v8 => ?_)
      refine sm_seg C [(.isub, 0)] (pc' := 132) (L' := [(0, .ref t0), (2, .int a2), (3, .ref t3), (4, .int a4), (5, .int a5), (6, .int a6)]) (S' := [.int (1 - v8), .int (a4 - 1), .ref (t0 + 6)]) (by decide +kernel) rfl ?_
      refine sm_ast 32 C (ltX (krX2_7 h0) (by decide)) (krX2_7 h0) (nrX2_7 h0) (by decide +kernel) (fun τ9 => ?_)
      refine sm_seg C [(.goto 42, 0)] (pc' := 175) (L' := [(0, .ref t0), (2, .int a2), (3, .ref t3), (4, .int a4), (5, .int a5), (6, .int a6)]) (S' := []) (by decide +kernel) rfl ?_
      exact sm_sub [0, 1, 2, 3, 4] rfl (s_X2_run_j175 F t0 t3 C hr h0 h3 self10 ih10 a2 a4 a5 τ9)
  · exact sm_sub [0, 1, 2, 3, 4, 5] rfl (s_X2_run_j136 F t0 t3 C hr h0 h3 self10 ih10 a2 a4 a5 a6 τ)
def X2_run_j94 (F : Nat) (self10 : Int32 → Int32 → Int32 → Tau → Option (Int32 × Tau)) (t0 : Nat) (t3 : Nat) (a2 : Int32) (a4 : Int32) (a5 : Int32) (z0 : Int32) (z1 : Int32) (τ : Tau) : Option (Int32 × Tau) :=
  ast τ (t0 + 6) 32 z1 z0 fun τ12 => X2_run_j175 F self10 t0 t3 a2 (a4 + 1) a5 τ12
theorem s_X2_run_j94 (F : Nat) (t0 : Nat) (t3 : Nat) {K : Ctx} (C : Cx K sysX RX2 cX2_run 8 2) (hr : Rt K (some .int)) (h0 : kdX t0 = 2) (h3 : kdX t3 = 20) (self10 : Int32 → Int32 → Int32 → Tau → Option (Int32 × Tau)) (ih10 : ∀ (a2 : Int32) (a4 : Int32) (a5 : Int32) (τ : Tau), Sm K sysX 8 (Qi K sysX) (self10 a2 a4 a5 τ) 10 [(0, .ref t0), (2, .int a2), (3, .ref t3), (4, .int a4), (5, .int a5)] [] τ) (a2 : Int32) (a4 : Int32) (a5 : Int32) (z0 : Int32) (z1 : Int32) (τ : Tau) : Sm K sysX 8 (Qi K sysX) (X2_run_j94 F self10 t0 t3 a2 a4 a5 z0 z1 τ) 94 [(0, .ref t0), (2, .int a2), (3, .ref t3), (4, .int a4), (5, .int a5)] [.int z0, .int z1, .ref (t0 + 6)] τ := by
  unfold X2_run_j94
  refine sm_ast 32 C (ltX (krX2_7 h0) (by decide)) (krX2_7 h0) (nrX2_7 h0) (by decide +kernel) (fun τ12 => ?_)
  refine sm_seg C [(.iinc 4 1, 1), (.goto 77, 0)] (pc' := 175) (L' := [(4, .int (a4 + 1)), (0, .ref t0), (2, .int a2), (3, .ref t3), (5, .int a5)]) (S' := []) (by decide +kernel) rfl ?_
  exact sm_sub [1, 2, 3, 0, 4] rfl (s_X2_run_j175 F t0 t3 C hr h0 h3 self10 ih10 a2 (a4 + 1) a5 τ12)
def X2_run_j53 (F : Nat) (self10 : Int32 → Int32 → Int32 → Tau → Option (Int32 × Tau)) (t0 : Nat) (t3 : Nat) (a2 : Int32) (a4 : Int32) (a5 : Int32) (a6 : Int32) (z0 : Int32) (τ : Tau) : Option (Int32 × Tau) :=
  if z0 = 0 then (X2_run_j101 F self10 t0 t3 a2 a4 a5 a6 τ) else (if 32 ≤ a4 then (X2_run_j101 F self10 t0 t3 a2 a4 a5 a6 τ) else (if a6 < 32 then (cal (X10_entry F t3 a6 τ) fun r10 τ11 => X2_run_j94 F self10 t0 t3 a2 a4 a5 r10 a4 τ11) else (X2_run_j94 F self10 t0 t3 a2 a4 a5 (a6 - 32) a4 τ)))
theorem s_X2_run_j53 (F : Nat) (t0 : Nat) (t3 : Nat) {K : Ctx} (C : Cx K sysX RX2 cX2_run 8 2) (hr : Rt K (some .int)) (h0 : kdX t0 = 2) (h3 : kdX t3 = 20) (self10 : Int32 → Int32 → Int32 → Tau → Option (Int32 × Tau)) (ih10 : ∀ (a2 : Int32) (a4 : Int32) (a5 : Int32) (τ : Tau), Sm K sysX 8 (Qi K sysX) (self10 a2 a4 a5 τ) 10 [(0, .ref t0), (2, .int a2), (3, .ref t3), (4, .int a4), (5, .int a5)] [] τ) (a2 : Int32) (a4 : Int32) (a5 : Int32) (a6 : Int32) (z0 : Int32) (τ : Tau) : Sm K sysX 8 (Qi K sysX) (X2_run_j53 F self10 t0 t3 a2 a4 a5 a6 z0 τ) 53 [(0, .ref t0), (2, .int a2), (3, .ref t3), (4, .int a4), (5, .int a5), (6, .int a6)] [.int z0] τ := by
  unfold X2_run_j53
  refine sm_seg C [(.istore 7, 0), (.iload 7, 0)] (pc' := 57) (L' := [(7, .int z0), (0, .ref t0), (2, .int a2), (3, .ref t3), (4, .int a4), (5, .int a5), (6, .int a6)]) (S' := [.int z0]) (by decide +kernel) rfl ?_
  refine sm_ifeq 101 (off := 44) C (by decide +kernel) (by decide) (fun _ => ?_) (fun _ => ?_)
  · exact sm_sub [1, 2, 3, 4, 5, 6] rfl (s_X2_run_j101 F t0 t3 C hr h0 h3 self10 ih10 a2 a4 a5 a6 τ)
  · refine sm_seg C [(.iload 4, 0), (.bipush 32, 32)] (pc' := 64) (L' := [(7, .int z0), (0, .ref t0), (2, .int a2), (3, .ref t3), (4, .int a4), (5, .int a5), (6, .int a6)]) (S' := [.int 32, .int a4]) (by decide +kernel) rfl ?_
    refine sm_icmpge 101 (off := 37) C (by decide +kernel) (by decide) (fun _ => ?_) (fun _ => ?_)
    · exact sm_sub [1, 2, 3, 4, 5, 6] rfl (s_X2_run_j101 F t0 t3 C hr h0 h3 self10 ih10 a2 a4 a5 a6 τ)
    · refine sm_seg C [(.aload_n 0, 0)] (pc' := 68) (L' := [(7, .int z0), (0, .ref t0), (2, .int a2), (3, .ref t3), (4, .int a4), (5, .int a5), (6, .int a6)]) (S' := [.ref t0]) (by decide +kernel) rfl ?_
      refine sm_getR 2 7 (t0 + 6) cls2 C (ltX h0 (by decide)) h0 (obX2 h0) (by decide) (frX2_7 h0) fl2_34 (by decide +kernel) ?_
      refine sm_seg C [(.iload 4, 0), (.iload 6, 0), (.bipush 32, 32)] (pc' := 77) (L' := [(7, .int z0), (0, .ref t0), (2, .int a2), (3, .ref t3), (4, .int a4), (5, .int a5), (6, .int a6)]) (S' := [.int 32, .int a6, .int a4, .ref (t0 + 6)]) (by decide +kernel) rfl ?_
      refine sm_icmplt 88 (off := 11) C (by decide +kernel) (by decide) (fun _ => ?_) (fun _ => ?_)
      · refine sm_seg C [(.aload_n 3, 0), (.iload 6, 0)] (pc' := 91) (L' := [(7, .int z0), (0, .ref t0), (2, .int a2), (3, .ref t3), (4, .int a4), (5, .int a5), (6, .int a6)]) (S' := [.int a6, .ref t3, .int a4, .ref (t0 + 6)]) (by decide +kernel) rfl ?_
        refine sm_ncal "BasketEnvoys" [.ref t3, .int a6] [.int a4, .ref (t0 + 6)] rfl C mw_X10_entry ml_2_51 rfl ⟨by decide, by decide⟩ (Nat.le_of_ble_eq_true rfl) (by decide +kernel) (c_X10_entry F t3 h3 a6 τ) (fun r10 τ11 => ?_)
        exact sm_sub [1, 2, 3, 4, 5] rfl (s_X2_run_j94 F t0 t3 C hr h0 h3 self10 ih10 a2 a4 a5 r10 a4 τ11)
      · refine sm_seg C [(.iload 6, 0), (.bipush 32, 32), (.isub, 0), (.goto 9, 0)] (pc' := 94) (L' := [(7, .int z0), (0, .ref t0), (2, .int a2), (3, .ref t3), (4, .int a4), (5, .int a5), (6, .int a6)]) (S' := [.int (a6 - 32), .int a4, .ref (t0 + 6)]) (by decide +kernel) rfl ?_
        exact sm_sub [1, 2, 3, 4, 5] rfl (s_X2_run_j94 F t0 t3 C hr h0 h3 self10 ih10 a2 a4 a5 (a6 - 32) a4 τ)
def X2_run_j48 (F : Nat) (self10 : Int32 → Int32 → Int32 → Tau → Option (Int32 × Tau)) (t0 : Nat) (t3 : Nat) (a2 : Int32) (a4 : Int32) (a5 : Int32) (a6 : Int32) (τ : Tau) : Option (Int32 × Tau) :=
  X2_run_j53 F self10 t0 t3 a2 a4 a5 a6 1 τ
theorem s_X2_run_j48 (F : Nat) (t0 : Nat) (t3 : Nat) {K : Ctx} (C : Cx K sysX RX2 cX2_run 8 2) (hr : Rt K (some .int)) (h0 : kdX t0 = 2) (h3 : kdX t3 = 20) (self10 : Int32 → Int32 → Int32 → Tau → Option (Int32 × Tau)) (ih10 : ∀ (a2 : Int32) (a4 : Int32) (a5 : Int32) (τ : Tau), Sm K sysX 8 (Qi K sysX) (self10 a2 a4 a5 τ) 10 [(0, .ref t0), (2, .int a2), (3, .ref t3), (4, .int a4), (5, .int a5)] [] τ) (a2 : Int32) (a4 : Int32) (a5 : Int32) (a6 : Int32) (τ : Tau) : Sm K sysX 8 (Qi K sysX) (X2_run_j48 F self10 t0 t3 a2 a4 a5 a6 τ) 48 [(0, .ref t0), (2, .int a2), (3, .ref t3), (4, .int a4), (5, .int a5), (6, .int a6)] [] τ := by
  unfold X2_run_j48
  refine sm_seg C [(.iconst 1, 1), (.goto 4, 0)] (pc' := 53) (L' := [(0, .ref t0), (2, .int a2), (3, .ref t3), (4, .int a4), (5, .int a5), (6, .int a6)]) (S' := [.int 1]) (by decide +kernel) rfl ?_
  exact sm_sub [0, 1, 2, 3, 4, 5] rfl (s_X2_run_j53 F t0 t3 C hr h0 h3 self10 ih10 a2 a4 a5 a6 1 τ)
def X2_run_L10 (F : Nat) (t0 : Nat) (t3 : Nat) : Nat → Int32 → Int32 → Int32 → Tau → Option (Int32 × Tau)
  | 0, _, _, _, _ => none
  | n + 1, a2, a4, a5, τ =>
    if a2 ≤ a5 then (X2_run_j181 F t0 t3 a4 τ) else (if (τ t0 1) ≤ a5 then (X2_run_j181 F t0 t3 a4 τ) else (ald τ (t0 + 5) 400 a5 fun v2 => if 32 ≤ v2 then (X2_run_j48 F (X2_run_L10 F t0 t3 n) t0 t3 a2 a4 a5 v2 τ) else (if 10 ≤ v2 then (X2_run_j53 F (X2_run_L10 F t0 t3 n) t0 t3 a2 a4 a5 v2 0 τ) else (X2_run_j48 F (X2_run_L10 F t0 t3 n) t0 t3 a2 a4 a5 v2 τ))))
theorem s_X2_run_L10 (F : Nat) (t0 : Nat) (t3 : Nat) {K : Ctx} (C : Cx K sysX RX2 cX2_run 8 2) (hr : Rt K (some .int)) (h0 : kdX t0 = 2) (h3 : kdX t3 = 20) : ∀ (n : Nat) (a2 : Int32) (a4 : Int32) (a5 : Int32) (τ : Tau), Sm K sysX 8 (Qi K sysX) (X2_run_L10 F t0 t3 n a2 a4 a5 τ) 10 [(0, .ref t0), (2, .int a2), (3, .ref t3), (4, .int a4), (5, .int a5)] [] τ := by
  intro n
  induction n with
  | zero => intro a2 a4 a5 τ; exact sm_none
  | succ n ih =>
    intro a2 a4 a5 τ
    rw [X2_run_L10]
    refine sm_seg C [(.iload 5, 0), (.iload_n 2, 0)] (pc' := 13) (L' := [(0, .ref t0), (2, .int a2), (3, .ref t3), (4, .int a4), (5, .int a5)]) (S' := [.int a2, .int a5]) (by decide +kernel) rfl ?_
    refine sm_icmpge 181 (off := 168) C (by decide +kernel) (by decide) (fun _ => ?_) (fun _ => ?_)
    · exact sm_sub [0, 3] rfl (s_X2_run_j181 F t0 t3 C hr h0 h3 a4 τ)
    · refine sm_seg C [(.iload 5, 0), (.aload_n 0, 0)] (pc' := 19) (L' := [(0, .ref t0), (2, .int a2), (3, .ref t3), (4, .int a4), (5, .int a5)]) (S' := [.ref t0, .int a5]) (by decide +kernel) rfl ?_
      refine sm_getI 2 1 cls2 C (ltX h0 (by decide)) h0 (obX2 h0) (by decide) (fiX2_1 h0) fl2_15 (by decide +kernel) ?_
      refine sm_icmpge 181 (off := 159) C (by decide +kernel) (by decide) (fun _ => ?_) (fun _ => ?_)
      · exact sm_sub [0, 3] rfl (s_X2_run_j181 F t0 t3 C hr h0 h3 a4 τ)
      · refine sm_seg C [(.aload_n 0, 0)] (pc' := 26) (L' := [(0, .ref t0), (2, .int a2), (3, .ref t3), (4, .int a4), (5, .int a5)]) (S' := [.ref t0]) (by decide +kernel) rfl ?_
        refine sm_getR 2 6 (t0 + 5) cls2 C (ltX h0 (by decide)) h0 (obX2 h0) (by decide) (frX2_6 h0) fl2_31 (by decide +kernel) ?_
        refine sm_seg C [(.iload 5, 0)] (pc' := 31) (L' := [(0, .ref t0), (2, .int a2), (3, .ref t3), (4, .int a4), (5, .int a5)]) (S' := [.int a5, .ref (t0 + 5)]) (by decide +kernel) rfl ?_
        refine sm_ald 400 C (ltX (krX2_6 h0) (by decide)) (krX2_6 h0) (nrX2_6 h0) (by decide +kernel) (fun v2 => ?_)
        refine sm_seg C [(.istore 6, 0), (.iload 6, 0), (.bipush 32, 32)] (pc' := 38) (L' := [(6, .int v2), (0, .ref t0), (2, .int a2), (3, .ref t3), (4, .int a4), (5, .int a5)]) (S' := [.int 32, .int v2]) (by decide +kernel) rfl ?_
        refine sm_icmpge 48 (off := 10) C (by decide +kernel) (by decide) (fun _ => ?_) (fun _ => ?_)
        · exact sm_sub [1, 2, 3, 4, 5, 0] rfl (s_X2_run_j48 F t0 t3 C hr h0 h3 (X2_run_L10 F t0 t3 n) ih a2 a4 a5 v2 τ)
        · refine sm_seg C [(.iload 6, 0), (.bipush 10, 10)] (pc' := 45) (L' := [(6, .int v2), (0, .ref t0), (2, .int a2), (3, .ref t3), (4, .int a4), (5, .int a5)]) (S' := [.int 10, .int v2]) (by decide +kernel) rfl ?_
          refine sm_icmpge 52 (off := 7) C (by decide +kernel) (by decide) (fun _ => ?_) (fun _ => ?_)
          · refine sm_seg C [(.iconst 0, 0)] (pc' := 53) (L' := [(6, .int v2), (0, .ref t0), (2, .int a2), (3, .ref t3), (4, .int a4), (5, .int a5)]) (S' := [.int 0]) (by decide +kernel) rfl ?_
            exact sm_sub [1, 2, 3, 4, 5, 0] rfl (s_X2_run_j53 F t0 t3 C hr h0 h3 (X2_run_L10 F t0 t3 n) ih a2 a4 a5 v2 0 τ)
          · exact sm_sub [1, 2, 3, 4, 5, 0] rfl (s_X2_run_j48 F t0 t3 C hr h0 h3 (X2_run_L10 F t0 t3 n) ih a2 a4 a5 v2 τ)
def X2_run (F : Nat) (t0 : Nat) (t3 : Nat) (a1 : Int32) (a2 : Int32) (τ : Tau) : Option (Int32 × Tau) :=
  X2_run_L10 F t0 t3 F a2 0 (imax 0 a1) τ
set_option maxRecDepth 20000 in
set_option maxHeartbeats 4000000 in
theorem c_X2_run (F : Nat) (t0 : Nat) (t3 : Nat) (h0 : kdX t0 = 2) (h3 : kdX t3 = 20) (a1 : Int32) (a2 : Int32) (τ : Tau) (r : Int32) (τ' : Tau) (h : X2_run F t0 t3 a1 a2 τ = some (r, τ')) : MCi sysX yX2_run cX2_run 8 (some .int) 2 [.ref t0, .int a1, .int a2, .ref t3] τ r τ' :=
  mci_of (by decide +kernel) (Nat.le_of_ble_eq_true rfl) (fun K C hr => by
    show Sm K sysX 8 (Qi K sysX) (X2_run F t0 t3 a1 a2 τ) 0 [(0, .ref t0), (1, .int a1), (2, .int a2), (3, .ref t3)] [] τ
    unfold X2_run
    refine sm_seg C [(.iconst 0, 0), (.istore 4, 0), (.iconst 0, 0), (.iload_n 1, 0)] (pc' := 5) (L' := [(4, .int 0), (0, .ref t0), (1, .int a1), (2, .int a2), (3, .ref t3)]) (S' := [.int a1, .int 0]) (by decide +kernel) rfl ?_
    refine sm_max C (by decide) ml_2_45 jw_maxs jw_math jw_maxc (Nat.le_of_ble_eq_true rfl) (by decide +kernel) ?_
    refine sm_seg C [(.istore 5, 0)] (pc' := 10) (L' := [(5, .int (imax 0 a1)), (4, .int 0), (0, .ref t0), (1, .int a1), (2, .int a2), (3, .ref t3)]) (S' := []) (by decide +kernel) rfl ?_
    exact sm_sub [2, 4, 5, 1, 0] rfl (s_X2_run_L10 F t0 t3 C hr h0 h3 F a2 0 (imax 0 a1) τ)) h
/-! BasketEnvoys_Law.tell -/
def X2_tell_j103 (F : Nat) (self3 : Int32 → Int32 → Int32 → Tau → Option (Int32 × Tau)) (t0 : Nat) (t2 : Nat) (a1 : Int32) (a3 : Int32) (a4 : Int32) (τ : Tau) : Option (Int32 × Tau) :=
  self3 a1 a3 (a4 + 1) τ
theorem s_X2_tell_j103 (F : Nat) (t0 : Nat) (t2 : Nat) {K : Ctx} (C : Cx K sysX RX2 cX2_tell 5 3) (hr : Rt K (some .int)) (h0 : kdX t0 = 2) (h2 : kdX t2 = 20) (self3 : Int32 → Int32 → Int32 → Tau → Option (Int32 × Tau)) (ih3 : ∀ (a1 : Int32) (a3 : Int32) (a4 : Int32) (τ : Tau), Sm K sysX 5 (Qi K sysX) (self3 a1 a3 a4 τ) 3 [(0, .ref t0), (1, .int a1), (2, .ref t2), (3, .int a3), (4, .int a4)] [] τ) (a1 : Int32) (a3 : Int32) (a4 : Int32) (τ : Tau) : Sm K sysX 5 (Qi K sysX) (X2_tell_j103 F self3 t0 t2 a1 a3 a4 τ) 103 [(0, .ref t0), (1, .int a1), (2, .ref t2), (3, .int a3), (4, .int a4)] [] τ := by
  unfold X2_tell_j103
  refine sm_seg C [(.iinc 4 1, 1), (.goto (-103), 0)] (pc' := 3) (L' := [(4, .int (a4 + 1)), (0, .ref t0), (1, .int a1), (2, .ref t2), (3, .int a3)]) (S' := []) (by decide +kernel) rfl ?_
  exact sm_sub [1, 2, 3, 4, 0] rfl (ih3 a1 a3 (a4 + 1) τ)
def X2_tell_L3 (F : Nat) (t0 : Nat) (t2 : Nat) : Nat → Int32 → Int32 → Int32 → Tau → Option (Int32 × Tau)
  | 0, _, _, _, _ => none
  | n + 1, a1, a3, a4, τ =>
    if (τ t0 0) ≤ a4 then (some (a3, τ)) else (if 16 ≤ a4 then (some (a3, τ)) else (ald τ (t0 + 1) 16 a4 fun v1 => if v1 = a1 then (ald τ (t0 + 3) 16 a4 fun v2 => if v2 = (-1) then (ald τ (t0 + 2) 16 a4 fun v3 => ald τ (t0 + 4) 16 a4 fun v4 => cal (X2_run F t0 t2 v3 v4 τ) fun r5 τ6 => some (r5, τ6)) else (ald τ (t0 + 3) 16 a4 fun v7 => ald τ (t0 + 4) 16 a4 fun v8 => cal (X2_run F t0 t2 v7 v8 τ) fun r9 τ10 => if r9 = 0 then (X2_tell_j103 F (X2_tell_L3 F t0 t2 n) t0 t2 a1 a3 a4 τ10) else (ald τ10 (t0 + 2) 16 a4 fun v11 => ald τ10 (t0 + 3) 16 a4 fun v12 => cal (X2_run F t0 t2 v11 v12 τ10) fun r13 τ14 => some (r13, τ14)))) else (X2_tell_j103 F (X2_tell_L3 F t0 t2 n) t0 t2 a1 a3 a4 τ)))
theorem s_X2_tell_L3 (F : Nat) (t0 : Nat) (t2 : Nat) {K : Ctx} (C : Cx K sysX RX2 cX2_tell 5 3) (hr : Rt K (some .int)) (h0 : kdX t0 = 2) (h2 : kdX t2 = 20) : ∀ (n : Nat) (a1 : Int32) (a3 : Int32) (a4 : Int32) (τ : Tau), Sm K sysX 5 (Qi K sysX) (X2_tell_L3 F t0 t2 n a1 a3 a4 τ) 3 [(0, .ref t0), (1, .int a1), (2, .ref t2), (3, .int a3), (4, .int a4)] [] τ := by
  intro n
  induction n with
  | zero => intro a1 a3 a4 τ; exact sm_none
  | succ n ih =>
    intro a1 a3 a4 τ
    rw [X2_tell_L3]
    refine sm_seg C [(.iload 4, 0), (.aload_n 0, 0)] (pc' := 6) (L' := [(0, .ref t0), (1, .int a1), (2, .ref t2), (3, .int a3), (4, .int a4)]) (S' := [.ref t0, .int a4]) (by decide +kernel) rfl ?_
    refine sm_getI 2 0 cls2 C (ltX h0 (by decide)) h0 (obX2 h0) (by decide) (fiX2_0 h0) fl2_9 (by decide +kernel) ?_
    refine sm_icmpge 109 (off := 100) C (by decide +kernel) (by decide) (fun _ => ?_) (fun _ => ?_)
    · refine sm_seg C [(.iload_n 3, 0)] (pc' := 110) (L' := [(0, .ref t0), (1, .int a1), (2, .ref t2), (3, .int a3), (4, .int a4)]) (S' := [.int a3]) (by decide +kernel) rfl ?_
      exact sm_iret C hr rfl (by decide +kernel)
    · refine sm_seg C [(.iload 4, 0), (.bipush 16, 16)] (pc' := 16) (L' := [(0, .ref t0), (1, .int a1), (2, .ref t2), (3, .int a3), (4, .int a4)]) (S' := [.int 16, .int a4]) (by decide +kernel) rfl ?_
      refine sm_icmpge 109 (off := 93) C (by decide +kernel) (by decide) (fun _ => ?_) (fun _ => ?_)
      · refine sm_seg C [(.iload_n 3, 0)] (pc' := 110) (L' := [(0, .ref t0), (1, .int a1), (2, .ref t2), (3, .int a3), (4, .int a4)]) (S' := [.int a3]) (by decide +kernel) rfl ?_
        exact sm_iret C hr rfl (by decide +kernel)
      · refine sm_seg C [(.aload_n 0, 0)] (pc' := 20) (L' := [(0, .ref t0), (1, .int a1), (2, .ref t2), (3, .int a3), (4, .int a4)]) (S' := [.ref t0]) (by decide +kernel) rfl ?_
        refine sm_getR 2 2 (t0 + 1) cls2 C (ltX h0 (by decide)) h0 (obX2 h0) (by decide) (frX2_2 h0) fl2_18 (by decide +kernel) ?_
        refine sm_seg C [(.iload 4, 0)] (pc' := 25) (L' := [(0, .ref t0), (1, .int a1), (2, .ref t2), (3, .int a3), (4, .int a4)]) (S' := [.int a4, .ref (t0 + 1)]) (by decide +kernel) rfl ?_
        refine sm_ald 16 C (ltX (krX2_2 h0) (by decide)) (krX2_2 h0) (nrX2_2 h0) (by decide +kernel) (fun v1 => ?_)
        refine sm_seg C [(.iload_n 1, 0)] (pc' := 27) (L' := [(0, .ref t0), (1, .int a1), (2, .ref t2), (3, .int a3), (4, .int a4)]) (S' := [.int a1, .int v1]) (by decide +kernel) rfl ?_
        refine sm_icmpne 103 (off := 76) C (by decide +kernel) (by decide) (fun _ => ?_) (fun _ => ?_)
        · refine sm_seg C [(.aload_n 0, 0)] (pc' := 31) (L' := [(0, .ref t0), (1, .int a1), (2, .ref t2), (3, .int a3), (4, .int a4)]) (S' := [.ref t0]) (by decide +kernel) rfl ?_
          refine sm_getR 2 4 (t0 + 3) cls2 C (ltX h0 (by decide)) h0 (obX2 h0) (by decide) (frX2_4 h0) fl2_25 (by decide +kernel) ?_
          refine sm_seg C [(.iload 4, 0)] (pc' := 36) (L' := [(0, .ref t0), (1, .int a1), (2, .ref t2), (3, .int a3), (4, .int a4)]) (S' := [.int a4, .ref (t0 + 3)]) (by decide +kernel) rfl ?_
          refine sm_ald 16 C (ltX (krX2_4 h0) (by decide)) (krX2_4 h0) (nrX2_4 h0) (by decide +kernel) (fun v2 => ?_)
          refine sm_seg C [(.iconst (-1), (-1))] (pc' := 38) (L' := [(0, .ref t0), (1, .int a1), (2, .ref t2), (3, .int a3), (4, .int a4)]) (S' := [.int (-1), .int v2]) (by decide +kernel) rfl ?_
          refine sm_icmpne 61 (off := 23) C (by decide +kernel) (by decide) (fun _ => ?_) (fun _ => ?_)
          · refine sm_seg C [(.aload_n 0, 0), (.aload_n 0, 0)] (pc' := 43) (L' := [(0, .ref t0), (1, .int a1), (2, .ref t2), (3, .int a3), (4, .int a4)]) (S' := [.ref t0, .ref t0]) (by decide +kernel) rfl ?_
            refine sm_getR 2 3 (t0 + 2) cls2 C (ltX h0 (by decide)) h0 (obX2 h0) (by decide) (frX2_3 h0) fl2_22 (by decide +kernel) ?_
            refine sm_seg C [(.iload 4, 0)] (pc' := 48) (L' := [(0, .ref t0), (1, .int a1), (2, .ref t2), (3, .int a3), (4, .int a4)]) (S' := [.int a4, .ref (t0 + 2), .ref t0]) (by decide +kernel) rfl ?_
            refine sm_ald 16 C (ltX (krX2_3 h0) (by decide)) (krX2_3 h0) (nrX2_3 h0) (by decide +kernel) (fun v3 => ?_)
            refine sm_seg C [(.aload_n 0, 0)] (pc' := 50) (L' := [(0, .ref t0), (1, .int a1), (2, .ref t2), (3, .int a3), (4, .int a4)]) (S' := [.ref t0, .int v3, .ref t0]) (by decide +kernel) rfl ?_
            refine sm_getR 2 5 (t0 + 4) cls2 C (ltX h0 (by decide)) h0 (obX2 h0) (by decide) (frX2_5 h0) fl2_28 (by decide +kernel) ?_
            refine sm_seg C [(.iload 4, 0)] (pc' := 55) (L' := [(0, .ref t0), (1, .int a1), (2, .ref t2), (3, .int a3), (4, .int a4)]) (S' := [.int a4, .ref (t0 + 4), .int v3, .ref t0]) (by decide +kernel) rfl ?_
            refine sm_ald 16 C (ltX (krX2_5 h0) (by decide)) (krX2_5 h0) (nrX2_5 h0) (by decide +kernel) (fun v4 => ?_)
            refine sm_seg C [(.aload_n 2, 0)] (pc' := 57) (L' := [(0, .ref t0), (1, .int a1), (2, .ref t2), (3, .int a3), (4, .int a4)]) (S' := [.ref t2, .int v4, .int v3, .ref t0]) (by decide +kernel) rfl ?_
            refine sm_vcal [.int v3, .int v4, .ref t2] [] rfl C mw_X2_run ml_2_41 rfl (ci := 2) rfl (ltX h0 (by decide)) h0 (by decide) ⟨by decide, by decide⟩ (Nat.le_of_ble_eq_true rfl) (by decide +kernel) (c_X2_run F t0 t2 h0 h2 v3 v4 τ) (fun r5 τ6 => ?_)
            exact sm_iret C hr rfl (by decide +kernel)
          · refine sm_seg C [(.aload_n 0, 0), (.aload_n 0, 0)] (pc' := 63) (L' := [(0, .ref t0), (1, .int a1), (2, .ref t2), (3, .int a3), (4, .int a4)]) (S' := [.ref t0, .ref t0]) (by decide +kernel) rfl ?_
            refine sm_getR 2 4 (t0 + 3) cls2 C (ltX h0 (by decide)) h0 (obX2 h0) (by decide) (frX2_4 h0) fl2_25 (by decide +kernel) ?_
            refine sm_seg C [(.iload 4, 0)] (pc' := 68) (L' := [(0, .ref t0), (1, .int a1), (2, .ref t2), (3, .int a3), (4, .int a4)]) (S' := [.int a4, .ref (t0 + 3), .ref t0]) (by decide +kernel) rfl ?_
            refine sm_ald 16 C (ltX (krX2_4 h0) (by decide)) (krX2_4 h0) (nrX2_4 h0) (by decide +kernel) (fun v7 => ?_)
            refine sm_seg C [(.aload_n 0, 0)] (pc' := 70) (L' := [(0, .ref t0), (1, .int a1), (2, .ref t2), (3, .int a3), (4, .int a4)]) (S' := [.ref t0, .int v7, .ref t0]) (by decide +kernel) rfl ?_
            refine sm_getR 2 5 (t0 + 4) cls2 C (ltX h0 (by decide)) h0 (obX2 h0) (by decide) (frX2_5 h0) fl2_28 (by decide +kernel) ?_
            refine sm_seg C [(.iload 4, 0)] (pc' := 75) (L' := [(0, .ref t0), (1, .int a1), (2, .ref t2), (3, .int a3), (4, .int a4)]) (S' := [.int a4, .ref (t0 + 4), .int v7, .ref t0]) (by decide +kernel) rfl ?_
            refine sm_ald 16 C (ltX (krX2_5 h0) (by decide)) (krX2_5 h0) (nrX2_5 h0) (by decide +kernel) (fun v8 => ?_)
            refine sm_seg C [(.aload_n 2, 0)] (pc' := 77) (L' := [(0, .ref t0), (1, .int a1), (2, .ref t2), (3, .int a3), (4, .int a4)]) (S' := [.ref t2, .int v8, .int v7, .ref t0]) (by decide +kernel) rfl ?_
            refine sm_vcal [.int v7, .int v8, .ref t2] [] rfl C mw_X2_run ml_2_41 rfl (ci := 2) rfl (ltX h0 (by decide)) h0 (by decide) ⟨by decide, by decide⟩ (Nat.le_of_ble_eq_true rfl) (by decide +kernel) (c_X2_run F t0 t2 h0 h2 v7 v8 τ) (fun r9 τ10 => ?_)
            refine sm_ifeq 103 (off := 23) C (by decide +kernel) (by decide) (fun _ => ?_) (fun _ => ?_)
            · exact sm_sub [0, 1, 2, 3, 4] rfl (s_X2_tell_j103 F t0 t2 C hr h0 h2 (X2_tell_L3 F t0 t2 n) ih a1 a3 a4 τ10)
            · refine sm_seg C [(.aload_n 0, 0), (.aload_n 0, 0)] (pc' := 85) (L' := [(0, .ref t0), (1, .int a1), (2, .ref t2), (3, .int a3), (4, .int a4)]) (S' := [.ref t0, .ref t0]) (by decide +kernel) rfl ?_
              refine sm_getR 2 3 (t0 + 2) cls2 C (ltX h0 (by decide)) h0 (obX2 h0) (by decide) (frX2_3 h0) fl2_22 (by decide +kernel) ?_
              refine sm_seg C [(.iload 4, 0)] (pc' := 90) (L' := [(0, .ref t0), (1, .int a1), (2, .ref t2), (3, .int a3), (4, .int a4)]) (S' := [.int a4, .ref (t0 + 2), .ref t0]) (by decide +kernel) rfl ?_
              refine sm_ald 16 C (ltX (krX2_3 h0) (by decide)) (krX2_3 h0) (nrX2_3 h0) (by decide +kernel) (fun v11 => ?_)
              refine sm_seg C [(.aload_n 0, 0)] (pc' := 92) (L' := [(0, .ref t0), (1, .int a1), (2, .ref t2), (3, .int a3), (4, .int a4)]) (S' := [.ref t0, .int v11, .ref t0]) (by decide +kernel) rfl ?_
              refine sm_getR 2 4 (t0 + 3) cls2 C (ltX h0 (by decide)) h0 (obX2 h0) (by decide) (frX2_4 h0) fl2_25 (by decide +kernel) ?_
              refine sm_seg C [(.iload 4, 0)] (pc' := 97) (L' := [(0, .ref t0), (1, .int a1), (2, .ref t2), (3, .int a3), (4, .int a4)]) (S' := [.int a4, .ref (t0 + 3), .int v11, .ref t0]) (by decide +kernel) rfl ?_
              refine sm_ald 16 C (ltX (krX2_4 h0) (by decide)) (krX2_4 h0) (nrX2_4 h0) (by decide +kernel) (fun v12 => ?_)
              refine sm_seg C [(.aload_n 2, 0)] (pc' := 99) (L' := [(0, .ref t0), (1, .int a1), (2, .ref t2), (3, .int a3), (4, .int a4)]) (S' := [.ref t2, .int v12, .int v11, .ref t0]) (by decide +kernel) rfl ?_
              refine sm_vcal [.int v11, .int v12, .ref t2] [] rfl C mw_X2_run ml_2_41 rfl (ci := 2) rfl (ltX h0 (by decide)) h0 (by decide) ⟨by decide, by decide⟩ (Nat.le_of_ble_eq_true rfl) (by decide +kernel) (c_X2_run F t0 t2 h0 h2 v11 v12 τ10) (fun r13 τ14 => ?_)
              exact sm_iret C hr rfl (by decide +kernel)
        · exact sm_sub [0, 1, 2, 3, 4] rfl (s_X2_tell_j103 F t0 t2 C hr h0 h2 (X2_tell_L3 F t0 t2 n) ih a1 a3 a4 τ)
def X2_tell (F : Nat) (t0 : Nat) (t2 : Nat) (a1 : Int32) (a3 : Int32) (τ : Tau) : Option (Int32 × Tau) :=
  X2_tell_L3 F t0 t2 F a1 a3 0 τ
set_option maxRecDepth 20000 in
set_option maxHeartbeats 4000000 in
theorem c_X2_tell (F : Nat) (t0 : Nat) (t2 : Nat) (h0 : kdX t0 = 2) (h2 : kdX t2 = 20) (a1 : Int32) (a3 : Int32) (τ : Tau) (r : Int32) (τ' : Tau) (h : X2_tell F t0 t2 a1 a3 τ = some (r, τ')) : MCi sysX yX2_tell cX2_tell 5 (some .int) 3 [.ref t0, .int a1, .ref t2, .int a3] τ r τ' :=
  mci_of (by decide +kernel) (Nat.le_of_ble_eq_true rfl) (fun K C hr => by
    show Sm K sysX 5 (Qi K sysX) (X2_tell F t0 t2 a1 a3 τ) 0 [(0, .ref t0), (1, .int a1), (2, .ref t2), (3, .int a3)] [] τ
    unfold X2_tell
    refine sm_seg C [(.iconst 0, 0), (.istore 4, 0)] (pc' := 3) (L' := [(4, .int 0), (0, .ref t0), (1, .int a1), (2, .ref t2), (3, .int a3)]) (S' := []) (by decide +kernel) rfl ?_
    exact sm_sub [1, 2, 3, 4, 0] rfl (s_X2_tell_L3 F t0 t2 C hr h0 h2 F a1 a3 0 τ)) h
/-! BasketEnvoys_Course.ask -/
def X0_ask_j123 (F : Nat) (t1 : Nat) (a5 : Int32) (z0 : Int32) (z1 : Int32) (τ : Tau) : Option (Int32 × Tau) :=
  some ((imax z1 (imin z0 a5)), τ)
theorem s_X0_ask_j123 (F : Nat) (t1 : Nat) {K : Ctx} (C : Cx K sysX RX0 cX0_ask 6 4) (hr : Rt K (some .int)) (h1 : kdX t1 = 8) (a5 : Int32) (z0 : Int32) (z1 : Int32) (τ : Tau) : Sm K sysX 6 (Qi K sysX) (X0_ask_j123 F t1 a5 z0 z1 τ) 123 [(5, .int a5)] [.int z0, .int z1] τ := by
  unfold X0_ask_j123
  refine sm_seg C [(.iload 5, 0)] (pc' := 125) (L' := [(5, .int a5)]) (S' := [.int a5, .int z0, .int z1]) (by decide +kernel) rfl ?_
  refine sm_min C (by decide) ml_0_100 jw_mins jw_math jw_minc (Nat.le_of_ble_eq_true rfl) (by decide +kernel) ?_
  refine sm_max C (by decide) ml_0_154 jw_maxs jw_math jw_maxc (Nat.le_of_ble_eq_true rfl) (by decide +kernel) ?_
  exact sm_iret C hr rfl (by decide +kernel)
def X0_ask_j90 (F : Nat) (t1 : Nat) (a3 : Int32) (a4 : Int32) (τ : Tau) : Option (Int32 × Tau) :=
  cal (X2_tell F 39 212 a3 a4 τ) fun r7 τ8 => if a3 = 2 then (X0_ask_j123 F t1 r7 99 0 τ8) else (X0_ask_j123 F t1 r7 1000 0 τ8)
theorem s_X0_ask_j90 (F : Nat) (t1 : Nat) {K : Ctx} (C : Cx K sysX RX0 cX0_ask 6 4) (hr : Rt K (some .int)) (h1 : kdX t1 = 8) (a3 : Int32) (a4 : Int32) (τ : Tau) : Sm K sysX 6 (Qi K sysX) (X0_ask_j90 F t1 a3 a4 τ) 90 [(0, .ref 211), (3, .int a3), (4, .int a4)] [] τ := by
  unfold X0_ask_j90
  refine sm_seg C [(.aload_n 0, 0)] (pc' := 91) (L' := [(0, .ref 211), (3, .int a3), (4, .int a4)]) (S' := [.ref 211]) (by decide +kernel) rfl ?_
  refine sm_getR 0 0 1 cls0 C (ltX (by decide +kernel : kdX 211 = 0) (by decide)) (by decide +kernel : kdX 211 = 0) (obX0 (by decide +kernel : kdX 211 = 0)) (by decide) (frX0_0 (by decide +kernel : kdX 211 = 0)) fl0_15 (by decide +kernel) ?_
  refine sm_getR 9 2 39 cls9 C (ltX (krX0_0 (by decide +kernel : kdX 211 = 0)) (by decide)) (krX0_0 (by decide +kernel : kdX 211 = 0)) (obX9 (krX0_0 (by decide +kernel : kdX 211 = 0))) (by decide) (frX9_2 (krX0_0 (by decide +kernel : kdX 211 = 0))) fl0_169 (by decide +kernel) ?_
  refine sm_seg C [(.iload_n 3, 0), (.aload_n 0, 0)] (pc' := 99) (L' := [(0, .ref 211), (3, .int a3), (4, .int a4)]) (S' := [.ref 211, .int a3, .ref 39]) (by decide +kernel) rfl ?_
  refine sm_getR 0 1 212 cls0 C (ltX (by decide +kernel : kdX 211 = 0) (by decide)) (by decide +kernel : kdX 211 = 0) (obX0 (by decide +kernel : kdX 211 = 0)) (by decide) (frX0_1 (by decide +kernel : kdX 211 = 0)) fl0_9 (by decide +kernel) ?_
  refine sm_seg C [(.iload 4, 0)] (pc' := 104) (L' := [(0, .ref 211), (3, .int a3), (4, .int a4)]) (S' := [.int a4, .ref 212, .int a3, .ref 39]) (by decide +kernel) rfl ?_
  refine sm_vcal [.int a3, .ref 212, .int a4] [] rfl C mw_X2_tell ml_0_173 rfl (ci := 2) rfl (ltX (krX9_2 (krX0_0 (by decide +kernel : kdX 211 = 0))) (by decide)) (krX9_2 (krX0_0 (by decide +kernel : kdX 211 = 0))) (by decide) ⟨by decide, by decide⟩ (Nat.le_of_ble_eq_true rfl) (by decide +kernel) (c_X2_tell F 39 212 (krX9_2 (krX0_0 (by decide +kernel : kdX 211 = 0))) (krX0_1 (by decide +kernel : kdX 211 = 0)) a3 a4 τ) (fun r7 τ8 => ?_)
  refine sm_seg C [(.istore 5, 0), (.iconst 0, 0), (.iload_n 3, 0), (.iconst 2, 2)] (pc' := 112) (L' := [(5, .int r7), (0, .ref 211), (3, .int a3), (4, .int a4)]) (S' := [.int 2, .int a3, .int 0]) (by decide +kernel) rfl ?_
  refine sm_icmpne 120 (off := 8) C (by decide +kernel) (by decide) (fun _ => ?_) (fun _ => ?_)
  · refine sm_seg C [(.bipush 99, 99), (.goto 6, 0)] (pc' := 123) (L' := [(5, .int r7), (0, .ref 211), (3, .int a3), (4, .int a4)]) (S' := [.int 99, .int 0]) (by decide +kernel) rfl ?_
    exact sm_sub [0] rfl (s_X0_ask_j123 F t1 C hr h1 r7 99 0 τ8)
  · refine sm_seg C [(.sipush 1000, 1000)] (pc' := 123) (L' := [(5, .int r7), (0, .ref 211), (3, .int a3), (4, .int a4)]) (S' := [.int 1000, .int 0]) (by decide +kernel) rfl ?_
    exact sm_sub [0] rfl (s_X0_ask_j123 F t1 C hr h1 r7 1000 0 τ8)
def X0_ask_j88 (F : Nat) (t1 : Nat) (a3 : Int32) (z0 : Int32) (τ : Tau) : Option (Int32 × Tau) :=
  X0_ask_j90 F t1 a3 z0 τ
theorem s_X0_ask_j88 (F : Nat) (t1 : Nat) {K : Ctx} (C : Cx K sysX RX0 cX0_ask 6 4) (hr : Rt K (some .int)) (h1 : kdX t1 = 8) (a3 : Int32) (z0 : Int32) (τ : Tau) : Sm K sysX 6 (Qi K sysX) (X0_ask_j88 F t1 a3 z0 τ) 88 [(0, .ref 211), (3, .int a3)] [.int z0] τ := by
  unfold X0_ask_j88
  refine sm_seg C [(.istore 4, 0)] (pc' := 90) (L' := [(4, .int z0), (0, .ref 211), (3, .int a3)]) (S' := []) (by decide +kernel) rfl ?_
  exact sm_sub [1, 2, 0] rfl (s_X0_ask_j90 F t1 C hr h1 a3 z0 τ)
def X0_ask_j27 (F : Nat) (t1 : Nat) (a3 : Int32) (z0 : Int32) (z1 : Int32) (τ : Tau) : Option (Int32 × Tau) :=
  cal (X0_gather F t1 z1 z0 τ) fun r3 τ4 => if a3 = 0 then (ald τ4 212 10 0 fun v5 => ald τ4 212 10 3 fun v6 => X0_ask_j90 F t1 a3 ((60 * v5) + (5 * v6)) τ4) else (if a3 = 1 then (ald τ4 212 10 2 fun v9 => if v9 = 1 then (ald τ4 212 10 1 fun v10 => X0_ask_j88 F t1 a3 (50 * v10) τ4) else (X0_ask_j88 F t1 a3 0 τ4)) else (X0_ask_j90 F t1 a3 1 τ4))
theorem s_X0_ask_j27 (F : Nat) (t1 : Nat) {K : Ctx} (C : Cx K sysX RX0 cX0_ask 6 4) (hr : Rt K (some .int)) (h1 : kdX t1 = 8) (a3 : Int32) (z0 : Int32) (z1 : Int32) (τ : Tau) : Sm K sysX 6 (Qi K sysX) (X0_ask_j27 F t1 a3 z0 z1 τ) 27 [(0, .ref 211), (3, .int a3)] [.int z0, .int z1, .ref t1, .ref 211] τ := by
  unfold X0_ask_j27
  refine sm_vcalv [.ref t1, .int z1, .int z0] [] rfl C mw_X0_gather ml_0_166 rfl (ci := 0) rfl (ltX (by decide +kernel : kdX 211 = 0) (by decide)) (by decide +kernel : kdX 211 = 0) (by decide) ⟨by decide, by decide⟩ (Nat.le_of_ble_eq_true rfl) (by decide +kernel) (c_X0_gather F t1 h1 z1 z0 τ) (fun r3 τ4 => ?_)
  refine sm_seg C [(.iconst 1, 1), (.istore 4, 0), (.iload_n 3, 0)] (pc' := 34) (L' := [(4, .int 1), (0, .ref 211), (3, .int a3)]) (S' := [.int a3]) (by decide +kernel) rfl ?_
  refine sm_ifne 60 (off := 26) C (by decide +kernel) (by decide) (fun _ => ?_) (fun _ => ?_)
  · refine sm_seg C [(.bipush 60, 60), (.aload_n 0, 0)] (pc' := 40) (L' := [(4, .int 1), (0, .ref 211), (3, .int a3)]) (S' := [.ref 211, .int 60]) (by decide +kernel) rfl ?_
    refine sm_getR 0 1 212 cls0 C (ltX (by decide +kernel : kdX 211 = 0) (by decide)) (by decide +kernel : kdX 211 = 0) (obX0 (by decide +kernel : kdX 211 = 0)) (by decide) (frX0_1 (by decide +kernel : kdX 211 = 0)) fl0_9 (by decide +kernel) ?_
    refine sm_seg C [(.iconst 0, 0)] (pc' := 44) (L' := [(4, .int 1), (0, .ref 211), (3, .int a3)]) (S' := [.int 0, .ref 212, .int 60]) (by decide +kernel) rfl ?_
    refine sm_ald 10 C (ltX (krX0_1 (by decide +kernel : kdX 211 = 0)) (by decide)) (krX0_1 (by decide +kernel : kdX 211 = 0)) (nrX0_1 (by decide +kernel : kdX 211 = 0)) (by decide +kernel) (fun v5 => ?_)
    refine sm_seg C [(.imul, 0), (.iconst 5, 5), (.aload_n 0, 0)] (pc' := 48) (L' := [(4, .int 1), (0, .ref 211), (3, .int a3)]) (S' := [.ref 211, .int 5, .int (60 * v5)]) (by decide +kernel) rfl ?_
    refine sm_getR 0 1 212 cls0 C (ltX (by decide +kernel : kdX 211 = 0) (by decide)) (by decide +kernel : kdX 211 = 0) (obX0 (by decide +kernel : kdX 211 = 0)) (by decide) (frX0_1 (by decide +kernel : kdX 211 = 0)) fl0_9 (by decide +kernel) ?_
    refine sm_seg C [(.iconst 3, 3)] (pc' := 52) (L' := [(4, .int 1), (0, .ref 211), (3, .int a3)]) (S' := [.int 3, .ref 212, .int 5, .int (60 * v5)]) (by decide +kernel) rfl ?_
    refine sm_ald 10 C (ltX (krX0_1 (by decide +kernel : kdX 211 = 0)) (by decide)) (krX0_1 (by decide +kernel : kdX 211 = 0)) (nrX0_1 (by decide +kernel : kdX 211 = 0)) (by decide +kernel) (fun v6 => ?_)
    refine sm_seg C [(.imul, 0), (.iadd, 0), (.istore 4, 0), (.goto 33, 0)] (pc' := 90) (L' := [(4, .int ((60 * v5) + (5 * v6))), (0, .ref 211), (3, .int a3)]) (S' := []) (by decide +kernel) rfl ?_
    exact sm_sub [1, 2, 0] rfl (s_X0_ask_j90 F t1 C hr h1 a3 ((60 * v5) + (5 * v6)) τ4)
  · refine sm_seg C [(.iload_n 3, 0), (.iconst 1, 1)] (pc' := 62) (L' := [(4, .int 1), (0, .ref 211), (3, .int a3)]) (S' := [.int 1, .int a3]) (by decide +kernel) rfl ?_
    refine sm_icmpne 90 (off := 28) C (by decide +kernel) (by decide) (fun _ => ?_) (fun _ => ?_)
    · refine sm_seg C [(.aload_n 0, 0)] (pc' := 66) (L' := [(4, .int 1), (0, .ref 211), (3, .int a3)]) (S' := [.ref 211]) (by decide +kernel) rfl ?_
      refine sm_getR 0 1 212 cls0 C (ltX (by decide +kernel : kdX 211 = 0) (by decide)) (by decide +kernel : kdX 211 = 0) (obX0 (by decide +kernel : kdX 211 = 0)) (by decide) (frX0_1 (by decide +kernel : kdX 211 = 0)) fl0_9 (by decide +kernel) ?_
      refine sm_seg C [(.iconst 2, 2)] (pc' := 70) (L' := [(4, .int 1), (0, .ref 211), (3, .int a3)]) (S' := [.int 2, .ref 212]) (by decide +kernel) rfl ?_
      refine sm_ald 10 C (ltX (krX0_1 (by decide +kernel : kdX 211 = 0)) (by decide)) (krX0_1 (by decide +kernel : kdX 211 = 0)) (nrX0_1 (by decide +kernel : kdX 211 = 0)) (by decide +kernel) (fun v9 => ?_)
      refine sm_seg C [(.iconst 1, 1)] (pc' := 72) (L' := [(4, .int 1), (0, .ref 211), (3, .int a3)]) (S' := [.int 1, .int v9]) (by decide +kernel) rfl ?_
      refine sm_icmpne 87 (off := 15) C (by decide +kernel) (by decide) (fun _ => ?_) (fun _ => ?_)
      · refine sm_seg C [(.bipush 50, 50), (.aload_n 0, 0)] (pc' := 78) (L' := [(4, .int 1), (0, .ref 211), (3, .int a3)]) (S' := [.ref 211, .int 50]) (by decide +kernel) rfl ?_
        refine sm_getR 0 1 212 cls0 C (ltX (by decide +kernel : kdX 211 = 0) (by decide)) (by decide +kernel : kdX 211 = 0) (obX0 (by decide +kernel : kdX 211 = 0)) (by decide) (frX0_1 (by decide +kernel : kdX 211 = 0)) fl0_9 (by decide +kernel) ?_
        refine sm_seg C [(.iconst 1, 1)] (pc' := 82) (L' := [(4, .int 1), (0, .ref 211), (3, .int a3)]) (S' := [.int 1, .ref 212, .int 50]) (by decide +kernel) rfl ?_
        refine sm_ald 10 C (ltX (krX0_1 (by decide +kernel : kdX 211 = 0)) (by decide)) (krX0_1 (by decide +kernel : kdX 211 = 0)) (nrX0_1 (by decide +kernel : kdX 211 = 0)) (by decide +kernel) (fun v10 => ?_)
        refine sm_seg C [(.imul, 0), (.goto 4, 0)] (pc' := 88) (L' := [(4, .int 1), (0, .ref 211), (3, .int a3)]) (S' := [.int (50 * v10)]) (by decide +kernel) rfl ?_
        exact sm_sub [1, 2] rfl (s_X0_ask_j88 F t1 C hr h1 a3 (50 * v10) τ4)
      · refine sm_seg C [(.iconst 0, 0)] (pc' := 88) (L' := [(4, .int 1), (0, .ref 211), (3, .int a3)]) (S' := [.int 0]) (by decide +kernel) rfl ?_
        exact sm_sub [1, 2] rfl (s_X0_ask_j88 F t1 C hr h1 a3 0 τ4)
    · exact sm_sub [1, 2, 0] rfl (s_X0_ask_j90 F t1 C hr h1 a3 1 τ4)
def X0_ask (F : Nat) (t1 : Nat) (a2 : Int32) (a3 : Int32) (τ : Tau) : Option (Int32 × Tau) :=
  cal (X8_hasMute F t1 a2 τ) fun r1 τ2 => if r1 = 0 then (some (0, τ2)) else (if a3 = 1 then (X0_ask_j27 F t1 a3 (-1) a2 τ2) else (cal (X8_nextThing F t1 a2 τ2) fun r11 τ12 => X0_ask_j27 F t1 a3 r11 a2 τ12))
set_option maxRecDepth 20000 in
set_option maxHeartbeats 4000000 in
theorem c_X0_ask (F : Nat) (t1 : Nat) (h1 : kdX t1 = 8) (a2 : Int32) (a3 : Int32) (τ : Tau) (r : Int32) (τ' : Tau) (h : X0_ask F t1 a2 a3 τ = some (r, τ')) : MCi sysX yX0_ask cX0_ask 6 (some .int) 4 [.ref 211, .ref t1, .int a2, .int a3] τ r τ' :=
  mci_of (by decide +kernel) (Nat.le_of_ble_eq_true rfl) (fun K C hr => by
    show Sm K sysX 6 (Qi K sysX) (X0_ask F t1 a2 a3 τ) 0 [(0, .ref 211), (1, .ref t1), (2, .int a2), (3, .int a3)] [] τ
    unfold X0_ask
    refine sm_seg C [(.aload_n 1, 0), (.iload_n 2, 0)] (pc' := 2) (L' := [(0, .ref 211), (1, .ref t1), (2, .int a2), (3, .int a3)]) (S' := [.int a2, .ref t1]) (by decide +kernel) rfl ?_
    refine sm_vcal [.int a2] [] rfl C mw_X8_hasMute ml_0_142 rfl (ci := 8) rfl (ltX h1 (by decide)) h1 (by decide) ⟨by decide, by decide⟩ (Nat.le_of_ble_eq_true rfl) (by decide +kernel) (c_X8_hasMute F t1 h1 a2 τ) (fun r1 τ2 => ?_)
    refine sm_ifne 10 (off := 5) C (by decide +kernel) (by decide) (fun _ => ?_) (fun _ => ?_)
    · refine sm_seg C [(.iconst 0, 0)] (pc' := 9) (L' := [(0, .ref 211), (1, .ref t1), (2, .int a2), (3, .int a3)]) (S' := [.int 0]) (by decide +kernel) rfl ?_
      exact sm_iret C hr rfl (by decide +kernel)
    · refine sm_seg C [(.aload_n 0, 0), (.aload_n 1, 0), (.iload_n 2, 0), (.iload_n 3, 0), (.iconst 1, 1)] (pc' := 15) (L' := [(0, .ref 211), (1, .ref t1), (2, .int a2), (3, .int a3)]) (S' := [.int 1, .int a3, .int a2, .ref t1, .ref 211]) (by decide +kernel) rfl ?_
      refine sm_icmpne 22 (off := 7) C (by decide +kernel) (by decide) (fun _ => ?_) (fun _ => ?_)
      · refine sm_seg C [(.iconst (-1), (-1)), (.goto 8, 0)] (pc' := 27) (L' := [(0, .ref 211), (1, .ref t1), (2, .int a2), (3, .int a3)]) (S' := [.int (-1), .int a2, .ref t1, .ref 211]) (by decide +kernel) rfl ?_
        exact sm_sub [0, 3] rfl (s_X0_ask_j27 F t1 C hr h1 a3 (-1) a2 τ2)
      · refine sm_seg C [(.aload_n 1, 0), (.iload_n 2, 0)] (pc' := 24) (L' := [(0, .ref 211), (1, .ref t1), (2, .int a2), (3, .int a3)]) (S' := [.int a2, .ref t1, .int a2, .ref t1, .ref 211]) (by decide +kernel) rfl ?_
        refine sm_vcal [.int a2] [.int a2, .ref t1, .ref 211] rfl C mw_X8_nextThing ml_0_119 rfl (ci := 8) rfl (ltX h1 (by decide)) h1 (by decide) ⟨by decide, by decide⟩ (Nat.le_of_ble_eq_true rfl) (by decide +kernel) (c_X8_nextThing F t1 h1 a2 τ2) (fun r11 τ12 => ?_)
        exact sm_sub [0, 3] rfl (s_X0_ask_j27 F t1 C hr h1 a3 r11 a2 τ12)) h
/-! BasketEnvoys_Town.drawsBelow -/
def X8_drawsBelow (F : Nat) (t0 : Nat) (a1 : Int32) (τ : Tau) : Option (Int32 × Tau) :=
  pst τ t0 5 ((1664525 * (τ t0 5)) + 1013904223) fun τ1 => if a1 ≤ (rmd (ushr (τ1 t0 5) 8) 1000) then (some (0, τ1)) else (some (1, τ1))
set_option maxRecDepth 20000 in
set_option maxHeartbeats 4000000 in
theorem c_X8_drawsBelow (F : Nat) (t0 : Nat) (h0 : kdX t0 = 8) (a1 : Int32) (τ : Tau) (r : Int32) (τ' : Tau) (h : X8_drawsBelow F t0 a1 τ = some (r, τ')) : MCi sysX yX8_drawsBelow cX8_drawsBelow 2 (some .boolean) 1 [.ref t0, .int a1] τ r τ' :=
  mci_of (by decide +kernel) (Nat.le_of_ble_eq_true rfl) (fun K C hr => by
    show Sm K sysX 2 (Qi K sysX) (X8_drawsBelow F t0 a1 τ) 0 [(0, .ref t0), (1, .int a1)] [] τ
    unfold X8_drawsBelow
    refine sm_seg C [(.aload_n 0, 0)] (pc' := 1) (L' := [(0, .ref t0), (1, .int a1)]) (S' := [.ref t0]) (by decide +kernel) rfl ?_
    refine sm_ldc C cn_8_103 (by decide +kernel) ?_
    refine sm_seg C [(.aload_n 0, 0)] (pc' := 4) (L' := [(0, .ref t0), (1, .int a1)]) (S' := [.ref t0, .int 1664525, .ref t0]) (by decide +kernel) rfl ?_
    refine sm_getI 8 5 cls8 C (ltX h0 (by decide)) h0 (obX8 h0) (by decide) (fiX8_5 h0) fl8_27 (by decide +kernel) ?_
    refine sm_seg C [(.imul, 0)] (pc' := 8) (L' := [(0, .ref t0), (1, .int a1)]) (S' := [.int (1664525 * (τ t0 5)), .ref t0]) (by decide +kernel) rfl ?_
    refine sm_ldc C cn_8_104 (by decide +kernel) ?_
    refine sm_seg C [(.iadd, 0)] (pc' := 11) (L' := [(0, .ref t0), (1, .int a1)]) (S' := [.int ((1664525 * (τ t0 5)) + 1013904223), .ref t0]) (by decide +kernel) rfl ?_
    refine sm_pst 8 5 cls8 C (ltX h0 (by decide)) h0 (obX8 h0) (by decide) (fiX8_5 h0) rfl rfl rfl fl8_27 (by decide +kernel) (fun τ1 => ?_)
    refine sm_seg C [(.aload_n 0, 0)] (pc' := 15) (L' := [(0, .ref t0), (1, .int a1)]) (S' := [.ref t0]) (by decide +kernel) rfl ?_
    refine sm_getI 8 5 cls8 C (ltX h0 (by decide)) h0 (obX8 h0) (by decide) (fiX8_5 h0) fl8_27 (by decide +kernel) ?_
    refine sm_seg C [(.bipush 8, 8), (.iushr, 0), (.sipush 1000, 1000)] (pc' := 24) (L' := [(0, .ref t0), (1, .int a1)]) (S' := [.int 1000, .int (ushr (τ1 t0 5) 8)]) (by decide +kernel) rfl ?_
    refine sm_irem C (by decide +kernel) (by decide) ?_
    refine sm_seg C [(.iload_n 1, 0)] (pc' := 26) (L' := [(0, .ref t0), (1, .int a1)]) (S' := [.int a1, .int (rmd (ushr (τ1 t0 5) 8) 1000)]) (by decide +kernel) rfl ?_
    refine sm_icmpge 33 (off := 7) C (by decide +kernel) (by decide) (fun _ => ?_) (fun _ => ?_)
    · refine sm_seg C [(.iconst 0, 0)] (pc' := 34) (L' := [(0, .ref t0), (1, .int a1)]) (S' := [.int 0]) (by decide +kernel) rfl ?_
      exact sm_iret C hr rfl (by decide +kernel)
    · refine sm_seg C [(.iconst 1, 1), (.goto 4, 0)] (pc' := 34) (L' := [(0, .ref t0), (1, .int a1)]) (S' := [.int 1]) (by decide +kernel) rfl ?_
      exact sm_iret C hr rfl (by decide +kernel)) h
/-! BasketEnvoys_Course.falls -/
def X0_falls (F : Nat) (t1 : Nat) (a2 : Int32) (a3 : Int32) (τ : Tau) : Option (Int32 × Tau) :=
  if a3 = 0 then (if a2 < 500 then (some (0, τ)) else (some (1, τ))) else (if a2 ≤ 0 then (some (0, τ)) else (cal (X8_drawsBelow F t1 a2 τ) fun r1 τ2 => if r1 = 0 then (some (0, τ2)) else (some (1, τ2))))
set_option maxRecDepth 20000 in
set_option maxHeartbeats 4000000 in
theorem c_X0_falls (F : Nat) (t1 : Nat) (h1 : kdX t1 = 8) (a2 : Int32) (a3 : Int32) (τ : Tau) (r : Int32) (τ' : Tau) (h : X0_falls F t1 a2 a3 τ = some (r, τ')) : MCi sysX yX0_falls cX0_falls 4 (some .boolean) 2 [.ref 211, .ref t1, .int a2, .int a3] τ r τ' :=
  mci_of (by decide +kernel) (Nat.le_of_ble_eq_true rfl) (fun K C hr => by
    show Sm K sysX 4 (Qi K sysX) (X0_falls F t1 a2 a3 τ) 0 [(0, .ref 211), (1, .ref t1), (2, .int a2), (3, .int a3)] [] τ
    unfold X0_falls
    refine sm_seg C [(.iload_n 3, 0)] (pc' := 1) (L' := [(0, .ref 211), (1, .ref t1), (2, .int a2), (3, .int a3)]) (S' := [.int a3]) (by decide +kernel) rfl ?_
    refine sm_ifne 17 (off := 16) C (by decide +kernel) (by decide) (fun _ => ?_) (fun _ => ?_)
    · refine sm_seg C [(.iload_n 2, 0), (.sipush 500, 500)] (pc' := 8) (L' := [(0, .ref 211), (1, .ref t1), (2, .int a2), (3, .int a3)]) (S' := [.int 500, .int a2]) (by decide +kernel) rfl ?_
      refine sm_icmplt 15 (off := 7) C (by decide +kernel) (by decide) (fun _ => ?_) (fun _ => ?_)
      · refine sm_seg C [(.iconst 0, 0)] (pc' := 16) (L' := [(0, .ref 211), (1, .ref t1), (2, .int a2), (3, .int a3)]) (S' := [.int 0]) (by decide +kernel) rfl ?_
        exact sm_iret C hr rfl (by decide +kernel)
      · refine sm_seg C [(.iconst 1, 1), (.goto 4, 0)] (pc' := 16) (L' := [(0, .ref 211), (1, .ref t1), (2, .int a2), (3, .int a3)]) (S' := [.int 1]) (by decide +kernel) rfl ?_
        exact sm_iret C hr rfl (by decide +kernel)
    · refine sm_seg C [(.iload_n 2, 0)] (pc' := 18) (L' := [(0, .ref 211), (1, .ref t1), (2, .int a2), (3, .int a3)]) (S' := [.int a2]) (by decide +kernel) rfl ?_
      refine sm_ifle 33 (off := 15) C (by decide +kernel) (by decide) (fun _ => ?_) (fun _ => ?_)
      · refine sm_seg C [(.iconst 0, 0)] (pc' := 34) (L' := [(0, .ref 211), (1, .ref t1), (2, .int a2), (3, .int a3)]) (S' := [.int 0]) (by decide +kernel) rfl ?_
        exact sm_iret C hr rfl (by decide +kernel)
      · refine sm_seg C [(.aload_n 1, 0), (.iload_n 2, 0)] (pc' := 23) (L' := [(0, .ref 211), (1, .ref t1), (2, .int a2), (3, .int a3)]) (S' := [.int a2, .ref t1]) (by decide +kernel) rfl ?_
        refine sm_vcal [.int a2] [] rfl C mw_X8_drawsBelow ml_0_126 rfl (ci := 8) rfl (ltX h1 (by decide)) h1 (by decide) ⟨by decide, by decide⟩ (Nat.le_of_ble_eq_true rfl) (by decide +kernel) (c_X8_drawsBelow F t1 h1 a2 τ) (fun r1 τ2 => ?_)
        refine sm_ifeq 33 (off := 7) C (by decide +kernel) (by decide) (fun _ => ?_) (fun _ => ?_)
        · refine sm_seg C [(.iconst 0, 0)] (pc' := 34) (L' := [(0, .ref 211), (1, .ref t1), (2, .int a2), (3, .int a3)]) (S' := [.int 0]) (by decide +kernel) rfl ?_
          exact sm_iret C hr rfl (by decide +kernel)
        · refine sm_seg C [(.iconst 1, 1), (.goto 4, 0)] (pc' := 34) (L' := [(0, .ref 211), (1, .ref t1), (2, .int a2), (3, .int a3)]) (S' := [.int 1]) (by decide +kernel) rfl ?_
          exact sm_iret C hr rfl (by decide +kernel)) h
/-! BasketEnvoys_Course.prick -/
def X0_prick_j53 (F : Nat) (z0 : Int32) (z1 : Int32) (z2 : Int32) (τ : Tau) : Option (Int32 × Tau) :=
  cal (X9_write F 1 z2 z1 z0 τ) fun r5 τ6 => some (0, τ6)
theorem s_X0_prick_j53 (F : Nat) {K : Ctx} (C : Cx K sysX RX0 cX0_prick 4 5) (hr : Rt K none) (z0 : Int32) (z1 : Int32) (z2 : Int32) (τ : Tau) : Sm K sysX 4 (Qv K sysX) (X0_prick_j53 F z0 z1 z2 τ) 53 [] [.int z0, .int z1, .int z2, .ref 1] τ := by
  unfold X0_prick_j53
  refine sm_vcalv [.int z2, .int z1, .int z0] [] rfl C mw_X9_write ml_0_90 rfl (ci := 9) rfl (ltX (krX0_0 (by decide +kernel : kdX 211 = 0)) (by decide)) (krX0_0 (by decide +kernel : kdX 211 = 0)) (by decide) ⟨by decide, by decide⟩ (Nat.le_of_ble_eq_true rfl) (by decide +kernel) (c_X9_write F 1 (krX0_0 (by decide +kernel : kdX 211 = 0)) z2 z1 z0 τ) (fun r5 τ6 => ?_)
  exact sm_vret C hr (by decide +kernel)
def X0_prick_j37 (F : Nat) (a1 : Int32) (a3 : Int32) (τ : Tau) : Option (Int32 × Tau) :=
  if a3 = 0 then (X0_prick_j53 F 0 a1 6 τ) else (X0_prick_j53 F 1 a1 6 τ)
theorem s_X0_prick_j37 (F : Nat) {K : Ctx} (C : Cx K sysX RX0 cX0_prick 4 5) (hr : Rt K none) (a1 : Int32) (a3 : Int32) (τ : Tau) : Sm K sysX 4 (Qv K sysX) (X0_prick_j37 F a1 a3 τ) 37 [(0, .ref 211), (1, .int a1), (3, .int a3)] [] τ := by
  unfold X0_prick_j37
  refine sm_seg C [(.aload_n 0, 0)] (pc' := 38) (L' := [(0, .ref 211), (1, .int a1), (3, .int a3)]) (S' := [.ref 211]) (by decide +kernel) rfl ?_
  refine sm_getR 0 0 1 cls0 C (ltX (by decide +kernel : kdX 211 = 0) (by decide)) (by decide +kernel : kdX 211 = 0) (obX0 (by decide +kernel : kdX 211 = 0)) (by decide) (frX0_0 (by decide +kernel : kdX 211 = 0)) fl0_15 (by decide +kernel) ?_
  refine sm_seg C [(.bipush 6, 6), (.iload_n 1, 0), (.iload_n 3, 0)] (pc' := 45) (L' := [(0, .ref 211), (1, .int a1), (3, .int a3)]) (S' := [.int a3, .int a1, .int 6, .ref 1]) (by decide +kernel) rfl ?_
  refine sm_ifeq 52 (off := 7) C (by decide +kernel) (by decide) (fun _ => ?_) (fun _ => ?_)
  · refine sm_seg C [(.iconst 0, 0)] (pc' := 53) (L' := [(0, .ref 211), (1, .int a1), (3, .int a3)]) (S' := [.int 0, .int a1, .int 6, .ref 1]) (by decide +kernel) rfl ?_
    exact sm_sub [] rfl (s_X0_prick_j53 F C hr 0 a1 6 τ)
  · refine sm_seg C [(.iconst 1, 1), (.goto 4, 0)] (pc' := 53) (L' := [(0, .ref 211), (1, .int a1), (3, .int a3)]) (S' := [.int 1, .int a1, .int 6, .ref 1]) (by decide +kernel) rfl ?_
    exact sm_sub [] rfl (s_X0_prick_j53 F C hr 1 a1 6 τ)
def X0_prick (F : Nat) (a1 : Int32) (τ : Tau) : Option (Int32 × Tau) :=
  cal (X0_ask F 2 a1 1 τ) fun r1 τ2 => cal (X0_falls F 2 r1 1 τ2) fun r3 τ4 => if r3 = 0 then (X0_prick_j37 F a1 r3 τ4) else (cal (X10_put F 11 a1 1 1 τ4) fun r7 τ8 => X0_prick_j37 F a1 r3 τ8)
set_option maxRecDepth 20000 in
set_option maxHeartbeats 4000000 in
theorem c_X0_prick (F : Nat) (a1 : Int32) (τ : Tau) (r : Int32) (τ' : Tau) (h : X0_prick F a1 τ = some (r, τ')) : MCv sysX yX0_prick cX0_prick 4 5 [.ref 211, .int a1] τ τ' :=
  mcv_of (by decide +kernel) (Nat.le_of_ble_eq_true rfl) (fun K C hr => by
    show Sm K sysX 4 (Qv K sysX) (X0_prick F a1 τ) 0 [(0, .ref 211), (1, .int a1)] [] τ
    unfold X0_prick
    refine sm_seg C [(.aload_n 0, 0)] (pc' := 1) (L' := [(0, .ref 211), (1, .int a1)]) (S' := [.ref 211]) (by decide +kernel) rfl ?_
    refine sm_getR 0 0 1 cls0 C (ltX (by decide +kernel : kdX 211 = 0) (by decide)) (by decide +kernel : kdX 211 = 0) (obX0 (by decide +kernel : kdX 211 = 0)) (by decide) (frX0_0 (by decide +kernel : kdX 211 = 0)) fl0_15 (by decide +kernel) ?_
    refine sm_getR 9 0 2 cls9 C (ltX (krX0_0 (by decide +kernel : kdX 211 = 0)) (by decide)) (krX0_0 (by decide +kernel : kdX 211 = 0)) (obX9 (krX0_0 (by decide +kernel : kdX 211 = 0))) (by decide) (frX9_0 (krX0_0 (by decide +kernel : kdX 211 = 0))) fl0_19 (by decide +kernel) ?_
    refine sm_seg C [(.astore_n 2, 0), (.aload_n 0, 0), (.aload_n 2, 0), (.aload_n 0, 0), (.aload_n 2, 0), (.iload_n 1, 0), (.iconst 1, 1)] (pc' := 14) (L' := [(2, .ref 2), (0, .ref 211), (1, .int a1)]) (S' := [.int 1, .int a1, .ref 2, .ref 211, .ref 2, .ref 211]) (by decide +kernel) rfl ?_
    refine sm_vcal [.ref 2, .int a1, .int 1] [.ref 2, .ref 211] rfl C mw_X0_ask ml_0_105 rfl (ci := 0) rfl (ltX (by decide +kernel : kdX 211 = 0) (by decide)) (by decide +kernel : kdX 211 = 0) (by decide) ⟨by decide, by decide⟩ (Nat.le_of_ble_eq_true rfl) (by decide +kernel) (c_X0_ask F 2 (krX9_0 (krX0_0 (by decide +kernel : kdX 211 = 0))) a1 1 τ) (fun r1 τ2 => ?_)
    refine sm_seg C [(.iconst 1, 1)] (pc' := 18) (L' := [(2, .ref 2), (0, .ref 211), (1, .int a1)]) (S' := [.int 1, .int r1, .ref 2, .ref 211]) (by decide +kernel) rfl ?_
    refine sm_vcal [.ref 2, .int r1, .int 1] [] rfl C mw_X0_falls ml_0_109 rfl (ci := 0) rfl (ltX (by decide +kernel : kdX 211 = 0) (by decide)) (by decide +kernel : kdX 211 = 0) (by decide) ⟨by decide, by decide⟩ (Nat.le_of_ble_eq_true rfl) (by decide +kernel) (c_X0_falls F 2 (krX9_0 (krX0_0 (by decide +kernel : kdX 211 = 0))) r1 1 τ2) (fun r3 τ4 => ?_)
    refine sm_seg C [(.istore_n 3, 0), (.iload_n 3, 0)] (pc' := 23) (L' := [(3, .int r3), (2, .ref 2), (0, .ref 211), (1, .int a1)]) (S' := [.int r3]) (by decide +kernel) rfl ?_
    refine sm_ifeq 37 (off := 14) C (by decide +kernel) (by decide) (fun _ => ?_) (fun _ => ?_)
    · exact sm_sub [2, 3, 0] rfl (s_X0_prick_j37 F C hr a1 r3 τ4)
    · refine sm_seg C [(.aload_n 2, 0)] (pc' := 27) (L' := [(3, .int r3), (2, .ref 2), (0, .ref 211), (1, .int a1)]) (S' := [.ref 2]) (by decide +kernel) rfl ?_
      refine sm_getR 8 15 11 cls8 C (ltX (krX9_0 (krX0_0 (by decide +kernel : kdX 211 = 0))) (by decide)) (krX9_0 (krX0_0 (by decide +kernel : kdX 211 = 0))) (obX8 (krX9_0 (krX0_0 (by decide +kernel : kdX 211 = 0)))) (by decide) (frX8_15 (krX9_0 (krX0_0 (by decide +kernel : kdX 211 = 0)))) fl0_113 (by decide +kernel) ?_
      refine sm_seg C [(.iload_n 1, 0), (.iconst 1, 1), (.iconst 1, 1)] (pc' := 33) (L' := [(3, .int r3), (2, .ref 2), (0, .ref 211), (1, .int a1)]) (S' := [.int 1, .int 1, .int a1, .ref 11]) (by decide +kernel) rfl ?_
      refine sm_ncal "BasketEnvoys" [.ref 11, .int a1, .int 1, .int 1] [] rfl C mw_X10_put ml_0_42 rfl ⟨by decide, by decide⟩ (Nat.le_of_ble_eq_true rfl) (by decide +kernel) (c_X10_put F 11 (krX8_15 (krX9_0 (krX0_0 (by decide +kernel : kdX 211 = 0)))) a1 1 1 τ4) (fun r7 τ8 => ?_)
      refine sm_seg C [(.pop, 0)] (pc' := 37) (L' := [(3, .int r3), (2, .ref 2), (0, .ref 211), (1, .int a1)]) (S' := []) (by decide +kernel) rfl ?_
      exact sm_sub [2, 3, 0] rfl (s_X0_prick_j37 F C hr a1 r3 τ8)) h
/-! BasketEnvoys_Course.doByHand -/
def X0_doByHand (F : Nat) (a1 : Int32) (a2 : Int32) (a3 : Int32) (τ : Tau) : Option (Int32 × Tau) :=
  if a1 = 0 then (cal (X0_sendTo F 2 a2 a3 1 τ) fun r1 τ2 => some (0, τ2)) else if a1 = 1 then (cal (X0_goHome F 2 a2 1 τ) fun r3 τ4 => some (0, τ4)) else if a1 = 2 then (cal (X8_putThing F 2 a2 a3 τ) fun r5 τ6 => some (0, τ6)) else if a1 = 3 then (cal (X10_put F 12 a2 0 1 τ) fun r7 τ8 => some (0, τ8)) else (cal (X0_prick F a2 τ) fun r9 τ10 => some (0, τ10))
set_option maxRecDepth 20000 in
set_option maxHeartbeats 4000000 in
theorem c_X0_doByHand (F : Nat) (a1 : Int32) (a2 : Int32) (a3 : Int32) (τ : Tau) (r : Int32) (τ' : Tau) (h : X0_doByHand F a1 a2 a3 τ = some (r, τ')) : MCv sysX yX0_doByHand cX0_doByHand 5 6 [.ref 211, .int a1, .int a2, .int a3] τ τ' :=
  mcv_of (by decide +kernel) (Nat.le_of_ble_eq_true rfl) (fun K C hr => by
    show Sm K sysX 5 (Qv K sysX) (X0_doByHand F a1 a2 a3 τ) 0 [(0, .ref 211), (1, .int a1), (2, .int a2), (3, .int a3)] [] τ
    unfold X0_doByHand
    refine sm_seg C [(.aload_n 0, 0)] (pc' := 1) (L' := [(0, .ref 211), (1, .int a1), (2, .int a2), (3, .int a3)]) (S' := [.ref 211]) (by decide +kernel) rfl ?_
    refine sm_getR 0 0 1 cls0 C (ltX (by decide +kernel : kdX 211 = 0) (by decide)) (by decide +kernel : kdX 211 = 0) (obX0 (by decide +kernel : kdX 211 = 0)) (by decide) (frX0_0 (by decide +kernel : kdX 211 = 0)) fl0_15 (by decide +kernel) ?_
    refine sm_getR 9 0 2 cls9 C (ltX (krX0_0 (by decide +kernel : kdX 211 = 0)) (by decide)) (krX0_0 (by decide +kernel : kdX 211 = 0)) (obX9 (krX0_0 (by decide +kernel : kdX 211 = 0))) (by decide) (frX9_0 (krX0_0 (by decide +kernel : kdX 211 = 0))) fl0_19 (by decide +kernel) ?_
    refine sm_seg C [(.astore 4, 0), (.iload_n 1, 0)] (pc' := 10) (L' := [(4, .ref 2), (0, .ref 211), (1, .int a1), (2, .int a2), (3, .int a3)]) (S' := [.int a1]) (by decide +kernel) rfl ?_
    have hd10 : decode cX0_doByHand 10 = .ok (.tableswitch 78 0 3 #[30, 42, 53, 63], 30) := by decide +kernel
    refine sm_ite (fun e => ?_) (fun n10_0 => ?_)
    · refine sm_tabIn (off := 30) 40 C hd10 (by rw [e]; decide) (by rw [e]; decide) (by rw [e]; decide) (by decide) ?_
      refine sm_seg C [(.aload_n 0, 0), (.aload 4, 0), (.iload_n 2, 0), (.iload_n 3, 0), (.iconst 1, 1)] (pc' := 46) (L' := [(4, .ref 2), (0, .ref 211), (1, .int a1), (2, .int a2), (3, .int a3)]) (S' := [.int 1, .int a3, .int a2, .ref 2, .ref 211]) (by decide +kernel) rfl ?_
      refine sm_vcalv [.ref 2, .int a2, .int a3, .int 1] [] rfl C mw_X0_sendTo ml_0_25 rfl (ci := 0) rfl (ltX (by decide +kernel : kdX 211 = 0) (by decide)) (by decide +kernel : kdX 211 = 0) (by decide) ⟨by decide, by decide⟩ (Nat.le_of_ble_eq_true rfl) (by decide +kernel) (c_X0_sendTo F 2 (krX9_0 (krX0_0 (by decide +kernel : kdX 211 = 0))) a2 a3 1 τ) (fun r1 τ2 => ?_)
      refine sm_seg C [(.goto 44, 0)] (pc' := 93) (L' := [(4, .ref 2), (0, .ref 211), (1, .int a1), (2, .int a2), (3, .int a3)]) (S' := []) (by decide +kernel) rfl ?_
      exact sm_vret C hr (by decide +kernel)
    refine sm_ite (fun e => ?_) (fun n10_1 => ?_)
    · refine sm_tabIn (off := 42) 52 C hd10 (by rw [e]; decide) (by rw [e]; decide) (by rw [e]; decide) (by decide) ?_
      refine sm_seg C [(.aload_n 0, 0), (.aload 4, 0), (.iload_n 2, 0), (.iconst 1, 1)] (pc' := 57) (L' := [(4, .ref 2), (0, .ref 211), (1, .int a1), (2, .int a2), (3, .int a3)]) (S' := [.int 1, .int a2, .ref 2, .ref 211]) (by decide +kernel) rfl ?_
      refine sm_vcalv [.ref 2, .int a2, .int 1] [] rfl C mw_X0_goHome ml_0_29 rfl (ci := 0) rfl (ltX (by decide +kernel : kdX 211 = 0) (by decide)) (by decide +kernel : kdX 211 = 0) (by decide) ⟨by decide, by decide⟩ (Nat.le_of_ble_eq_true rfl) (by decide +kernel) (c_X0_goHome F 2 (krX9_0 (krX0_0 (by decide +kernel : kdX 211 = 0))) a2 1 τ) (fun r3 τ4 => ?_)
      refine sm_seg C [(.goto 33, 0)] (pc' := 93) (L' := [(4, .ref 2), (0, .ref 211), (1, .int a1), (2, .int a2), (3, .int a3)]) (S' := []) (by decide +kernel) rfl ?_
      exact sm_vret C hr (by decide +kernel)
    refine sm_ite (fun e => ?_) (fun n10_2 => ?_)
    · refine sm_tabIn (off := 53) 63 C hd10 (by rw [e]; decide) (by rw [e]; decide) (by rw [e]; decide) (by decide) ?_
      refine sm_seg C [(.aload 4, 0), (.iload_n 2, 0), (.iload_n 3, 0)] (pc' := 67) (L' := [(4, .ref 2), (0, .ref 211), (1, .int a1), (2, .int a2), (3, .int a3)]) (S' := [.int a3, .int a2, .ref 2]) (by decide +kernel) rfl ?_
      refine sm_vcalv [.int a2, .int a3] [] rfl C mw_X8_putThing ml_0_33 rfl (ci := 8) rfl (ltX (krX9_0 (krX0_0 (by decide +kernel : kdX 211 = 0))) (by decide)) (krX9_0 (krX0_0 (by decide +kernel : kdX 211 = 0))) (by decide) ⟨by decide, by decide⟩ (Nat.le_of_ble_eq_true rfl) (by decide +kernel) (c_X8_putThing F 2 (krX9_0 (krX0_0 (by decide +kernel : kdX 211 = 0))) a2 a3 τ) (fun r5 τ6 => ?_)
      refine sm_seg C [(.goto 23, 0)] (pc' := 93) (L' := [(4, .ref 2), (0, .ref 211), (1, .int a1), (2, .int a2), (3, .int a3)]) (S' := []) (by decide +kernel) rfl ?_
      exact sm_vret C hr (by decide +kernel)
    refine sm_ite (fun e => ?_) (fun n10_3 => ?_)
    · refine sm_tabIn (off := 63) 73 C hd10 (by rw [e]; decide) (by rw [e]; decide) (by rw [e]; decide) (by decide) ?_
      refine sm_seg C [(.aload 4, 0)] (pc' := 75) (L' := [(4, .ref 2), (0, .ref 211), (1, .int a1), (2, .int a2), (3, .int a3)]) (S' := [.ref 2]) (by decide +kernel) rfl ?_
      refine sm_getR 8 16 12 cls8 C (ltX (krX9_0 (krX0_0 (by decide +kernel : kdX 211 = 0))) (by decide)) (krX9_0 (krX0_0 (by decide +kernel : kdX 211 = 0))) (obX8 (krX9_0 (krX0_0 (by decide +kernel : kdX 211 = 0)))) (by decide) (frX8_16 (krX9_0 (krX0_0 (by decide +kernel : kdX 211 = 0)))) fl0_39 (by decide +kernel) ?_
      refine sm_seg C [(.iload_n 2, 0), (.iconst 0, 0), (.iconst 1, 1)] (pc' := 81) (L' := [(4, .ref 2), (0, .ref 211), (1, .int a1), (2, .int a2), (3, .int a3)]) (S' := [.int 1, .int 0, .int a2, .ref 12]) (by decide +kernel) rfl ?_
      refine sm_ncal "BasketEnvoys" [.ref 12, .int a2, .int 0, .int 1] [] rfl C mw_X10_put ml_0_42 rfl ⟨by decide, by decide⟩ (Nat.le_of_ble_eq_true rfl) (by decide +kernel) (c_X10_put F 12 (krX8_16 (krX9_0 (krX0_0 (by decide +kernel : kdX 211 = 0)))) a2 0 1 τ) (fun r7 τ8 => ?_)
      refine sm_seg C [(.pop, 0), (.goto 8, 0)] (pc' := 93) (L' := [(4, .ref 2), (0, .ref 211), (1, .int a1), (2, .int a2), (3, .int a3)]) (S' := []) (by decide +kernel) rfl ?_
      exact sm_vret C hr (by decide +kernel)
    refine sm_tabOut 88 C hd10 (by have q0 := toInt_neZ (z := 0) n10_0 (by decide); have q1 := toInt_neZ (z := 1) n10_1 (by decide); have q2 := toInt_neZ (z := 2) n10_2 (by decide); have q3 := toInt_neZ (z := 3) n10_3 (by decide); omega) (by decide) ?_
    refine sm_seg C [(.aload_n 0, 0), (.iload_n 2, 0)] (pc' := 90) (L' := [(4, .ref 2), (0, .ref 211), (1, .int a1), (2, .int a2), (3, .int a3)]) (S' := [.int a2, .ref 211]) (by decide +kernel) rfl ?_
    refine sm_vcalv [.int a2] [] rfl C mw_X0_prick ml_0_46 rfl (ci := 0) rfl (ltX (by decide +kernel : kdX 211 = 0) (by decide)) (by decide +kernel : kdX 211 = 0) (by decide) ⟨by decide, by decide⟩ (Nat.le_of_ble_eq_true rfl) (by decide +kernel) (c_X0_prick F a2 τ) (fun r9 τ10 => ?_)
    exact sm_vret C hr (by decide +kernel)) h
/-! BasketEnvoys.act -/
def X10_act (F : Nat) (a1 : Int32) (a2 : Int32) (a3 : Int32) (τ : Tau) : Option (Int32 × Tau) :=
  cal (X8_allows F 2 a1 a2 a3 τ) fun r1 τ2 => if r1 = 0 then (some (0, τ2)) else (cal (X1_keep F 2 τ2) fun r3 τ4 => cal (X0_doByHand F a1 a2 a3 τ4) fun r5 τ6 => some (1, τ6))
set_option maxRecDepth 20000 in
set_option maxHeartbeats 4000000 in
theorem c_X10_act (F : Nat) (a1 : Int32) (a2 : Int32) (a3 : Int32) (τ : Tau) (r : Int32) (τ' : Tau) (h : X10_act F a1 a2 a3 τ = some (r, τ')) : MCi sysX yX10_act cX10_act 4 (some .boolean) 7 [.ref 0, .int a1, .int a2, .int a3] τ r τ' :=
  mci_of (by decide +kernel) (Nat.le_of_ble_eq_true rfl) (fun K C hr => by
    show Sm K sysX 4 (Qi K sysX) (X10_act F a1 a2 a3 τ) 0 [(0, .ref 0), (1, .int a1), (2, .int a2), (3, .int a3)] [] τ
    unfold X10_act
    refine sm_seg C [(.aload_n 0, 0)] (pc' := 1) (L' := [(0, .ref 0), (1, .int a1), (2, .int a2), (3, .int a3)]) (S' := [.ref 0]) (by decide +kernel) rfl ?_
    refine sm_getR 10 0 1 cls10 C (ltX (by decide +kernel : kdX 0 = 10) (by decide)) (by decide +kernel : kdX 0 = 10) (obX10 (by decide +kernel : kdX 0 = 10)) (by decide) (frX10_0 (by decide +kernel : kdX 0 = 10)) fl10_12 (by decide +kernel) ?_
    refine sm_getR 9 0 2 cls9 C (ltX (krX10_0 (by decide +kernel : kdX 0 = 10)) (by decide)) (krX10_0 (by decide +kernel : kdX 0 = 10)) (obX9 (krX10_0 (by decide +kernel : kdX 0 = 10))) (by decide) (frX9_0 (krX10_0 (by decide +kernel : kdX 0 = 10))) fl10_60 (by decide +kernel) ?_
    refine sm_seg C [(.iload_n 1, 0), (.iload_n 2, 0), (.iload_n 3, 0)] (pc' := 10) (L' := [(0, .ref 0), (1, .int a1), (2, .int a2), (3, .int a3)]) (S' := [.int a3, .int a2, .int a1, .ref 2]) (by decide +kernel) rfl ?_
    refine sm_vcal [.int a1, .int a2, .int a3] [] rfl C mw_X8_allows ml_10_91 rfl (ci := 8) rfl (ltX (krX9_0 (krX10_0 (by decide +kernel : kdX 0 = 10))) (by decide)) (krX9_0 (krX10_0 (by decide +kernel : kdX 0 = 10))) (by decide) ⟨by decide, by decide⟩ (Nat.le_of_ble_eq_true rfl) (by decide +kernel) (c_X8_allows F 2 (krX9_0 (krX10_0 (by decide +kernel : kdX 0 = 10))) a1 a2 a3 τ) (fun r1 τ2 => ?_)
    refine sm_ifne 18 (off := 5) C (by decide +kernel) (by decide) (fun _ => ?_) (fun _ => ?_)
    · refine sm_seg C [(.iconst 0, 0)] (pc' := 17) (L' := [(0, .ref 0), (1, .int a1), (2, .int a2), (3, .int a3)]) (S' := [.int 0]) (by decide +kernel) rfl ?_
      exact sm_iret C hr rfl (by decide +kernel)
    · refine sm_seg C [(.aload_n 0, 0)] (pc' := 19) (L' := [(0, .ref 0), (1, .int a1), (2, .int a2), (3, .int a3)]) (S' := [.ref 0]) (by decide +kernel) rfl ?_
      refine sm_getR 10 4 116 cls10 C (ltX (by decide +kernel : kdX 0 = 10) (by decide)) (by decide +kernel : kdX 0 = 10) (obX10 (by decide +kernel : kdX 0 = 10)) (by decide) (frX10_4 (by decide +kernel : kdX 0 = 10)) fl10_33 (by decide +kernel) ?_
      refine sm_seg C [(.aload_n 0, 0)] (pc' := 23) (L' := [(0, .ref 0), (1, .int a1), (2, .int a2), (3, .int a3)]) (S' := [.ref 0, .ref 116]) (by decide +kernel) rfl ?_
      refine sm_getR 10 0 1 cls10 C (ltX (by decide +kernel : kdX 0 = 10) (by decide)) (by decide +kernel : kdX 0 = 10) (obX10 (by decide +kernel : kdX 0 = 10)) (by decide) (frX10_0 (by decide +kernel : kdX 0 = 10)) fl10_12 (by decide +kernel) ?_
      refine sm_getR 9 0 2 cls9 C (ltX (krX10_0 (by decide +kernel : kdX 0 = 10)) (by decide)) (krX10_0 (by decide +kernel : kdX 0 = 10)) (obX9 (krX10_0 (by decide +kernel : kdX 0 = 10))) (by decide) (frX9_0 (krX10_0 (by decide +kernel : kdX 0 = 10))) fl10_60 (by decide +kernel) ?_
      refine sm_vcalv [.ref 2] [] rfl C mw_X1_keep ml_10_94 rfl (ci := 1) rfl (ltX (krX10_4 (by decide +kernel : kdX 0 = 10)) (by decide)) (krX10_4 (by decide +kernel : kdX 0 = 10)) (by decide) ⟨by decide, by decide⟩ (Nat.le_of_ble_eq_true rfl) (by decide +kernel) (c_X1_keep F 2 (krX9_0 (krX10_0 (by decide +kernel : kdX 0 = 10))) τ2) (fun r3 τ4 => ?_)
      refine sm_seg C [(.aload_n 0, 0)] (pc' := 33) (L' := [(0, .ref 0), (1, .int a1), (2, .int a2), (3, .int a3)]) (S' := [.ref 0]) (by decide +kernel) rfl ?_
      refine sm_getR 10 6 211 cls10 C (ltX (by decide +kernel : kdX 0 = 10) (by decide)) (by decide +kernel : kdX 0 = 10) (obX10 (by decide +kernel : kdX 0 = 10)) (by decide) (frX10_6 (by decide +kernel : kdX 0 = 10)) fl10_49 (by decide +kernel) ?_
      refine sm_seg C [(.iload_n 1, 0), (.iload_n 2, 0), (.iload_n 3, 0)] (pc' := 39) (L' := [(0, .ref 0), (1, .int a1), (2, .int a2), (3, .int a3)]) (S' := [.int a3, .int a2, .int a1, .ref 211]) (by decide +kernel) rfl ?_
      refine sm_vcalv [.int a1, .int a2, .int a3] [] rfl C mw_X0_doByHand ml_10_98 rfl (ci := 0) rfl (ltX (krX10_6 (by decide +kernel : kdX 0 = 10)) (by decide)) (krX10_6 (by decide +kernel : kdX 0 = 10)) (by decide) ⟨by decide, by decide⟩ (Nat.le_of_ble_eq_true rfl) (by decide +kernel) (c_X0_doByHand F a1 a2 a3 τ4) (fun r5 τ6 => ?_)
      refine sm_seg C [(.iconst 1, 1)] (pc' := 43) (L' := [(0, .ref 0), (1, .int a1), (2, .int a2), (3, .int a3)]) (S' := [.int 1]) (by decide +kernel) rfl ?_
      exact sm_iret C hr rfl (by decide +kernel)) h
/-! BasketEnvoys_Row.get -/
def X5_get (F : Nat) (t0 : Nat) (a1 : Int32) (τ : Tau) : Option (Int32 × Tau) :=
  if a1 < 0 then (some (0, τ)) else (if (τ t0 0) ≤ a1 then (some (0, τ)) else (if (Int32.ofNat (lnX (t0 + 1))) ≤ a1 then (some (0, τ)) else (ald τ (t0 + 1) (lnX (t0 + 1)) a1 fun v1 => some (v1, τ))))
set_option maxRecDepth 20000 in
set_option maxHeartbeats 4000000 in
theorem c_X5_get (F : Nat) (t0 : Nat) (h0 : kdX t0 = 5) (a1 : Int32) (τ : Tau) (r : Int32) (τ' : Tau) (h : X5_get F t0 a1 τ = some (r, τ')) : MCi sysX yX5_get cX5_get 2 (some .int) 1 [.ref t0, .int a1] τ r τ' :=
  mci_of (by decide +kernel) (Nat.le_of_ble_eq_true rfl) (fun K C hr => by
    show Sm K sysX 2 (Qi K sysX) (X5_get F t0 a1 τ) 0 [(0, .ref t0), (1, .int a1)] [] τ
    unfold X5_get
    refine sm_seg C [(.iload_n 1, 0)] (pc' := 1) (L' := [(0, .ref t0), (1, .int a1)]) (S' := [.int a1]) (by decide +kernel) rfl ?_
    refine sm_iflt 30 (off := 29) C (by decide +kernel) (by decide) (fun _ => ?_) (fun _ => ?_)
    · refine sm_seg C [(.iconst 0, 0)] (pc' := 31) (L' := [(0, .ref t0), (1, .int a1)]) (S' := [.int 0]) (by decide +kernel) rfl ?_
      exact sm_iret C hr rfl (by decide +kernel)
    · refine sm_seg C [(.iload_n 1, 0), (.aload_n 0, 0)] (pc' := 6) (L' := [(0, .ref t0), (1, .int a1)]) (S' := [.ref t0, .int a1]) (by decide +kernel) rfl ?_
      refine sm_getI 5 0 cls5 C (ltX h0 (by decide)) h0 (obX5 h0) (by decide) (fiX5_0 h0) fl5_9 (by decide +kernel) ?_
      refine sm_icmpge 30 (off := 21) C (by decide +kernel) (by decide) (fun _ => ?_) (fun _ => ?_)
      · refine sm_seg C [(.iconst 0, 0)] (pc' := 31) (L' := [(0, .ref t0), (1, .int a1)]) (S' := [.int 0]) (by decide +kernel) rfl ?_
        exact sm_iret C hr rfl (by decide +kernel)
      · refine sm_seg C [(.iload_n 1, 0), (.aload_n 0, 0)] (pc' := 14) (L' := [(0, .ref t0), (1, .int a1)]) (S' := [.ref t0, .int a1]) (by decide +kernel) rfl ?_
        refine sm_getR 5 1 (t0 + 1) cls5 C (ltX h0 (by decide)) h0 (obX5 h0) (by decide) (frX5_1 h0) fl5_21 (by decide +kernel) ?_
        refine sm_alen 20 0 (lnX (t0 + 1)) (fun _ => rfl) C (ltX (krX5_1 h0) (by decide)) (krX5_1 h0) (by decide) (by decide) rfl rfl (by decide +kernel) ?_
        refine sm_icmpge 30 (off := 12) C (by decide +kernel) (by decide) (fun _ => ?_) (fun _ => ?_)
        · refine sm_seg C [(.iconst 0, 0)] (pc' := 31) (L' := [(0, .ref t0), (1, .int a1)]) (S' := [.int 0]) (by decide +kernel) rfl ?_
          exact sm_iret C hr rfl (by decide +kernel)
        · refine sm_seg C [(.aload_n 0, 0)] (pc' := 22) (L' := [(0, .ref t0), (1, .int a1)]) (S' := [.ref t0]) (by decide +kernel) rfl ?_
          refine sm_getR 5 1 (t0 + 1) cls5 C (ltX h0 (by decide)) h0 (obX5 h0) (by decide) (frX5_1 h0) fl5_21 (by decide +kernel) ?_
          refine sm_seg C [(.iload_n 1, 0)] (pc' := 26) (L' := [(0, .ref t0), (1, .int a1)]) (S' := [.int a1, .ref (t0 + 1)]) (by decide +kernel) rfl ?_
          refine sm_ald (lnX (t0 + 1)) C (ltX (krX5_1 h0) (by decide)) (krX5_1 h0) rfl (by decide +kernel) (fun v1 => ?_)
          refine sm_seg C [(.goto 4, 0)] (pc' := 31) (L' := [(0, .ref t0), (1, .int a1)]) (S' := [.int v1]) (by decide +kernel) rfl ?_
          exact sm_iret C hr rfl (by decide +kernel)) h
/-! BasketEnvoys_Riddles.whoReadsAs -/
def X4_whoReadsAs_j107 (F : Nat) (self4 : Int32 → Int32 → Int32 → Tau → Option (Int32 × Tau)) (a1 : Int32) (a3 : Int32) (z0 : Int32) (z1 : Int32) (τ : Tau) : Option (Int32 × Tau) :=
  self4 a1 (z1 ||| z0) (a3 + 1) τ
theorem s_X4_whoReadsAs_j107 (F : Nat) {K : Ctx} (C : Cx K sysX RX4 cX4_whoReadsAs 7 3) (hr : Rt K (some .int)) (self4 : Int32 → Int32 → Int32 → Tau → Option (Int32 × Tau)) (ih4 : ∀ (a1 : Int32) (a2 : Int32) (a3 : Int32) (τ : Tau), Sm K sysX 7 (Qi K sysX) (self4 a1 a2 a3 τ) 4 [(0, .ref 213), (1, .int a1), (2, .int a2), (3, .int a3)] [] τ) (a1 : Int32) (a3 : Int32) (z0 : Int32) (z1 : Int32) (τ : Tau) : Sm K sysX 7 (Qi K sysX) (X4_whoReadsAs_j107 F self4 a1 a3 z0 z1 τ) 107 [(0, .ref 213), (1, .int a1), (3, .int a3)] [.int z0, .int z1] τ := by
  unfold X4_whoReadsAs_j107
  refine sm_seg C [(.ior, 0), (.istore_n 2, 0), (.iinc 3 1, 1), (.goto (-108), 0)] (pc' := 4) (L' := [(3, .int (a3 + 1)), (2, .int (z1 ||| z0)), (0, .ref 213), (1, .int a1)]) (S' := []) (by decide +kernel) rfl ?_
  exact sm_sub [2, 3, 1, 0] rfl (ih4 a1 (z1 ||| z0) (a3 + 1) τ)
def X4_whoReadsAs_j86 (F : Nat) (self4 : Int32 → Int32 → Int32 → Tau → Option (Int32 × Tau)) (self24 : Int32 → Int32 → Int32 → Int32 → Int32 → Tau → Option (Int32 × Tau)) (a1 : Int32) (a2 : Int32) (a3 : Int32) (a5 : Int32) (z0 : Int32) (τ : Tau) : Option (Int32 × Tau) :=
  self24 a1 a2 a3 z0 (a5 + 1) τ
theorem s_X4_whoReadsAs_j86 (F : Nat) {K : Ctx} (C : Cx K sysX RX4 cX4_whoReadsAs 7 3) (hr : Rt K (some .int)) (self4 : Int32 → Int32 → Int32 → Tau → Option (Int32 × Tau)) (self24 : Int32 → Int32 → Int32 → Int32 → Int32 → Tau → Option (Int32 × Tau)) (ih4 : ∀ (a1 : Int32) (a2 : Int32) (a3 : Int32) (τ : Tau), Sm K sysX 7 (Qi K sysX) (self4 a1 a2 a3 τ) 4 [(0, .ref 213), (1, .int a1), (2, .int a2), (3, .int a3)] [] τ) (ih24 : ∀ (a1 : Int32) (a2 : Int32) (a3 : Int32) (a4 : Int32) (a5 : Int32) (τ : Tau), Sm K sysX 7 (Qi K sysX) (self24 a1 a2 a3 a4 a5 τ) 24 [(0, .ref 213), (1, .int a1), (2, .int a2), (3, .int a3), (4, .int a4), (5, .int a5)] [] τ) (a1 : Int32) (a2 : Int32) (a3 : Int32) (a5 : Int32) (z0 : Int32) (τ : Tau) : Sm K sysX 7 (Qi K sysX) (X4_whoReadsAs_j86 F self4 self24 a1 a2 a3 a5 z0 τ) 86 [(0, .ref 213), (1, .int a1), (2, .int a2), (3, .int a3), (5, .int a5)] [.int z0] τ := by
  unfold X4_whoReadsAs_j86
  refine sm_seg C [(.istore 4, 0), (.iinc 5 1, 1), (.goto (-67), 0)] (pc' := 24) (L' := [(5, .int (a5 + 1)), (4, .int z0), (0, .ref 213), (1, .int a1), (2, .int a2), (3, .int a3)]) (S' := []) (by decide +kernel) rfl ?_
  exact sm_sub [2, 3, 4, 5, 1, 0] rfl (ih24 a1 a2 a3 z0 (a5 + 1) τ)
def X4_whoReadsAs_j85 (F : Nat) (self4 : Int32 → Int32 → Int32 → Tau → Option (Int32 × Tau)) (self24 : Int32 → Int32 → Int32 → Int32 → Int32 → Tau → Option (Int32 × Tau)) (a1 : Int32) (a2 : Int32) (a3 : Int32) (a5 : Int32) (τ : Tau) : Option (Int32 × Tau) :=
  X4_whoReadsAs_j86 F self4 self24 a1 a2 a3 a5 0 τ
theorem s_X4_whoReadsAs_j85 (F : Nat) {K : Ctx} (C : Cx K sysX RX4 cX4_whoReadsAs 7 3) (hr : Rt K (some .int)) (self4 : Int32 → Int32 → Int32 → Tau → Option (Int32 × Tau)) (self24 : Int32 → Int32 → Int32 → Int32 → Int32 → Tau → Option (Int32 × Tau)) (ih4 : ∀ (a1 : Int32) (a2 : Int32) (a3 : Int32) (τ : Tau), Sm K sysX 7 (Qi K sysX) (self4 a1 a2 a3 τ) 4 [(0, .ref 213), (1, .int a1), (2, .int a2), (3, .int a3)] [] τ) (ih24 : ∀ (a1 : Int32) (a2 : Int32) (a3 : Int32) (a4 : Int32) (a5 : Int32) (τ : Tau), Sm K sysX 7 (Qi K sysX) (self24 a1 a2 a3 a4 a5 τ) 24 [(0, .ref 213), (1, .int a1), (2, .int a2), (3, .int a3), (4, .int a4), (5, .int a5)] [] τ) (a1 : Int32) (a2 : Int32) (a3 : Int32) (a5 : Int32) (τ : Tau) : Sm K sysX 7 (Qi K sysX) (X4_whoReadsAs_j85 F self4 self24 a1 a2 a3 a5 τ) 85 [(0, .ref 213), (1, .int a1), (2, .int a2), (3, .int a3), (5, .int a5)] [] τ := by
  unfold X4_whoReadsAs_j85
  refine sm_seg C [(.iconst 0, 0)] (pc' := 86) (L' := [(0, .ref 213), (1, .int a1), (2, .int a2), (3, .int a3), (5, .int a5)]) (S' := [.int 0]) (by decide +kernel) rfl ?_
  exact sm_sub [0, 1, 2, 3, 4] rfl (s_X4_whoReadsAs_j86 F C hr self4 self24 ih4 ih24 a1 a2 a3 a5 0 τ)
def X4_whoReadsAs_L24 (F : Nat) (self4 : Int32 → Int32 → Int32 → Tau → Option (Int32 × Tau)) : Nat → Int32 → Int32 → Int32 → Int32 → Int32 → Tau → Option (Int32 × Tau)
  | 0, _, _, _, _, _, _ => none
  | n + 1, a1, a2, a3, a4, a5, τ =>
    if (τ 16 0) ≤ a5 then (if a4 = 0 then (X4_whoReadsAs_j107 F self4 a1 a3 0 a2 τ) else (X4_whoReadsAs_j107 F self4 a1 a3 (shl 1 a3) a2 τ)) else (cal (X5_get F 16 a5 τ) fun r1 τ2 => if a4 = 0 then (X4_whoReadsAs_j85 F self4 (X4_whoReadsAs_L24 F self4 n) a1 a2 a3 a5 τ2) else (cal (X9_saysTo F 1 a3 r1 τ2) fun r3 τ4 => cal (X9_saysTo F 1 a1 r1 τ4) fun r5 τ6 => if r3 = r5 then (X4_whoReadsAs_j86 F self4 (X4_whoReadsAs_L24 F self4 n) a1 a2 a3 a5 1 τ6) else (X4_whoReadsAs_j85 F self4 (X4_whoReadsAs_L24 F self4 n) a1 a2 a3 a5 τ6)))
theorem s_X4_whoReadsAs_L24 (F : Nat) {K : Ctx} (C : Cx K sysX RX4 cX4_whoReadsAs 7 3) (hr : Rt K (some .int)) (self4 : Int32 → Int32 → Int32 → Tau → Option (Int32 × Tau)) (ih4 : ∀ (a1 : Int32) (a2 : Int32) (a3 : Int32) (τ : Tau), Sm K sysX 7 (Qi K sysX) (self4 a1 a2 a3 τ) 4 [(0, .ref 213), (1, .int a1), (2, .int a2), (3, .int a3)] [] τ) : ∀ (n : Nat) (a1 : Int32) (a2 : Int32) (a3 : Int32) (a4 : Int32) (a5 : Int32) (τ : Tau), Sm K sysX 7 (Qi K sysX) (X4_whoReadsAs_L24 F self4 n a1 a2 a3 a4 a5 τ) 24 [(0, .ref 213), (1, .int a1), (2, .int a2), (3, .int a3), (4, .int a4), (5, .int a5)] [] τ := by
  intro n
  induction n with
  | zero => intro a1 a2 a3 a4 a5 τ; exact sm_none
  | succ n ih =>
    intro a1 a2 a3 a4 a5 τ
    rw [X4_whoReadsAs_L24]
    refine sm_seg C [(.iload 5, 0), (.aload_n 0, 0)] (pc' := 27) (L' := [(0, .ref 213), (1, .int a1), (2, .int a2), (3, .int a3), (4, .int a4), (5, .int a5)]) (S' := [.ref 213, .int a5]) (by decide +kernel) rfl ?_
    refine sm_getR 4 1 15 cls4 C (ltX (by decide +kernel : kdX 213 = 4) (by decide)) (by decide +kernel : kdX 213 = 4) (obX4 (by decide +kernel : kdX 213 = 4)) (by decide) (frX4_1 (by decide +kernel : kdX 213 = 4)) fl4_51 (by decide +kernel) ?_
    refine sm_getR 7 0 16 cls7 C (ltX (krX4_1 (by decide +kernel : kdX 213 = 4)) (by decide)) (krX4_1 (by decide +kernel : kdX 213 = 4)) (obX7 (krX4_1 (by decide +kernel : kdX 213 = 4))) (by decide) (frX7_0 (krX4_1 (by decide +kernel : kdX 213 = 4))) fl4_62 (by decide +kernel) ?_
    refine sm_getI 5 0 cls5 C (ltX (krX7_0 (krX4_1 (by decide +kernel : kdX 213 = 4))) (by decide)) (krX7_0 (krX4_1 (by decide +kernel : kdX 213 = 4))) (obX5 (krX7_0 (krX4_1 (by decide +kernel : kdX 213 = 4)))) (by decide) (fiX5_0 (krX7_0 (krX4_1 (by decide +kernel : kdX 213 = 4)))) fl4_68 (by decide +kernel) ?_
    refine sm_icmpge 94 (off := 58) C (by decide +kernel) (by decide) (fun _ => ?_) (fun _ => ?_)
    · refine sm_seg C [(.iload_n 2, 0), (.iload 4, 0)] (pc' := 97) (L' := [(0, .ref 213), (1, .int a1), (2, .int a2), (3, .int a3), (4, .int a4), (5, .int a5)]) (S' := [.int a4, .int a2]) (by decide +kernel) rfl ?_
      refine sm_ifeq 106 (off := 9) C (by decide +kernel) (by decide) (fun _ => ?_) (fun _ => ?_)
      · refine sm_seg C [(.iconst 0, 0)] (pc' := 107) (L' := [(0, .ref 213), (1, .int a1), (2, .int a2), (3, .int a3), (4, .int a4), (5, .int a5)]) (S' := [.int 0, .int a2]) (by decide +kernel) rfl ?_
        exact sm_sub [0, 1, 3] rfl (s_X4_whoReadsAs_j107 F C hr self4 ih4 a1 a3 0 a2 τ)
      · refine sm_seg C [(.iconst 1, 1), (.iload_n 3, 0), (.ishl, 0), (.goto 4, 0)] (pc' := 107) (L' := [(0, .ref 213), (1, .int a1), (2, .int a2), (3, .int a3), (4, .int a4), (5, .int a5)]) (S' := [.int (shl 1 a3), .int a2]) (by decide +kernel) rfl ?_
        exact sm_sub [0, 1, 3] rfl (s_X4_whoReadsAs_j107 F C hr self4 ih4 a1 a3 (shl 1 a3) a2 τ)
    · refine sm_seg C [(.aload_n 0, 0)] (pc' := 40) (L' := [(0, .ref 213), (1, .int a1), (2, .int a2), (3, .int a3), (4, .int a4), (5, .int a5)]) (S' := [.ref 213]) (by decide +kernel) rfl ?_
      refine sm_getR 4 1 15 cls4 C (ltX (by decide +kernel : kdX 213 = 4) (by decide)) (by decide +kernel : kdX 213 = 4) (obX4 (by decide +kernel : kdX 213 = 4)) (by decide) (frX4_1 (by decide +kernel : kdX 213 = 4)) fl4_51 (by decide +kernel) ?_
      refine sm_getR 7 0 16 cls7 C (ltX (krX4_1 (by decide +kernel : kdX 213 = 4)) (by decide)) (krX4_1 (by decide +kernel : kdX 213 = 4)) (obX7 (krX4_1 (by decide +kernel : kdX 213 = 4))) (by decide) (frX7_0 (krX4_1 (by decide +kernel : kdX 213 = 4))) fl4_62 (by decide +kernel) ?_
      refine sm_seg C [(.iload 5, 0)] (pc' := 48) (L' := [(0, .ref 213), (1, .int a1), (2, .int a2), (3, .int a3), (4, .int a4), (5, .int a5)]) (S' := [.int a5, .ref 16]) (by decide +kernel) rfl ?_
      refine sm_vcal [.int a5] [] rfl C mw_X5_get ml_4_73 rfl (ci := 5) rfl (ltX (krX7_0 (krX4_1 (by decide +kernel : kdX 213 = 4))) (by decide)) (krX7_0 (krX4_1 (by decide +kernel : kdX 213 = 4))) (by decide) ⟨by decide, by decide⟩ (Nat.le_of_ble_eq_true rfl) (by decide +kernel) (c_X5_get F 16 (krX7_0 (krX4_1 (by decide +kernel : kdX 213 = 4))) a5 τ) (fun r1 τ2 => ?_)
      refine sm_seg C [(.istore 6, 0), (.iload 4, 0)] (pc' := 55) (L' := [(6, .int r1), (0, .ref 213), (1, .int a1), (2, .int a2), (3, .int a3), (4, .int a4), (5, .int a5)]) (S' := [.int a4]) (by decide +kernel) rfl ?_
      refine sm_ifeq 85 (off := 30) C (by decide +kernel) (by decide) (fun _ => ?_) (fun _ => ?_)
      · exact sm_sub [1, 2, 3, 4, 6] rfl (s_X4_whoReadsAs_j85 F C hr self4 (X4_whoReadsAs_L24 F self4 n) ih4 ih a1 a2 a3 a5 τ2)
      · refine sm_seg C [(.aload_n 0, 0)] (pc' := 59) (L' := [(6, .int r1), (0, .ref 213), (1, .int a1), (2, .int a2), (3, .int a3), (4, .int a4), (5, .int a5)]) (S' := [.ref 213]) (by decide +kernel) rfl ?_
        refine sm_getR 4 0 1 cls4 C (ltX (by decide +kernel : kdX 213 = 4) (by decide)) (by decide +kernel : kdX 213 = 4) (obX4 (by decide +kernel : kdX 213 = 4)) (by decide) (frX4_0 (by decide +kernel : kdX 213 = 4)) fl4_41 (by decide +kernel) ?_
        refine sm_seg C [(.iload_n 3, 0), (.iload 6, 0)] (pc' := 65) (L' := [(6, .int r1), (0, .ref 213), (1, .int a1), (2, .int a2), (3, .int a3), (4, .int a4), (5, .int a5)]) (S' := [.int r1, .int a3, .ref 1]) (by decide +kernel) rfl ?_
        refine sm_vcal [.int a3, .int r1] [] rfl C mw_X9_saysTo ml_4_77 rfl (ci := 9) rfl (ltX (krX4_0 (by decide +kernel : kdX 213 = 4)) (by decide)) (krX4_0 (by decide +kernel : kdX 213 = 4)) (by decide) ⟨by decide, by decide⟩ (Nat.le_of_ble_eq_true rfl) (by decide +kernel) (c_X9_saysTo F 1 (krX4_0 (by decide +kernel : kdX 213 = 4)) a3 r1 τ2) (fun r3 τ4 => ?_)
        refine sm_seg C [(.aload_n 0, 0)] (pc' := 69) (L' := [(6, .int r1), (0, .ref 213), (1, .int a1), (2, .int a2), (3, .int a3), (4, .int a4), (5, .int a5)]) (S' := [.ref 213, .int r3]) (by decide +kernel) rfl ?_
        refine sm_getR 4 0 1 cls4 C (ltX (by decide +kernel : kdX 213 = 4) (by decide)) (by decide +kernel : kdX 213 = 4) (obX4 (by decide +kernel : kdX 213 = 4)) (by decide) (frX4_0 (by decide +kernel : kdX 213 = 4)) fl4_41 (by decide +kernel) ?_
        refine sm_seg C [(.iload_n 1, 0), (.iload 6, 0)] (pc' := 75) (L' := [(6, .int r1), (0, .ref 213), (1, .int a1), (2, .int a2), (3, .int a3), (4, .int a4), (5, .int a5)]) (S' := [.int r1, .int a1, .ref 1, .int r3]) (by decide +kernel) rfl ?_
        refine sm_vcal [.int a1, .int r1] [.int r3] rfl C mw_X9_saysTo ml_4_77 rfl (ci := 9) rfl (ltX (krX4_0 (by decide +kernel : kdX 213 = 4)) (by decide)) (krX4_0 (by decide +kernel : kdX 213 = 4)) (by decide) ⟨by decide, by decide⟩ (Nat.le_of_ble_eq_true rfl) (by decide +kernel) (c_X9_saysTo F 1 (krX4_0 (by decide +kernel : kdX 213 = 4)) a1 r1 τ4) (fun r5 τ6 => ?_)
        refine sm_icmpne 85 (off := 7) C (by decide +kernel) (by decide) (fun _ => ?_) (fun _ => ?_)
        · refine sm_seg C [(.iconst 1, 1), (.goto 4, 0)] (pc' := 86) (L' := [(6, .int r1), (0, .ref 213), (1, .int a1), (2, .int a2), (3, .int a3), (4, .int a4), (5, .int a5)]) (S' := [.int 1]) (by decide +kernel) rfl ?_
          exact sm_sub [1, 2, 3, 4, 6] rfl (s_X4_whoReadsAs_j86 F C hr self4 (X4_whoReadsAs_L24 F self4 n) ih4 ih a1 a2 a3 a5 1 τ6)
        · exact sm_sub [1, 2, 3, 4, 6] rfl (s_X4_whoReadsAs_j85 F C hr self4 (X4_whoReadsAs_L24 F self4 n) ih4 ih a1 a2 a3 a5 τ6)
def X4_whoReadsAs_L4 (F : Nat) : Nat → Int32 → Int32 → Int32 → Tau → Option (Int32 × Tau)
  | 0, _, _, _, _ => none
  | n + 1, a1, a2, a3, τ =>
    if (τ 2 0) ≤ a3 then (some (a2, τ)) else (X4_whoReadsAs_L24 F (X4_whoReadsAs_L4 F n) F a1 a2 a3 1 0 τ)
theorem s_X4_whoReadsAs_L4 (F : Nat) {K : Ctx} (C : Cx K sysX RX4 cX4_whoReadsAs 7 3) (hr : Rt K (some .int)) : ∀ (n : Nat) (a1 : Int32) (a2 : Int32) (a3 : Int32) (τ : Tau), Sm K sysX 7 (Qi K sysX) (X4_whoReadsAs_L4 F n a1 a2 a3 τ) 4 [(0, .ref 213), (1, .int a1), (2, .int a2), (3, .int a3)] [] τ := by
  intro n
  induction n with
  | zero => intro a1 a2 a3 τ; exact sm_none
  | succ n ih =>
    intro a1 a2 a3 τ
    rw [X4_whoReadsAs_L4]
    refine sm_seg C [(.iload_n 3, 0), (.aload_n 0, 0)] (pc' := 6) (L' := [(0, .ref 213), (1, .int a1), (2, .int a2), (3, .int a3)]) (S' := [.ref 213, .int a3]) (by decide +kernel) rfl ?_
    refine sm_getR 4 0 1 cls4 C (ltX (by decide +kernel : kdX 213 = 4) (by decide)) (by decide +kernel : kdX 213 = 4) (obX4 (by decide +kernel : kdX 213 = 4)) (by decide) (frX4_0 (by decide +kernel : kdX 213 = 4)) fl4_41 (by decide +kernel) ?_
    refine sm_getR 9 0 2 cls9 C (ltX (krX4_0 (by decide +kernel : kdX 213 = 4)) (by decide)) (krX4_0 (by decide +kernel : kdX 213 = 4)) (obX9 (krX4_0 (by decide +kernel : kdX 213 = 4))) (by decide) (frX9_0 (krX4_0 (by decide +kernel : kdX 213 = 4))) fl4_52 (by decide +kernel) ?_
    refine sm_getI 8 0 cls8 C (ltX (krX9_0 (krX4_0 (by decide +kernel : kdX 213 = 4))) (by decide)) (krX9_0 (krX4_0 (by decide +kernel : kdX 213 = 4))) (obX8 (krX9_0 (krX4_0 (by decide +kernel : kdX 213 = 4)))) (by decide) (fiX8_0 (krX9_0 (krX4_0 (by decide +kernel : kdX 213 = 4)))) fl4_56 (by decide +kernel) ?_
    refine sm_icmpge 115 (off := 100) C (by decide +kernel) (by decide) (fun _ => ?_) (fun _ => ?_)
    · refine sm_seg C [(.iload_n 2, 0)] (pc' := 116) (L' := [(0, .ref 213), (1, .int a1), (2, .int a2), (3, .int a3)]) (S' := [.int a2]) (by decide +kernel) rfl ?_
      exact sm_iret C hr rfl (by decide +kernel)
    · refine sm_seg C [(.iconst 1, 1), (.istore 4, 0), (.iconst 0, 0), (.istore 5, 0)] (pc' := 24) (L' := [(5, .int 0), (4, .int 1), (0, .ref 213), (1, .int a1), (2, .int a2), (3, .int a3)]) (S' := []) (by decide +kernel) rfl ?_
      exact sm_sub [2, 3, 4, 5, 1, 0] rfl (s_X4_whoReadsAs_L24 F C hr (X4_whoReadsAs_L4 F n) ih F a1 a2 a3 1 0 τ)
def X4_whoReadsAs (F : Nat) (a1 : Int32) (τ : Tau) : Option (Int32 × Tau) :=
  X4_whoReadsAs_L4 F F a1 0 0 τ
set_option maxRecDepth 20000 in
set_option maxHeartbeats 4000000 in
theorem c_X4_whoReadsAs (F : Nat) (a1 : Int32) (τ : Tau) (r : Int32) (τ' : Tau) (h : X4_whoReadsAs F a1 τ = some (r, τ')) : MCi sysX yX4_whoReadsAs cX4_whoReadsAs 7 (some .int) 3 [.ref 213, .int a1] τ r τ' :=
  mci_of (by decide +kernel) (Nat.le_of_ble_eq_true rfl) (fun K C hr => by
    show Sm K sysX 7 (Qi K sysX) (X4_whoReadsAs F a1 τ) 0 [(0, .ref 213), (1, .int a1)] [] τ
    unfold X4_whoReadsAs
    refine sm_seg C [(.iconst 0, 0), (.istore_n 2, 0), (.iconst 0, 0), (.istore_n 3, 0)] (pc' := 4) (L' := [(3, .int 0), (2, .int 0), (0, .ref 213), (1, .int a1)]) (S' := []) (by decide +kernel) rfl ?_
    exact sm_sub [2, 3, 1, 0] rfl (s_X4_whoReadsAs_L4 F C hr F a1 0 0 τ)) h
/-! BasketEnvoys.alike -/
def X10_alike (F : Nat) (a1 : Int32) (τ : Tau) : Option (Int32 × Tau) :=
  cal (X8_hasPower F 2 a1 τ) fun r1 τ2 => if r1 = 0 then (some ((-1), τ2)) else (cal (X4_whoReadsAs F a1 τ2) fun r3 τ4 => some (r3, τ4))
set_option maxRecDepth 20000 in
set_option maxHeartbeats 4000000 in
theorem c_X10_alike (F : Nat) (a1 : Int32) (τ : Tau) (r : Int32) (τ' : Tau) (h : X10_alike F a1 τ = some (r, τ')) : MCi sysX yX10_alike cX10_alike 2 (some .int) 4 [.ref 0, .int a1] τ r τ' :=
  mci_of (by decide +kernel) (Nat.le_of_ble_eq_true rfl) (fun K C hr => by
    show Sm K sysX 2 (Qi K sysX) (X10_alike F a1 τ) 0 [(0, .ref 0), (1, .int a1)] [] τ
    unfold X10_alike
    refine sm_seg C [(.aload_n 0, 0)] (pc' := 1) (L' := [(0, .ref 0), (1, .int a1)]) (S' := [.ref 0]) (by decide +kernel) rfl ?_
    refine sm_getR 10 0 1 cls10 C (ltX (by decide +kernel : kdX 0 = 10) (by decide)) (by decide +kernel : kdX 0 = 10) (obX10 (by decide +kernel : kdX 0 = 10)) (by decide) (frX10_0 (by decide +kernel : kdX 0 = 10)) fl10_12 (by decide +kernel) ?_
    refine sm_getR 9 0 2 cls9 C (ltX (krX10_0 (by decide +kernel : kdX 0 = 10)) (by decide)) (krX10_0 (by decide +kernel : kdX 0 = 10)) (obX9 (krX10_0 (by decide +kernel : kdX 0 = 10))) (by decide) (frX9_0 (krX10_0 (by decide +kernel : kdX 0 = 10))) fl10_60 (by decide +kernel) ?_
    refine sm_seg C [(.iload_n 1, 0)] (pc' := 8) (L' := [(0, .ref 0), (1, .int a1)]) (S' := [.int a1, .ref 2]) (by decide +kernel) rfl ?_
    refine sm_vcal [.int a1] [] rfl C mw_X8_hasPower ml_10_204 rfl (ci := 8) rfl (ltX (krX9_0 (krX10_0 (by decide +kernel : kdX 0 = 10))) (by decide)) (krX9_0 (krX10_0 (by decide +kernel : kdX 0 = 10))) (by decide) ⟨by decide, by decide⟩ (Nat.le_of_ble_eq_true rfl) (by decide +kernel) (c_X8_hasPower F 2 (krX9_0 (krX10_0 (by decide +kernel : kdX 0 = 10))) a1 τ) (fun r1 τ2 => ?_)
    refine sm_ifeq 25 (off := 14) C (by decide +kernel) (by decide) (fun _ => ?_) (fun _ => ?_)
    · refine sm_seg C [(.iconst (-1), (-1))] (pc' := 26) (L' := [(0, .ref 0), (1, .int a1)]) (S' := [.int (-1)]) (by decide +kernel) rfl ?_
      exact sm_iret C hr rfl (by decide +kernel)
    · refine sm_seg C [(.aload_n 0, 0)] (pc' := 15) (L' := [(0, .ref 0), (1, .int a1)]) (S' := [.ref 0]) (by decide +kernel) rfl ?_
      refine sm_getR 10 7 213 cls10 C (ltX (by decide +kernel : kdX 0 = 10) (by decide)) (by decide +kernel : kdX 0 = 10) (obX10 (by decide +kernel : kdX 0 = 10)) (by decide) (frX10_7 (by decide +kernel : kdX 0 = 10)) fl10_56 (by decide +kernel) ?_
      refine sm_seg C [(.iload_n 1, 0)] (pc' := 19) (L' := [(0, .ref 0), (1, .int a1)]) (S' := [.int a1, .ref 213]) (by decide +kernel) rfl ?_
      refine sm_vcal [.int a1] [] rfl C mw_X4_whoReadsAs ml_10_258 rfl (ci := 4) rfl (ltX (krX10_7 (by decide +kernel : kdX 0 = 10)) (by decide)) (krX10_7 (by decide +kernel : kdX 0 = 10)) (by decide) ⟨by decide, by decide⟩ (Nat.le_of_ble_eq_true rfl) (by decide +kernel) (c_X4_whoReadsAs F a1 τ2) (fun r3 τ4 => ?_)
      refine sm_seg C [(.goto 4, 0)] (pc' := 26) (L' := [(0, .ref 0), (1, .int a1)]) (S' := [.int r3]) (by decide +kernel) rfl ?_
      exact sm_iret C hr rfl (by decide +kernel)) h
/-! BasketEnvoys.book -/
def X10_book (F : Nat) (a1 : Int32) (a2 : Int32) (τ : Tau) : Option (Int32 × Tau) :=
  cal (X10_within F a1 0 ((τ 2 6) - 1) τ) fun r1 τ2 => if r1 = 0 then (some ((-1), τ2)) else (cal (X10_within F a2 0 3 τ2) fun r3 τ4 => if r3 = 0 then (some ((-1), τ4)) else (cal (X10_entry F 46 ((4 * a1) + a2) τ4) fun r5 τ6 => some (r5, τ6)))
set_option maxRecDepth 20000 in
set_option maxHeartbeats 4000000 in
theorem c_X10_book (F : Nat) (a1 : Int32) (a2 : Int32) (τ : Tau) (r : Int32) (τ' : Tau) (h : X10_book F a1 a2 τ = some (r, τ')) : MCi sysX yX10_book cX10_book 3 (some .int) 2 [.ref 0, .int a1, .int a2] τ r τ' :=
  mci_of (by decide +kernel) (Nat.le_of_ble_eq_true rfl) (fun K C hr => by
    show Sm K sysX 3 (Qi K sysX) (X10_book F a1 a2 τ) 0 [(0, .ref 0), (1, .int a1), (2, .int a2)] [] τ
    unfold X10_book
    refine sm_seg C [(.iload_n 1, 0), (.iconst 0, 0), (.aload_n 0, 0)] (pc' := 3) (L' := [(0, .ref 0), (1, .int a1), (2, .int a2)]) (S' := [.ref 0, .int 0, .int a1]) (by decide +kernel) rfl ?_
    refine sm_getR 10 0 1 cls10 C (ltX (by decide +kernel : kdX 0 = 10) (by decide)) (by decide +kernel : kdX 0 = 10) (obX10 (by decide +kernel : kdX 0 = 10)) (by decide) (frX10_0 (by decide +kernel : kdX 0 = 10)) fl10_12 (by decide +kernel) ?_
    refine sm_getR 9 0 2 cls9 C (ltX (krX10_0 (by decide +kernel : kdX 0 = 10)) (by decide)) (krX10_0 (by decide +kernel : kdX 0 = 10)) (obX9 (krX10_0 (by decide +kernel : kdX 0 = 10))) (by decide) (frX9_0 (krX10_0 (by decide +kernel : kdX 0 = 10))) fl10_60 (by decide +kernel) ?_
    refine sm_getI 8 6 cls8 C (ltX (krX9_0 (krX10_0 (by decide +kernel : kdX 0 = 10))) (by decide)) (krX9_0 (krX10_0 (by decide +kernel : kdX 0 = 10))) (obX8 (krX9_0 (krX10_0 (by decide +kernel : kdX 0 = 10)))) (by decide) (fiX8_6 (krX9_0 (krX10_0 (by decide +kernel : kdX 0 = 10)))) fl10_228 (by decide +kernel) ?_
    refine sm_seg C [(.iconst 1, 1), (.isub, 0)] (pc' := 14) (L' := [(0, .ref 0), (1, .int a1), (2, .int a2)]) (S' := [.int ((τ 2 6) - 1), .int 0, .int a1]) (by decide +kernel) rfl ?_
    refine sm_scal [.int a1, .int 0, .int ((τ 2 6) - 1)] [] rfl C mw_X10_within ml_10_70 rfl ⟨by decide, by decide⟩ (Nat.le_of_ble_eq_true rfl) (by decide +kernel) (c_X10_within F a1 0 ((τ 2 6) - 1) τ) (fun r1 τ2 => ?_)
    refine sm_ifeq 29 (off := 12) C (by decide +kernel) (by decide) (fun _ => ?_) (fun _ => ?_)
    · refine sm_seg C [(.iconst (-1), (-1))] (pc' := 30) (L' := [(0, .ref 0), (1, .int a1), (2, .int a2)]) (S' := [.int (-1)]) (by decide +kernel) rfl ?_
      exact sm_iret C hr rfl (by decide +kernel)
    · refine sm_seg C [(.iload_n 2, 0), (.iconst 0, 0), (.iconst 3, 3)] (pc' := 23) (L' := [(0, .ref 0), (1, .int a1), (2, .int a2)]) (S' := [.int 3, .int 0, .int a2]) (by decide +kernel) rfl ?_
      refine sm_scal [.int a2, .int 0, .int 3] [] rfl C mw_X10_within ml_10_70 rfl ⟨by decide, by decide⟩ (Nat.le_of_ble_eq_true rfl) (by decide +kernel) (c_X10_within F a2 0 3 τ2) (fun r3 τ4 => ?_)
      refine sm_ifne 31 (off := 5) C (by decide +kernel) (by decide) (fun _ => ?_) (fun _ => ?_)
      · refine sm_seg C [(.iconst (-1), (-1))] (pc' := 30) (L' := [(0, .ref 0), (1, .int a1), (2, .int a2)]) (S' := [.int (-1)]) (by decide +kernel) rfl ?_
        exact sm_iret C hr rfl (by decide +kernel)
      · refine sm_seg C [(.aload_n 0, 0)] (pc' := 32) (L' := [(0, .ref 0), (1, .int a1), (2, .int a2)]) (S' := [.ref 0]) (by decide +kernel) rfl ?_
        refine sm_getR 10 0 1 cls10 C (ltX (by decide +kernel : kdX 0 = 10) (by decide)) (by decide +kernel : kdX 0 = 10) (obX10 (by decide +kernel : kdX 0 = 10)) (by decide) (frX10_0 (by decide +kernel : kdX 0 = 10)) fl10_12 (by decide +kernel) ?_
        refine sm_getR 9 3 46 cls9 C (ltX (krX10_0 (by decide +kernel : kdX 0 = 10)) (by decide)) (krX10_0 (by decide +kernel : kdX 0 = 10)) (obX9 (krX10_0 (by decide +kernel : kdX 0 = 10))) (by decide) (frX9_3 (krX10_0 (by decide +kernel : kdX 0 = 10))) fl10_231 (by decide +kernel) ?_
        refine sm_seg C [(.iconst 4, 4), (.iload_n 1, 0), (.imul, 0), (.iload_n 2, 0), (.iadd, 0)] (pc' := 43) (L' := [(0, .ref 0), (1, .int a1), (2, .int a2)]) (S' := [.int ((4 * a1) + a2), .ref 46]) (by decide +kernel) rfl ?_
        refine sm_scal [.ref 46, .int ((4 * a1) + a2)] [] rfl C mw_X10_entry ml_10_234 rfl ⟨by decide, by decide⟩ (Nat.le_of_ble_eq_true rfl) (by decide +kernel) (c_X10_entry F 46 (krX9_3 (krX10_0 (by decide +kernel : kdX 0 = 10))) ((4 * a1) + a2) τ4) (fun r5 τ6 => ?_)
        exact sm_iret C hr rfl (by decide +kernel)) h
/-! BasketEnvoys_Row.empty -/
def X5_empty (F : Nat) (t0 : Nat) (τ : Tau) : Option (Int32 × Tau) :=
  pst τ t0 0 0 fun τ1 => some (0, τ1)
set_option maxRecDepth 20000 in
set_option maxHeartbeats 4000000 in
theorem c_X5_empty (F : Nat) (t0 : Nat) (h0 : kdX t0 = 5) (τ : Tau) (r : Int32) (τ' : Tau) (h : X5_empty F t0 τ = some (r, τ')) : MCi sysX yX5_empty cX5_empty 1 (some .int) 1 [.ref t0] τ r τ' :=
  mci_of (by decide +kernel) (Nat.le_of_ble_eq_true rfl) (fun K C hr => by
    show Sm K sysX 1 (Qi K sysX) (X5_empty F t0 τ) 0 [(0, .ref t0)] [] τ
    unfold X5_empty
    refine sm_seg C [(.aload_n 0, 0), (.iconst 0, 0)] (pc' := 2) (L' := [(0, .ref t0)]) (S' := [.int 0, .ref t0]) (by decide +kernel) rfl ?_
    refine sm_pst 5 0 cls5 C (ltX h0 (by decide)) h0 (obX5 h0) (by decide) (fiX5_0 h0) rfl rfl rfl fl5_9 (by decide +kernel) (fun τ1 => ?_)
    refine sm_seg C [(.iconst 0, 0)] (pc' := 6) (L' := [(0, .ref t0)]) (S' := [.int 0]) (by decide +kernel) rfl ?_
    exact sm_iret C hr rfl (by decide +kernel)) h
/-! BasketEnvoys_Row.add -/
def X5_add (F : Nat) (t0 : Nat) (a1 : Int32) (a2 : Int32) (τ : Tau) : Option (Int32 × Tau) :=
  if a2 = 0 then (some ((-1), τ)) else (if (τ t0 0) < (Int32.ofNat (lnX (t0 + 1))) then (ast τ (t0 + 1) (lnX (t0 + 1)) (τ t0 0) a1 fun τ1 => pst τ1 t0 0 ((τ1 t0 0) + 1) fun τ2 => some ((τ2 t0 0), τ2)) else (some ((-1), τ)))
set_option maxRecDepth 20000 in
set_option maxHeartbeats 4000000 in
theorem c_X5_add (F : Nat) (t0 : Nat) (h0 : kdX t0 = 5) (a1 : Int32) (a2 : Int32) (τ : Tau) (r : Int32) (τ' : Tau) (h : X5_add F t0 a1 a2 τ = some (r, τ')) : MCi sysX yX5_add cX5_add 3 (some .int) 1 [.ref t0, .int a1, .int a2] τ r τ' :=
  mci_of (by decide +kernel) (Nat.le_of_ble_eq_true rfl) (fun K C hr => by
    show Sm K sysX 3 (Qi K sysX) (X5_add F t0 a1 a2 τ) 0 [(0, .ref t0), (1, .int a1), (2, .int a2)] [] τ
    unfold X5_add
    refine sm_seg C [(.iload_n 2, 0)] (pc' := 1) (L' := [(0, .ref t0), (1, .int a1), (2, .int a2)]) (S' := [.int a2]) (by decide +kernel) rfl ?_
    refine sm_ifeq 16 (off := 15) C (by decide +kernel) (by decide) (fun _ => ?_) (fun _ => ?_)
    · refine sm_seg C [(.iconst (-1), (-1))] (pc' := 17) (L' := [(0, .ref t0), (1, .int a1), (2, .int a2)]) (S' := [.int (-1)]) (by decide +kernel) rfl ?_
      exact sm_iret C hr rfl (by decide +kernel)
    · refine sm_seg C [(.aload_n 0, 0)] (pc' := 5) (L' := [(0, .ref t0), (1, .int a1), (2, .int a2)]) (S' := [.ref t0]) (by decide +kernel) rfl ?_
      refine sm_getI 5 0 cls5 C (ltX h0 (by decide)) h0 (obX5 h0) (by decide) (fiX5_0 h0) fl5_9 (by decide +kernel) ?_
      refine sm_seg C [(.aload_n 0, 0)] (pc' := 9) (L' := [(0, .ref t0), (1, .int a1), (2, .int a2)]) (S' := [.ref t0, .int (τ t0 0)]) (by decide +kernel) rfl ?_
      refine sm_getR 5 1 (t0 + 1) cls5 C (ltX h0 (by decide)) h0 (obX5 h0) (by decide) (frX5_1 h0) fl5_21 (by decide +kernel) ?_
      refine sm_alen 20 0 (lnX (t0 + 1)) (fun _ => rfl) C (ltX (krX5_1 h0) (by decide)) (krX5_1 h0) (by decide) (by decide) rfl rfl (by decide +kernel) ?_
      refine sm_icmplt 18 (off := 5) C (by decide +kernel) (by decide) (fun _ => ?_) (fun _ => ?_)
      · refine sm_seg C [(.aload_n 0, 0)] (pc' := 19) (L' := [(0, .ref t0), (1, .int a1), (2, .int a2)]) (S' := [.ref t0]) (by decide +kernel) rfl ?_
        refine sm_getR 5 1 (t0 + 1) cls5 C (ltX h0 (by decide)) h0 (obX5 h0) (by decide) (frX5_1 h0) fl5_21 (by decide +kernel) ?_
        refine sm_seg C [(.aload_n 0, 0)] (pc' := 23) (L' := [(0, .ref t0), (1, .int a1), (2, .int a2)]) (S' := [.ref t0, .ref (t0 + 1)]) (by decide +kernel) rfl ?_
        refine sm_getI 5 0 cls5 C (ltX h0 (by decide)) h0 (obX5 h0) (by decide) (fiX5_0 h0) fl5_9 (by decide +kernel) ?_
        refine sm_seg C [(.iload_n 1, 0)] (pc' := 27) (L' := [(0, .ref t0), (1, .int a1), (2, .int a2)]) (S' := [.int a1, .int (τ t0 0), .ref (t0 + 1)]) (by decide +kernel) rfl ?_
        refine sm_ast (lnX (t0 + 1)) C (ltX (krX5_1 h0) (by decide)) (krX5_1 h0) rfl (by decide +kernel) (fun τ1 => ?_)
        refine sm_seg C [(.aload_n 0, 0), (.dup, 0)] (pc' := 30) (L' := [(0, .ref t0), (1, .int a1), (2, .int a2)]) (S' := [.ref t0, .ref t0]) (by decide +kernel) rfl ?_
        refine sm_getI 5 0 cls5 C (ltX h0 (by decide)) h0 (obX5 h0) (by decide) (fiX5_0 h0) fl5_9 (by decide +kernel) ?_
        refine sm_seg C [(.iconst 1, 1), (.iadd, 0)] (pc' := 35) (L' := [(0, .ref t0), (1, .int a1), (2, .int a2)]) (S' := [.int ((τ1 t0 0) + 1), .ref t0]) (by decide +kernel) rfl ?_
        refine sm_pst 5 0 cls5 C (ltX h0 (by decide)) h0 (obX5 h0) (by decide) (fiX5_0 h0) rfl rfl rfl fl5_9 (by decide +kernel) (fun τ2 => ?_)
        refine sm_seg C [(.aload_n 0, 0)] (pc' := 39) (L' := [(0, .ref t0), (1, .int a1), (2, .int a2)]) (S' := [.ref t0]) (by decide +kernel) rfl ?_
        refine sm_getI 5 0 cls5 C (ltX h0 (by decide)) h0 (obX5 h0) (by decide) (fiX5_0 h0) fl5_9 (by decide +kernel) ?_
        exact sm_iret C hr rfl (by decide +kernel)
      · refine sm_seg C [(.iconst (-1), (-1))] (pc' := 17) (L' := [(0, .ref t0), (1, .int a1), (2, .int a2)]) (S' := [.int (-1)]) (by decide +kernel) rfl ?_
        exact sm_iret C hr rfl (by decide +kernel)) h
/-! BasketEnvoys.border -/
def X10_border_j30 (F : Nat) (a1 : Int32) (a2 : Int32) (z0 : Int32) (τ : Tau) : Option (Int32 × Tau) :=
  if a1 = (-1) then (cal (X5_empty F 26 τ) fun r3 τ4 => some (r3, τ4)) else (cal (X5_add F 26 ((8 * a1) + a2) z0 τ) fun r5 τ6 => some (r5, τ6))
theorem s_X10_border_j30 (F : Nat) {K : Ctx} (C : Cx K sysX RX10 cX10_border 4 2) (hr : Rt K (some .int)) (a1 : Int32) (a2 : Int32) (z0 : Int32) (τ : Tau) : Sm K sysX 4 (Qi K sysX) (X10_border_j30 F a1 a2 z0 τ) 30 [(0, .ref 0), (1, .int a1), (2, .int a2)] [.int z0] τ := by
  unfold X10_border_j30
  refine sm_seg C [(.istore_n 3, 0), (.iload_n 1, 0), (.iconst (-1), (-1))] (pc' := 33) (L' := [(3, .int z0), (0, .ref 0), (1, .int a1), (2, .int a2)]) (S' := [.int (-1), .int a1]) (by decide +kernel) rfl ?_
  refine sm_icmpne 52 (off := 19) C (by decide +kernel) (by decide) (fun _ => ?_) (fun _ => ?_)
  · refine sm_seg C [(.aload_n 0, 0)] (pc' := 37) (L' := [(3, .int z0), (0, .ref 0), (1, .int a1), (2, .int a2)]) (S' := [.ref 0]) (by decide +kernel) rfl ?_
    refine sm_getR 10 0 1 cls10 C (ltX (by decide +kernel : kdX 0 = 10) (by decide)) (by decide +kernel : kdX 0 = 10) (obX10 (by decide +kernel : kdX 0 = 10)) (by decide) (frX10_0 (by decide +kernel : kdX 0 = 10)) fl10_12 (by decide +kernel) ?_
    refine sm_getR 9 1 15 cls9 C (ltX (krX10_0 (by decide +kernel : kdX 0 = 10)) (by decide)) (krX10_0 (by decide +kernel : kdX 0 = 10)) (obX9 (krX10_0 (by decide +kernel : kdX 0 = 10))) (by decide) (frX9_1 (krX10_0 (by decide +kernel : kdX 0 = 10))) fl10_243 (by decide +kernel) ?_
    refine sm_getR 7 5 26 cls7 C (ltX (krX9_1 (krX10_0 (by decide +kernel : kdX 0 = 10))) (by decide)) (krX9_1 (krX10_0 (by decide +kernel : kdX 0 = 10))) (obX7 (krX9_1 (krX10_0 (by decide +kernel : kdX 0 = 10)))) (by decide) (frX7_5 (krX9_1 (krX10_0 (by decide +kernel : kdX 0 = 10)))) fl10_363 (by decide +kernel) ?_
    refine sm_vcal [] [] rfl C mw_X5_empty ml_10_333 rfl (ci := 5) rfl (ltX (krX7_5 (krX9_1 (krX10_0 (by decide +kernel : kdX 0 = 10)))) (by decide)) (krX7_5 (krX9_1 (krX10_0 (by decide +kernel : kdX 0 = 10)))) (by decide) ⟨by decide, by decide⟩ (Nat.le_of_ble_eq_true rfl) (by decide +kernel) (c_X5_empty F 26 (krX7_5 (krX9_1 (krX10_0 (by decide +kernel : kdX 0 = 10)))) τ) (fun r3 τ4 => ?_)
    refine sm_seg C [(.goto 23, 0)] (pc' := 72) (L' := [(3, .int z0), (0, .ref 0), (1, .int a1), (2, .int a2)]) (S' := [.int r3]) (by decide +kernel) rfl ?_
    exact sm_iret C hr rfl (by decide +kernel)
  · refine sm_seg C [(.aload_n 0, 0)] (pc' := 53) (L' := [(3, .int z0), (0, .ref 0), (1, .int a1), (2, .int a2)]) (S' := [.ref 0]) (by decide +kernel) rfl ?_
    refine sm_getR 10 0 1 cls10 C (ltX (by decide +kernel : kdX 0 = 10) (by decide)) (by decide +kernel : kdX 0 = 10) (obX10 (by decide +kernel : kdX 0 = 10)) (by decide) (frX10_0 (by decide +kernel : kdX 0 = 10)) fl10_12 (by decide +kernel) ?_
    refine sm_getR 9 1 15 cls9 C (ltX (krX10_0 (by decide +kernel : kdX 0 = 10)) (by decide)) (krX10_0 (by decide +kernel : kdX 0 = 10)) (obX9 (krX10_0 (by decide +kernel : kdX 0 = 10))) (by decide) (frX9_1 (krX10_0 (by decide +kernel : kdX 0 = 10))) fl10_243 (by decide +kernel) ?_
    refine sm_getR 7 5 26 cls7 C (ltX (krX9_1 (krX10_0 (by decide +kernel : kdX 0 = 10))) (by decide)) (krX9_1 (krX10_0 (by decide +kernel : kdX 0 = 10))) (obX7 (krX9_1 (krX10_0 (by decide +kernel : kdX 0 = 10)))) (by decide) (frX7_5 (krX9_1 (krX10_0 (by decide +kernel : kdX 0 = 10)))) fl10_363 (by decide +kernel) ?_
    refine sm_seg C [(.bipush 8, 8), (.iload_n 1, 0), (.imul, 0), (.iload_n 2, 0), (.iadd, 0), (.iload_n 3, 0)] (pc' := 69) (L' := [(3, .int z0), (0, .ref 0), (1, .int a1), (2, .int a2)]) (S' := [.int z0, .int ((8 * a1) + a2), .ref 26]) (by decide +kernel) rfl ?_
    refine sm_vcal [.int ((8 * a1) + a2), .int z0] [] rfl C mw_X5_add ml_10_336 rfl (ci := 5) rfl (ltX (krX7_5 (krX9_1 (krX10_0 (by decide +kernel : kdX 0 = 10)))) (by decide)) (krX7_5 (krX9_1 (krX10_0 (by decide +kernel : kdX 0 = 10)))) (by decide) ⟨by decide, by decide⟩ (Nat.le_of_ble_eq_true rfl) (by decide +kernel) (c_X5_add F 26 (krX7_5 (krX9_1 (krX10_0 (by decide +kernel : kdX 0 = 10)))) ((8 * a1) + a2) z0 τ) (fun r5 τ6 => ?_)
    exact sm_iret C hr rfl (by decide +kernel)
def X10_border_j29 (F : Nat) (a1 : Int32) (a2 : Int32) (τ : Tau) : Option (Int32 × Tau) :=
  X10_border_j30 F a1 a2 0 τ
theorem s_X10_border_j29 (F : Nat) {K : Ctx} (C : Cx K sysX RX10 cX10_border 4 2) (hr : Rt K (some .int)) (a1 : Int32) (a2 : Int32) (τ : Tau) : Sm K sysX 4 (Qi K sysX) (X10_border_j29 F a1 a2 τ) 29 [(0, .ref 0), (1, .int a1), (2, .int a2)] [] τ := by
  unfold X10_border_j29
  refine sm_seg C [(.iconst 0, 0)] (pc' := 30) (L' := [(0, .ref 0), (1, .int a1), (2, .int a2)]) (S' := [.int 0]) (by decide +kernel) rfl ?_
  exact sm_sub [0, 1, 2] rfl (s_X10_border_j30 F C hr a1 a2 0 τ)
def X10_border (F : Nat) (a1 : Int32) (a2 : Int32) (τ : Tau) : Option (Int32 × Tau) :=
  cal (X10_within F a1 0 7 τ) fun r1 τ2 => if r1 = 0 then (X10_border_j29 F a1 a2 τ2) else (cal (X10_within F a2 0 7 τ2) fun r7 τ8 => if r7 = 0 then (X10_border_j29 F a1 a2 τ8) else (if a1 = a2 then (X10_border_j29 F a1 a2 τ8) else (X10_border_j30 F a1 a2 1 τ8)))
set_option maxRecDepth 20000 in
set_option maxHeartbeats 4000000 in
theorem c_X10_border (F : Nat) (a1 : Int32) (a2 : Int32) (τ : Tau) (r : Int32) (τ' : Tau) (h : X10_border F a1 a2 τ = some (r, τ')) : MCi sysX yX10_border cX10_border 4 (some .int) 2 [.ref 0, .int a1, .int a2] τ r τ' :=
  mci_of (by decide +kernel) (Nat.le_of_ble_eq_true rfl) (fun K C hr => by
    show Sm K sysX 4 (Qi K sysX) (X10_border F a1 a2 τ) 0 [(0, .ref 0), (1, .int a1), (2, .int a2)] [] τ
    unfold X10_border
    refine sm_seg C [(.iload_n 1, 0), (.iconst 0, 0), (.bipush 7, 7)] (pc' := 4) (L' := [(0, .ref 0), (1, .int a1), (2, .int a2)]) (S' := [.int 7, .int 0, .int a1]) (by decide +kernel) rfl ?_
    refine sm_scal [.int a1, .int 0, .int 7] [] rfl C mw_X10_within ml_10_70 rfl ⟨by decide, by decide⟩ (Nat.le_of_ble_eq_true rfl) (by decide +kernel) (c_X10_within F a1 0 7 τ) (fun r1 τ2 => ?_)
    refine sm_ifeq 29 (off := 22) C (by decide +kernel) (by decide) (fun _ => ?_) (fun _ => ?_)
    · exact sm_sub [0, 1, 2] rfl (s_X10_border_j29 F C hr a1 a2 τ2)
    · refine sm_seg C [(.iload_n 2, 0), (.iconst 0, 0), (.bipush 7, 7)] (pc' := 14) (L' := [(0, .ref 0), (1, .int a1), (2, .int a2)]) (S' := [.int 7, .int 0, .int a2]) (by decide +kernel) rfl ?_
      refine sm_scal [.int a2, .int 0, .int 7] [] rfl C mw_X10_within ml_10_70 rfl ⟨by decide, by decide⟩ (Nat.le_of_ble_eq_true rfl) (by decide +kernel) (c_X10_within F a2 0 7 τ2) (fun r7 τ8 => ?_)
      refine sm_ifeq 29 (off := 12) C (by decide +kernel) (by decide) (fun _ => ?_) (fun _ => ?_)
      · exact sm_sub [0, 1, 2] rfl (s_X10_border_j29 F C hr a1 a2 τ8)
      · refine sm_seg C [(.iload_n 1, 0), (.iload_n 2, 0)] (pc' := 22) (L' := [(0, .ref 0), (1, .int a1), (2, .int a2)]) (S' := [.int a2, .int a1]) (by decide +kernel) rfl ?_
        refine sm_icmpeq 29 (off := 7) C (by decide +kernel) (by decide) (fun _ => ?_) (fun _ => ?_)
        · exact sm_sub [0, 1, 2] rfl (s_X10_border_j29 F C hr a1 a2 τ8)
        · refine sm_seg C [(.iconst 1, 1), (.goto 4, 0)] (pc' := 30) (L' := [(0, .ref 0), (1, .int a1), (2, .int a2)]) (S' := [.int 1]) (by decide +kernel) rfl ?_
          exact sm_sub [0, 1, 2] rfl (s_X10_border_j30 F C hr a1 a2 1 τ8)) h
/-! java/util/Arrays.fill -/
def X_Arrays_fill___II_V_L5 (F : Nat) (t0 : Nat) : Nat → Int32 → Int32 → Int32 → Tau → Option (Int32 × Tau)
  | 0, _, _, _, _ => none
  | n + 1, a1, a2, a3, τ =>
    if a3 ≤ a2 then (some (0, τ)) else (ast τ t0 (lnX t0) a2 a1 fun τ1 => X_Arrays_fill___II_V_L5 F t0 n a1 (a2 + 1) a3 τ1)
theorem s_X_Arrays_fill___II_V_L5 (F : Nat) (t0 : Nat) {K : Ctx} (C : Cx K sysX "java/util/Arrays" prog_21_method_103_code 4 1) (hr : Rt K none) (h0 : kdX t0 = 20) : ∀ (n : Nat) (a1 : Int32) (a2 : Int32) (a3 : Int32) (τ : Tau), Sm K sysX 4 (Qv K sysX) (X_Arrays_fill___II_V_L5 F t0 n a1 a2 a3 τ) 5 [(0, .ref t0), (1, .int a1), (2, .int a2), (3, .int a3)] [] τ := by
  intro n
  induction n with
  | zero => intro a1 a2 a3 τ; exact sm_none
  | succ n ih =>
    intro a1 a2 a3 τ
    rw [X_Arrays_fill___II_V_L5]
    refine sm_seg C [(.iload_n 2, 0), (.iload_n 3, 0)] (pc' := 7) (L' := [(0, .ref t0), (1, .int a1), (2, .int a2), (3, .int a3)]) (S' := [.int a3, .int a2]) (by decide +kernel) rfl ?_
    refine sm_icmpge 20 (off := 13) C (by decide +kernel) (by decide) (fun _ => ?_) (fun _ => ?_)
    · exact sm_vret C hr (by decide +kernel)
    · refine sm_seg C [(.aload_n 0, 0), (.iload_n 2, 0), (.iload_n 1, 0)] (pc' := 13) (L' := [(0, .ref t0), (1, .int a1), (2, .int a2), (3, .int a3)]) (S' := [.int a1, .int a2, .ref t0]) (by decide +kernel) rfl ?_
      refine sm_ast (lnX t0) C (ltX h0 (by decide)) h0 rfl (by decide +kernel) (fun τ1 => ?_)
      refine sm_seg C [(.iinc 2 1, 1), (.goto (-12), 0)] (pc' := 5) (L' := [(2, .int (a2 + 1)), (0, .ref t0), (1, .int a1), (3, .int a3)]) (S' := []) (by decide +kernel) rfl ?_
      exact sm_sub [1, 2, 0, 3] rfl (ih a1 (a2 + 1) a3 τ1)
def X_Arrays_fill___II_V (F : Nat) (t0 : Nat) (a1 : Int32) (τ : Tau) : Option (Int32 × Tau) :=
  X_Arrays_fill___II_V_L5 F t0 F a1 0 (Int32.ofNat (lnX t0)) τ
set_option maxRecDepth 20000 in
set_option maxHeartbeats 4000000 in
theorem c_X_Arrays_fill___II_V (F : Nat) (t0 : Nat) (h0 : kdX t0 = 20) (a1 : Int32) (τ : Tau) (r : Int32) (τ' : Tau) (h : X_Arrays_fill___II_V F t0 a1 τ = some (r, τ')) : MCv sysX ⟨"java/util/Arrays", "fill", "([II)V"⟩ prog_21_method_103_code 4 1 [.ref t0, .int a1] τ τ' :=
  mcv_of (by decide +kernel) (Nat.le_of_ble_eq_true rfl) (fun K C hr => by
    show Sm K sysX 4 (Qv K sysX) (X_Arrays_fill___II_V F t0 a1 τ) 0 [(0, .ref t0), (1, .int a1)] [] τ
    unfold X_Arrays_fill___II_V
    refine sm_seg C [(.iconst 0, 0), (.istore_n 2, 0), (.aload_n 0, 0)] (pc' := 3) (L' := [(2, .int 0), (0, .ref t0), (1, .int a1)]) (S' := [.ref t0]) (by decide +kernel) rfl ?_
    refine sm_alen 20 0 (lnX t0) (fun _ => rfl) C (ltX h0 (by decide)) h0 (by decide) (by decide) rfl rfl (by decide +kernel) ?_
    refine sm_seg C [(.istore_n 3, 0)] (pc' := 5) (L' := [(3, .int (Int32.ofNat (lnX t0))), (2, .int 0), (0, .ref t0), (1, .int a1)]) (S' := []) (by decide +kernel) rfl ?_
    exact sm_sub [2, 3, 1, 0] rfl (s_X_Arrays_fill___II_V_L5 F t0 C hr h0 F a1 0 (Int32.ofNat (lnX t0)) τ)) h
/-! BasketEnvoys_Riddles.bestLoad -/
def X4_bestLoad_j169 (F : Nat) (self20 : Int32 → Int32 → Int32 → Tau → Option (Int32 × Tau)) (self71 : Int32 → Int32 → Int32 → Int32 → Int32 → Int32 → Tau → Option (Int32 × Tau)) (a1 : Int32) (a2 : Int32) (a3 : Int32) (a4 : Int32) (a5 : Int32) (a6 : Int32) (τ : Tau) : Option (Int32 × Tau) :=
  self71 a1 a2 a3 a4 a5 (a6 + 1) τ
theorem s_X4_bestLoad_j169 (F : Nat) {K : Ctx} (C : Cx K sysX RX4 cX4_bestLoad 7 2) (hr : Rt K (some .int)) (self20 : Int32 → Int32 → Int32 → Tau → Option (Int32 × Tau)) (self71 : Int32 → Int32 → Int32 → Int32 → Int32 → Int32 → Tau → Option (Int32 × Tau)) (ih20 : ∀ (a1 : Int32) (a2 : Int32) (a3 : Int32) (τ : Tau), Sm K sysX 7 (Qi K sysX) (self20 a1 a2 a3 τ) 20 [(0, .ref 213), (1, .int a1), (2, .int a2), (3, .int a3)] [] τ) (ih71 : ∀ (a1 : Int32) (a2 : Int32) (a3 : Int32) (a4 : Int32) (a5 : Int32) (a6 : Int32) (τ : Tau), Sm K sysX 7 (Qi K sysX) (self71 a1 a2 a3 a4 a5 a6 τ) 71 [(0, .ref 213), (1, .int a1), (2, .int a2), (3, .int a3), (4, .int a4), (5, .int a5), (6, .int a6)] [] τ) (a1 : Int32) (a2 : Int32) (a3 : Int32) (a4 : Int32) (a5 : Int32) (a6 : Int32) (τ : Tau) : Sm K sysX 7 (Qi K sysX) (X4_bestLoad_j169 F self20 self71 a1 a2 a3 a4 a5 a6 τ) 169 [(0, .ref 213), (1, .int a1), (2, .int a2), (3, .int a3), (4, .int a4), (5, .int a5), (6, .int a6)] [] τ := by
  unfold X4_bestLoad_j169
  refine sm_seg C [(.iinc 6 1, 1), (.goto (-101), 0)] (pc' := 71) (L' := [(6, .int (a6 + 1)), (0, .ref 213), (1, .int a1), (2, .int a2), (3, .int a3), (4, .int a4), (5, .int a5)]) (S' := []) (by decide +kernel) rfl ?_
  exact sm_sub [1, 2, 3, 4, 5, 6, 0] rfl (ih71 a1 a2 a3 a4 a5 (a6 + 1) τ)
def X4_bestLoad_L71 (F : Nat) (self20 : Int32 → Int32 → Int32 → Tau → Option (Int32 × Tau)) : Nat → Int32 → Int32 → Int32 → Int32 → Int32 → Int32 → Tau → Option (Int32 × Tau)
  | 0, _, _, _, _, _, _, _ => none
  | n + 1, a1, a2, a3, a4, a5, a6, τ =>
    if (shl 2 a3) ≤ a6 then (self20 a1 a2 (a3 + 1) τ) else (cal (X10_entry F 214 (a6 - (shl 1 a3)) τ) fun r9 τ10 => cal (X10_put F 214 a6 (r9 + a4) 1 τ10) fun r11 τ12 => cal (X10_entry F 215 (a6 - (shl 1 a3)) τ12) fun r13 τ14 => cal (X10_put F 215 a6 (r13 + a5) 1 τ14) fun r15 τ16 => cal (X10_entry F 214 a6 τ16) fun r17 τ18 => if a1 < r17 then (X4_bestLoad_j169 F self20 (X4_bestLoad_L71 F self20 n) a1 a2 a3 a4 a5 a6 τ18) else (cal (X10_entry F 215 a6 τ18) fun r19 τ20 => cal (X10_entry F 215 a2 τ20) fun r21 τ22 => if r19 ≤ r21 then (X4_bestLoad_j169 F self20 (X4_bestLoad_L71 F self20 n) a1 a2 a3 a4 a5 a6 τ22) else (X4_bestLoad_j169 F self20 (X4_bestLoad_L71 F self20 n) a1 a6 a3 a4 a5 a6 τ22)))
theorem s_X4_bestLoad_L71 (F : Nat) {K : Ctx} (C : Cx K sysX RX4 cX4_bestLoad 7 2) (hr : Rt K (some .int)) (self20 : Int32 → Int32 → Int32 → Tau → Option (Int32 × Tau)) (ih20 : ∀ (a1 : Int32) (a2 : Int32) (a3 : Int32) (τ : Tau), Sm K sysX 7 (Qi K sysX) (self20 a1 a2 a3 τ) 20 [(0, .ref 213), (1, .int a1), (2, .int a2), (3, .int a3)] [] τ) : ∀ (n : Nat) (a1 : Int32) (a2 : Int32) (a3 : Int32) (a4 : Int32) (a5 : Int32) (a6 : Int32) (τ : Tau), Sm K sysX 7 (Qi K sysX) (X4_bestLoad_L71 F self20 n a1 a2 a3 a4 a5 a6 τ) 71 [(0, .ref 213), (1, .int a1), (2, .int a2), (3, .int a3), (4, .int a4), (5, .int a5), (6, .int a6)] [] τ := by
  intro n
  induction n with
  | zero => intro a1 a2 a3 a4 a5 a6 τ; exact sm_none
  | succ n ih =>
    intro a1 a2 a3 a4 a5 a6 τ
    rw [X4_bestLoad_L71]
    refine sm_seg C [(.iload 6, 0), (.iconst 2, 2), (.iload_n 3, 0), (.ishl, 0)] (pc' := 76) (L' := [(0, .ref 213), (1, .int a1), (2, .int a2), (3, .int a3), (4, .int a4), (5, .int a5), (6, .int a6)]) (S' := [.int (shl 2 a3), .int a6]) (by decide +kernel) rfl ?_
    refine sm_icmpge 175 (off := 99) C (by decide +kernel) (by decide) (fun _ => ?_) (fun _ => ?_)
    · refine sm_seg C [(.iinc 3 1, 1), (.goto (-158), 0)] (pc' := 20) (L' := [(3, .int (a3 + 1)), (0, .ref 213), (1, .int a1), (2, .int a2), (4, .int a4), (5, .int a5), (6, .int a6)]) (S' := []) (by decide +kernel) rfl ?_
      exact sm_sub [1, 2, 3, 0] rfl (ih20 a1 a2 (a3 + 1) τ)
    · refine sm_seg C [(.aload_n 0, 0)] (pc' := 80) (L' := [(0, .ref 213), (1, .int a1), (2, .int a2), (3, .int a3), (4, .int a4), (5, .int a5), (6, .int a6)]) (S' := [.ref 213]) (by decide +kernel) rfl ?_
      refine sm_getR 4 2 214 cls4 C (ltX (by decide +kernel : kdX 213 = 4) (by decide)) (by decide +kernel : kdX 213 = 4) (obX4 (by decide +kernel : kdX 213 = 4)) (by decide) (frX4_2 (by decide +kernel : kdX 213 = 4)) fl4_9 (by decide +kernel) ?_
      refine sm_seg C [(.iload 6, 0), (.aload_n 0, 0)] (pc' := 86) (L' := [(0, .ref 213), (1, .int a1), (2, .int a2), (3, .int a3), (4, .int a4), (5, .int a5), (6, .int a6)]) (S' := [.ref 213, .int a6, .ref 214]) (by decide +kernel) rfl ?_
      refine sm_getR 4 2 214 cls4 C (ltX (by decide +kernel : kdX 213 = 4) (by decide)) (by decide +kernel : kdX 213 = 4) (obX4 (by decide +kernel : kdX 213 = 4)) (by decide) (frX4_2 (by decide +kernel : kdX 213 = 4)) fl4_9 (by decide +kernel) ?_
      refine sm_seg C [(.iload 6, 0), (.iconst 1, 1), (.iload_n 3, 0), (.ishl, 0), (.isub, 0)] (pc' := 95) (L' := [(0, .ref 213), (1, .int a1), (2, .int a2), (3, .int a3), (4, .int a4), (5, .int a5), (6, .int a6)]) (S' := [.int (a6 - (shl 1 a3)), .ref 214, .int a6, .ref 214]) (by decide +kernel) rfl ?_
      refine sm_ncal "BasketEnvoys" [.ref 214, .int (a6 - (shl 1 a3))] [.int a6, .ref 214] rfl C mw_X10_entry ml_4_108 rfl ⟨by decide, by decide⟩ (Nat.le_of_ble_eq_true rfl) (by decide +kernel) (c_X10_entry F 214 (krX4_2 (by decide +kernel : kdX 213 = 4)) (a6 - (shl 1 a3)) τ) (fun r9 τ10 => ?_)
      refine sm_seg C [(.iload 4, 0), (.iadd, 0), (.iconst 1, 1)] (pc' := 102) (L' := [(0, .ref 213), (1, .int a1), (2, .int a2), (3, .int a3), (4, .int a4), (5, .int a5), (6, .int a6)]) (S' := [.int 1, .int (r9 + a4), .int a6, .ref 214]) (by decide +kernel) rfl ?_
      refine sm_ncal "BasketEnvoys" [.ref 214, .int a6, .int (r9 + a4), .int 1] [] rfl C mw_X10_put ml_4_101 rfl ⟨by decide, by decide⟩ (Nat.le_of_ble_eq_true rfl) (by decide +kernel) (c_X10_put F 214 (krX4_2 (by decide +kernel : kdX 213 = 4)) a6 (r9 + a4) 1 τ10) (fun r11 τ12 => ?_)
      refine sm_seg C [(.pop, 0), (.aload_n 0, 0)] (pc' := 107) (L' := [(0, .ref 213), (1, .int a1), (2, .int a2), (3, .int a3), (4, .int a4), (5, .int a5), (6, .int a6)]) (S' := [.ref 213]) (by decide +kernel) rfl ?_
      refine sm_getR 4 3 215 cls4 C (ltX (by decide +kernel : kdX 213 = 4) (by decide)) (by decide +kernel : kdX 213 = 4) (obX4 (by decide +kernel : kdX 213 = 4)) (by decide) (frX4_3 (by decide +kernel : kdX 213 = 4)) fl4_15 (by decide +kernel) ?_
      refine sm_seg C [(.iload 6, 0), (.aload_n 0, 0)] (pc' := 113) (L' := [(0, .ref 213), (1, .int a1), (2, .int a2), (3, .int a3), (4, .int a4), (5, .int a5), (6, .int a6)]) (S' := [.ref 213, .int a6, .ref 215]) (by decide +kernel) rfl ?_
      refine sm_getR 4 3 215 cls4 C (ltX (by decide +kernel : kdX 213 = 4) (by decide)) (by decide +kernel : kdX 213 = 4) (obX4 (by decide +kernel : kdX 213 = 4)) (by decide) (frX4_3 (by decide +kernel : kdX 213 = 4)) fl4_15 (by decide +kernel) ?_
      refine sm_seg C [(.iload 6, 0), (.iconst 1, 1), (.iload_n 3, 0), (.ishl, 0), (.isub, 0)] (pc' := 122) (L' := [(0, .ref 213), (1, .int a1), (2, .int a2), (3, .int a3), (4, .int a4), (5, .int a5), (6, .int a6)]) (S' := [.int (a6 - (shl 1 a3)), .ref 215, .int a6, .ref 215]) (by decide +kernel) rfl ?_
      refine sm_ncal "BasketEnvoys" [.ref 215, .int (a6 - (shl 1 a3))] [.int a6, .ref 215] rfl C mw_X10_entry ml_4_108 rfl ⟨by decide, by decide⟩ (Nat.le_of_ble_eq_true rfl) (by decide +kernel) (c_X10_entry F 215 (krX4_3 (by decide +kernel : kdX 213 = 4)) (a6 - (shl 1 a3)) τ12) (fun r13 τ14 => ?_)
      refine sm_seg C [(.iload 5, 0), (.iadd, 0), (.iconst 1, 1)] (pc' := 129) (L' := [(0, .ref 213), (1, .int a1), (2, .int a2), (3, .int a3), (4, .int a4), (5, .int a5), (6, .int a6)]) (S' := [.int 1, .int (r13 + a5), .int a6, .ref 215]) (by decide +kernel) rfl ?_
      refine sm_ncal "BasketEnvoys" [.ref 215, .int a6, .int (r13 + a5), .int 1] [] rfl C mw_X10_put ml_4_101 rfl ⟨by decide, by decide⟩ (Nat.le_of_ble_eq_true rfl) (by decide +kernel) (c_X10_put F 215 (krX4_3 (by decide +kernel : kdX 213 = 4)) a6 (r13 + a5) 1 τ14) (fun r15 τ16 => ?_)
      refine sm_seg C [(.pop, 0), (.aload_n 0, 0)] (pc' := 134) (L' := [(0, .ref 213), (1, .int a1), (2, .int a2), (3, .int a3), (4, .int a4), (5, .int a5), (6, .int a6)]) (S' := [.ref 213]) (by decide +kernel) rfl ?_
      refine sm_getR 4 2 214 cls4 C (ltX (by decide +kernel : kdX 213 = 4) (by decide)) (by decide +kernel : kdX 213 = 4) (obX4 (by decide +kernel : kdX 213 = 4)) (by decide) (frX4_2 (by decide +kernel : kdX 213 = 4)) fl4_9 (by decide +kernel) ?_
      refine sm_seg C [(.iload 6, 0)] (pc' := 139) (L' := [(0, .ref 213), (1, .int a1), (2, .int a2), (3, .int a3), (4, .int a4), (5, .int a5), (6, .int a6)]) (S' := [.int a6, .ref 214]) (by decide +kernel) rfl ?_
      refine sm_ncal "BasketEnvoys" [.ref 214, .int a6] [] rfl C mw_X10_entry ml_4_108 rfl ⟨by decide, by decide⟩ (Nat.le_of_ble_eq_true rfl) (by decide +kernel) (c_X10_entry F 214 (krX4_2 (by decide +kernel : kdX 213 = 4)) a6 τ16) (fun r17 τ18 => ?_)
      refine sm_seg C [(.iload_n 1, 0)] (pc' := 143) (L' := [(0, .ref 213), (1, .int a1), (2, .int a2), (3, .int a3), (4, .int a4), (5, .int a5), (6, .int a6)]) (S' := [.int a1, .int r17]) (by decide +kernel) rfl ?_
      refine sm_icmpgt 169 (off := 26) C (by decide +kernel) (by decide) (fun _ => ?_) (fun _ => ?_)
      · exact sm_sub [0, 1, 2, 3, 4, 5, 6] rfl (s_X4_bestLoad_j169 F C hr self20 (X4_bestLoad_L71 F self20 n) ih20 ih a1 a2 a3 a4 a5 a6 τ18)
      · refine sm_seg C [(.aload_n 0, 0)] (pc' := 147) (L' := [(0, .ref 213), (1, .int a1), (2, .int a2), (3, .int a3), (4, .int a4), (5, .int a5), (6, .int a6)]) (S' := [.ref 213]) (by decide +kernel) rfl ?_
        refine sm_getR 4 3 215 cls4 C (ltX (by decide +kernel : kdX 213 = 4) (by decide)) (by decide +kernel : kdX 213 = 4) (obX4 (by decide +kernel : kdX 213 = 4)) (by decide) (frX4_3 (by decide +kernel : kdX 213 = 4)) fl4_15 (by decide +kernel) ?_
        refine sm_seg C [(.iload 6, 0)] (pc' := 152) (L' := [(0, .ref 213), (1, .int a1), (2, .int a2), (3, .int a3), (4, .int a4), (5, .int a5), (6, .int a6)]) (S' := [.int a6, .ref 215]) (by decide +kernel) rfl ?_
        refine sm_ncal "BasketEnvoys" [.ref 215, .int a6] [] rfl C mw_X10_entry ml_4_108 rfl ⟨by decide, by decide⟩ (Nat.le_of_ble_eq_true rfl) (by decide +kernel) (c_X10_entry F 215 (krX4_3 (by decide +kernel : kdX 213 = 4)) a6 τ18) (fun r19 τ20 => ?_)
        refine sm_seg C [(.aload_n 0, 0)] (pc' := 156) (L' := [(0, .ref 213), (1, .int a1), (2, .int a2), (3, .int a3), (4, .int a4), (5, .int a5), (6, .int a6)]) (S' := [.ref 213, .int r19]) (by decide +kernel) rfl ?_
        refine sm_getR 4 3 215 cls4 C (ltX (by decide +kernel : kdX 213 = 4) (by decide)) (by decide +kernel : kdX 213 = 4) (obX4 (by decide +kernel : kdX 213 = 4)) (by decide) (frX4_3 (by decide +kernel : kdX 213 = 4)) fl4_15 (by decide +kernel) ?_
        refine sm_seg C [(.iload_n 2, 0)] (pc' := 160) (L' := [(0, .ref 213), (1, .int a1), (2, .int a2), (3, .int a3), (4, .int a4), (5, .int a5), (6, .int a6)]) (S' := [.int a2, .ref 215, .int r19]) (by decide +kernel) rfl ?_
        refine sm_ncal "BasketEnvoys" [.ref 215, .int a2] [.int r19] rfl C mw_X10_entry ml_4_108 rfl ⟨by decide, by decide⟩ (Nat.le_of_ble_eq_true rfl) (by decide +kernel) (c_X10_entry F 215 (krX4_3 (by decide +kernel : kdX 213 = 4)) a2 τ20) (fun r21 τ22 => ?_)
        refine sm_icmple 169 (off := 6) C (by decide +kernel) (by decide) (fun _ => ?_) (fun _ => ?_)
        · exact sm_sub [0, 1, 2, 3, 4, 5, 6] rfl (s_X4_bestLoad_j169 F C hr self20 (X4_bestLoad_L71 F self20 n) ih20 ih a1 a2 a3 a4 a5 a6 τ22)
        · refine sm_seg C [(.iload 6, 0), (.istore_n 2, 0)] (pc' := 169) (L' := [(2, .int a6), (0, .ref 213), (1, .int a1), (3, .int a3), (4, .int a4), (5, .int a5), (6, .int a6)]) (S' := []) (by decide +kernel) rfl ?_
          exact sm_sub [1, 2, 0, 3, 4, 5, 6] rfl (s_X4_bestLoad_j169 F C hr self20 (X4_bestLoad_L71 F self20 n) ih20 ih a1 a6 a3 a4 a5 a6 τ22)
def X4_bestLoad_L20 (F : Nat) : Nat → Int32 → Int32 → Int32 → Tau → Option (Int32 × Tau)
  | 0, _, _, _, _ => none
  | n + 1, a1, a2, a3, τ =>
    if (τ 22 0) ≤ a3 then (some (a2, τ)) else (cal (X5_get F 22 a3 τ) fun r5 τ6 => cal (X5_get F 22 a3 τ6) fun r7 τ8 => X4_bestLoad_L71 F (X4_bestLoad_L20 F n) F a1 a2 a3 (r5 / 100) (rmd r7 100) (shl 1 a3) τ8)
theorem s_X4_bestLoad_L20 (F : Nat) {K : Ctx} (C : Cx K sysX RX4 cX4_bestLoad 7 2) (hr : Rt K (some .int)) : ∀ (n : Nat) (a1 : Int32) (a2 : Int32) (a3 : Int32) (τ : Tau), Sm K sysX 7 (Qi K sysX) (X4_bestLoad_L20 F n a1 a2 a3 τ) 20 [(0, .ref 213), (1, .int a1), (2, .int a2), (3, .int a3)] [] τ := by
  intro n
  induction n with
  | zero => intro a1 a2 a3 τ; exact sm_none
  | succ n ih =>
    intro a1 a2 a3 τ
    rw [X4_bestLoad_L20]
    refine sm_seg C [(.iload_n 3, 0), (.aload_n 0, 0)] (pc' := 22) (L' := [(0, .ref 213), (1, .int a1), (2, .int a2), (3, .int a3)]) (S' := [.ref 213, .int a3]) (by decide +kernel) rfl ?_
    refine sm_getR 4 1 15 cls4 C (ltX (by decide +kernel : kdX 213 = 4) (by decide)) (by decide +kernel : kdX 213 = 4) (obX4 (by decide +kernel : kdX 213 = 4)) (by decide) (frX4_1 (by decide +kernel : kdX 213 = 4)) fl4_51 (by decide +kernel) ?_
    refine sm_getR 7 3 22 cls7 C (ltX (krX4_1 (by decide +kernel : kdX 213 = 4)) (by decide)) (krX4_1 (by decide +kernel : kdX 213 = 4)) (obX7 (krX4_1 (by decide +kernel : kdX 213 = 4))) (by decide) (frX7_3 (krX4_1 (by decide +kernel : kdX 213 = 4))) fl4_155 (by decide +kernel) ?_
    refine sm_getI 5 0 cls5 C (ltX (krX7_3 (krX4_1 (by decide +kernel : kdX 213 = 4))) (by decide)) (krX7_3 (krX4_1 (by decide +kernel : kdX 213 = 4))) (obX5 (krX7_3 (krX4_1 (by decide +kernel : kdX 213 = 4)))) (by decide) (fiX5_0 (krX7_3 (krX4_1 (by decide +kernel : kdX 213 = 4)))) fl4_68 (by decide +kernel) ?_
    refine sm_icmpge 181 (off := 150) C (by decide +kernel) (by decide) (fun _ => ?_) (fun _ => ?_)
    · refine sm_seg C [(.iload_n 2, 0)] (pc' := 182) (L' := [(0, .ref 213), (1, .int a1), (2, .int a2), (3, .int a3)]) (S' := [.int a2]) (by decide +kernel) rfl ?_
      exact sm_iret C hr rfl (by decide +kernel)
    · refine sm_seg C [(.aload_n 0, 0)] (pc' := 35) (L' := [(0, .ref 213), (1, .int a1), (2, .int a2), (3, .int a3)]) (S' := [.ref 213]) (by decide +kernel) rfl ?_
      refine sm_getR 4 1 15 cls4 C (ltX (by decide +kernel : kdX 213 = 4) (by decide)) (by decide +kernel : kdX 213 = 4) (obX4 (by decide +kernel : kdX 213 = 4)) (by decide) (frX4_1 (by decide +kernel : kdX 213 = 4)) fl4_51 (by decide +kernel) ?_
      refine sm_getR 7 3 22 cls7 C (ltX (krX4_1 (by decide +kernel : kdX 213 = 4)) (by decide)) (krX4_1 (by decide +kernel : kdX 213 = 4)) (obX7 (krX4_1 (by decide +kernel : kdX 213 = 4))) (by decide) (frX7_3 (krX4_1 (by decide +kernel : kdX 213 = 4))) fl4_155 (by decide +kernel) ?_
      refine sm_seg C [(.iload_n 3, 0)] (pc' := 42) (L' := [(0, .ref 213), (1, .int a1), (2, .int a2), (3, .int a3)]) (S' := [.int a3, .ref 22]) (by decide +kernel) rfl ?_
      refine sm_vcal [.int a3] [] rfl C mw_X5_get ml_4_73 rfl (ci := 5) rfl (ltX (krX7_3 (krX4_1 (by decide +kernel : kdX 213 = 4))) (by decide)) (krX7_3 (krX4_1 (by decide +kernel : kdX 213 = 4))) (by decide) ⟨by decide, by decide⟩ (Nat.le_of_ble_eq_true rfl) (by decide +kernel) (c_X5_get F 22 (krX7_3 (krX4_1 (by decide +kernel : kdX 213 = 4))) a3 τ) (fun r5 τ6 => ?_)
      refine sm_seg C [(.bipush 100, 100)] (pc' := 47) (L' := [(0, .ref 213), (1, .int a1), (2, .int a2), (3, .int a3)]) (S' := [.int 100, .int r5]) (by decide +kernel) rfl ?_
      refine sm_idiv C (by decide +kernel) (by decide) ?_
      refine sm_seg C [(.istore 4, 0), (.aload_n 0, 0)] (pc' := 51) (L' := [(4, .int (r5 / 100)), (0, .ref 213), (1, .int a1), (2, .int a2), (3, .int a3)]) (S' := [.ref 213]) (by decide +kernel) rfl ?_
      refine sm_getR 4 1 15 cls4 C (ltX (by decide +kernel : kdX 213 = 4) (by decide)) (by decide +kernel : kdX 213 = 4) (obX4 (by decide +kernel : kdX 213 = 4)) (by decide) (frX4_1 (by decide +kernel : kdX 213 = 4)) fl4_51 (by decide +kernel) ?_
      refine sm_getR 7 3 22 cls7 C (ltX (krX4_1 (by decide +kernel : kdX 213 = 4)) (by decide)) (krX4_1 (by decide +kernel : kdX 213 = 4)) (obX7 (krX4_1 (by decide +kernel : kdX 213 = 4))) (by decide) (frX7_3 (krX4_1 (by decide +kernel : kdX 213 = 4))) fl4_155 (by decide +kernel) ?_
      refine sm_seg C [(.iload_n 3, 0)] (pc' := 58) (L' := [(4, .int (r5 / 100)), (0, .ref 213), (1, .int a1), (2, .int a2), (3, .int a3)]) (S' := [.int a3, .ref 22]) (by decide +kernel) rfl ?_
      refine sm_vcal [.int a3] [] rfl C mw_X5_get ml_4_73 rfl (ci := 5) rfl (ltX (krX7_3 (krX4_1 (by decide +kernel : kdX 213 = 4))) (by decide)) (krX7_3 (krX4_1 (by decide +kernel : kdX 213 = 4))) (by decide) ⟨by decide, by decide⟩ (Nat.le_of_ble_eq_true rfl) (by decide +kernel) (c_X5_get F 22 (krX7_3 (krX4_1 (by decide +kernel : kdX 213 = 4))) a3 τ6) (fun r7 τ8 => ?_)
      refine sm_seg C [(.bipush 100, 100)] (pc' := 63) (L' := [(4, .int (r5 / 100)), (0, .ref 213), (1, .int a1), (2, .int a2), (3, .int a3)]) (S' := [.int 100, .int r7]) (by decide +kernel) rfl ?_
      refine sm_irem C (by decide +kernel) (by decide) ?_
      refine sm_seg C [(.istore 5, 0), (.iconst 1, 1), (.iload_n 3, 0), (.ishl, 0), (.istore 6, 0)] (pc' := 71) (L' := [(6, .int (shl 1 a3)), (5, .int (rmd r7 100)), (4, .int (r5 / 100)), (0, .ref 213), (1, .int a1), (2, .int a2), (3, .int a3)]) (S' := []) (by decide +kernel) rfl ?_
      exact sm_sub [3, 4, 5, 6, 2, 1, 0] rfl (s_X4_bestLoad_L71 F C hr (X4_bestLoad_L20 F n) ih F a1 a2 a3 (r5 / 100) (rmd r7 100) (shl 1 a3) τ8)
def X4_bestLoad (F : Nat) (a1 : Int32) (τ : Tau) : Option (Int32 × Tau) :=
  cal (X_Arrays_fill___II_V F 214 0 τ) fun r1 τ2 => cal (X_Arrays_fill___II_V F 215 0 τ2) fun r3 τ4 => X4_bestLoad_L20 F F a1 0 0 τ4
set_option maxRecDepth 20000 in
set_option maxHeartbeats 4000000 in
theorem c_X4_bestLoad (F : Nat) (a1 : Int32) (τ : Tau) (r : Int32) (τ' : Tau) (h : X4_bestLoad F a1 τ = some (r, τ')) : MCi sysX yX4_bestLoad cX4_bestLoad 7 (some .int) 2 [.ref 213, .int a1] τ r τ' :=
  mci_of (by decide +kernel) (Nat.le_of_ble_eq_true rfl) (fun K C hr => by
    show Sm K sysX 7 (Qi K sysX) (X4_bestLoad F a1 τ) 0 [(0, .ref 213), (1, .int a1)] [] τ
    unfold X4_bestLoad
    refine sm_seg C [(.aload_n 0, 0)] (pc' := 1) (L' := [(0, .ref 213), (1, .int a1)]) (S' := [.ref 213]) (by decide +kernel) rfl ?_
    refine sm_getR 4 2 214 cls4 C (ltX (by decide +kernel : kdX 213 = 4) (by decide)) (by decide +kernel : kdX 213 = 4) (obX4 (by decide +kernel : kdX 213 = 4)) (by decide) (frX4_2 (by decide +kernel : kdX 213 = 4)) fl4_9 (by decide +kernel) ?_
    refine sm_seg C [(.iconst 0, 0)] (pc' := 5) (L' := [(0, .ref 213), (1, .int a1)]) (S' := [.int 0, .ref 214]) (by decide +kernel) rfl ?_
    refine sm_scalv [.ref 214, .int 0] [] rfl C mw_Arrays_fill___II_V ml_4_149 rfl ⟨by decide, by decide⟩ (Nat.le_of_ble_eq_true rfl) (by decide +kernel) (c_X_Arrays_fill___II_V F 214 (krX4_2 (by decide +kernel : kdX 213 = 4)) 0 τ) (fun r1 τ2 => ?_)
    refine sm_seg C [(.aload_n 0, 0)] (pc' := 9) (L' := [(0, .ref 213), (1, .int a1)]) (S' := [.ref 213]) (by decide +kernel) rfl ?_
    refine sm_getR 4 3 215 cls4 C (ltX (by decide +kernel : kdX 213 = 4) (by decide)) (by decide +kernel : kdX 213 = 4) (obX4 (by decide +kernel : kdX 213 = 4)) (by decide) (frX4_3 (by decide +kernel : kdX 213 = 4)) fl4_15 (by decide +kernel) ?_
    refine sm_seg C [(.iconst 0, 0)] (pc' := 13) (L' := [(0, .ref 213), (1, .int a1)]) (S' := [.int 0, .ref 215]) (by decide +kernel) rfl ?_
    refine sm_scalv [.ref 215, .int 0] [] rfl C mw_Arrays_fill___II_V ml_4_149 rfl ⟨by decide, by decide⟩ (Nat.le_of_ble_eq_true rfl) (by decide +kernel) (c_X_Arrays_fill___II_V F 215 (krX4_3 (by decide +kernel : kdX 213 = 4)) 0 τ2) (fun r3 τ4 => ?_)
    refine sm_seg C [(.iconst 0, 0), (.istore_n 2, 0), (.iconst 0, 0), (.istore_n 3, 0)] (pc' := 20) (L' := [(3, .int 0), (2, .int 0), (0, .ref 213), (1, .int a1)]) (S' := []) (by decide +kernel) rfl ?_
    exact sm_sub [2, 3, 1, 0] rfl (s_X4_bestLoad_L20 F C hr F a1 0 0 τ4)) h
/-! BasketEnvoys_Riddles.worthOf -/
def X4_worthOf_j45 (F : Nat) (self4 : Int32 → Int32 → Int32 → Tau → Option (Int32 × Tau)) (a1 : Int32) (a3 : Int32) (z0 : Int32) (z1 : Int32) (τ : Tau) : Option (Int32 × Tau) :=
  self4 a1 (z1 + z0) (a3 + 1) τ
theorem s_X4_worthOf_j45 (F : Nat) {K : Ctx} (C : Cx K sysX RX4 cX4_worthOf 4 2) (hr : Rt K (some .int)) (self4 : Int32 → Int32 → Int32 → Tau → Option (Int32 × Tau)) (ih4 : ∀ (a1 : Int32) (a2 : Int32) (a3 : Int32) (τ : Tau), Sm K sysX 4 (Qi K sysX) (self4 a1 a2 a3 τ) 4 [(0, .ref 213), (1, .int a1), (2, .int a2), (3, .int a3)] [] τ) (a1 : Int32) (a3 : Int32) (z0 : Int32) (z1 : Int32) (τ : Tau) : Sm K sysX 4 (Qi K sysX) (X4_worthOf_j45 F self4 a1 a3 z0 z1 τ) 45 [(0, .ref 213), (1, .int a1), (3, .int a3)] [.int z0, .int z1] τ := by
  unfold X4_worthOf_j45
  refine sm_seg C [(.iadd, 0), (.istore_n 2, 0), (.iinc 3 1, 1), (.goto (-46), 0)] (pc' := 4) (L' := [(3, .int (a3 + 1)), (2, .int (z1 + z0)), (0, .ref 213), (1, .int a1)]) (S' := []) (by decide +kernel) rfl ?_
  exact sm_sub [2, 3, 1, 0] rfl (ih4 a1 (z1 + z0) (a3 + 1) τ)
def X4_worthOf_L4 (F : Nat) : Nat → Int32 → Int32 → Int32 → Tau → Option (Int32 × Tau)
  | 0, _, _, _, _ => none
  | n + 1, a1, a2, a3, τ =>
    if (τ 22 0) ≤ a3 then (some (a2, τ)) else (if ((shr a1 a3) &&& 1) = 0 then (X4_worthOf_j45 F (X4_worthOf_L4 F n) a1 a3 0 a2 τ) else (cal (X5_get F 22 a3 τ) fun r1 τ2 => X4_worthOf_j45 F (X4_worthOf_L4 F n) a1 a3 (rmd r1 100) a2 τ2))
theorem s_X4_worthOf_L4 (F : Nat) {K : Ctx} (C : Cx K sysX RX4 cX4_worthOf 4 2) (hr : Rt K (some .int)) : ∀ (n : Nat) (a1 : Int32) (a2 : Int32) (a3 : Int32) (τ : Tau), Sm K sysX 4 (Qi K sysX) (X4_worthOf_L4 F n a1 a2 a3 τ) 4 [(0, .ref 213), (1, .int a1), (2, .int a2), (3, .int a3)] [] τ := by
  intro n
  induction n with
  | zero => intro a1 a2 a3 τ; exact sm_none
  | succ n ih =>
    intro a1 a2 a3 τ
    rw [X4_worthOf_L4]
    refine sm_seg C [(.iload_n 3, 0), (.aload_n 0, 0)] (pc' := 6) (L' := [(0, .ref 213), (1, .int a1), (2, .int a2), (3, .int a3)]) (S' := [.ref 213, .int a3]) (by decide +kernel) rfl ?_
    refine sm_getR 4 1 15 cls4 C (ltX (by decide +kernel : kdX 213 = 4) (by decide)) (by decide +kernel : kdX 213 = 4) (obX4 (by decide +kernel : kdX 213 = 4)) (by decide) (frX4_1 (by decide +kernel : kdX 213 = 4)) fl4_51 (by decide +kernel) ?_
    refine sm_getR 7 3 22 cls7 C (ltX (krX4_1 (by decide +kernel : kdX 213 = 4)) (by decide)) (krX4_1 (by decide +kernel : kdX 213 = 4)) (obX7 (krX4_1 (by decide +kernel : kdX 213 = 4))) (by decide) (frX7_3 (krX4_1 (by decide +kernel : kdX 213 = 4))) fl4_155 (by decide +kernel) ?_
    refine sm_getI 5 0 cls5 C (ltX (krX7_3 (krX4_1 (by decide +kernel : kdX 213 = 4))) (by decide)) (krX7_3 (krX4_1 (by decide +kernel : kdX 213 = 4))) (obX5 (krX7_3 (krX4_1 (by decide +kernel : kdX 213 = 4)))) (by decide) (fiX5_0 (krX7_3 (krX4_1 (by decide +kernel : kdX 213 = 4)))) fl4_68 (by decide +kernel) ?_
    refine sm_icmpge 53 (off := 38) C (by decide +kernel) (by decide) (fun _ => ?_) (fun _ => ?_)
    · refine sm_seg C [(.iload_n 2, 0)] (pc' := 54) (L' := [(0, .ref 213), (1, .int a1), (2, .int a2), (3, .int a3)]) (S' := [.int a2]) (by decide +kernel) rfl ?_
      exact sm_iret C hr rfl (by decide +kernel)
    · refine sm_seg C [(.iload_n 2, 0), (.iload_n 1, 0), (.iload_n 3, 0), (.ishr, 0), (.iconst 1, 1), (.iand, 0)] (pc' := 24) (L' := [(0, .ref 213), (1, .int a1), (2, .int a2), (3, .int a3)]) (S' := [.int ((shr a1 a3) &&& 1), .int a2]) (by decide +kernel) rfl ?_
      refine sm_ifeq 44 (off := 20) C (by decide +kernel) (by decide) (fun _ => ?_) (fun _ => ?_)
      · refine sm_seg C [(.iconst 0, 0)] (pc' := 45) (L' := [(0, .ref 213), (1, .int a1), (2, .int a2), (3, .int a3)]) (S' := [.int 0, .int a2]) (by decide +kernel) rfl ?_
        exact sm_sub [0, 1, 3] rfl (s_X4_worthOf_j45 F C hr (X4_worthOf_L4 F n) ih a1 a3 0 a2 τ)
      · refine sm_seg C [(.aload_n 0, 0)] (pc' := 28) (L' := [(0, .ref 213), (1, .int a1), (2, .int a2), (3, .int a3)]) (S' := [.ref 213, .int a2]) (by decide +kernel) rfl ?_
        refine sm_getR 4 1 15 cls4 C (ltX (by decide +kernel : kdX 213 = 4) (by decide)) (by decide +kernel : kdX 213 = 4) (obX4 (by decide +kernel : kdX 213 = 4)) (by decide) (frX4_1 (by decide +kernel : kdX 213 = 4)) fl4_51 (by decide +kernel) ?_
        refine sm_getR 7 3 22 cls7 C (ltX (krX4_1 (by decide +kernel : kdX 213 = 4)) (by decide)) (krX4_1 (by decide +kernel : kdX 213 = 4)) (obX7 (krX4_1 (by decide +kernel : kdX 213 = 4))) (by decide) (frX7_3 (krX4_1 (by decide +kernel : kdX 213 = 4))) fl4_155 (by decide +kernel) ?_
        refine sm_seg C [(.iload_n 3, 0)] (pc' := 35) (L' := [(0, .ref 213), (1, .int a1), (2, .int a2), (3, .int a3)]) (S' := [.int a3, .ref 22, .int a2]) (by decide +kernel) rfl ?_
        refine sm_vcal [.int a3] [.int a2] rfl C mw_X5_get ml_4_73 rfl (ci := 5) rfl (ltX (krX7_3 (krX4_1 (by decide +kernel : kdX 213 = 4))) (by decide)) (krX7_3 (krX4_1 (by decide +kernel : kdX 213 = 4))) (by decide) ⟨by decide, by decide⟩ (Nat.le_of_ble_eq_true rfl) (by decide +kernel) (c_X5_get F 22 (krX7_3 (krX4_1 (by decide +kernel : kdX 213 = 4))) a3 τ) (fun r1 τ2 => ?_)
        refine sm_seg C [(.bipush 100, 100)] (pc' := 40) (L' := [(0, .ref 213), (1, .int a1), (2, .int a2), (3, .int a3)]) (S' := [.int 100, .int r1, .int a2]) (by decide +kernel) rfl ?_
        refine sm_irem C (by decide +kernel) (by decide) ?_
        refine sm_seg C [(.goto 4, 0)] (pc' := 45) (L' := [(0, .ref 213), (1, .int a1), (2, .int a2), (3, .int a3)]) (S' := [.int (rmd r1 100), .int a2]) (by decide +kernel) rfl ?_
        exact sm_sub [0, 1, 3] rfl (s_X4_worthOf_j45 F C hr (X4_worthOf_L4 F n) ih a1 a3 (rmd r1 100) a2 τ2)
def X4_worthOf (F : Nat) (a1 : Int32) (τ : Tau) : Option (Int32 × Tau) :=
  X4_worthOf_L4 F F a1 0 0 τ
set_option maxRecDepth 20000 in
set_option maxHeartbeats 4000000 in
theorem c_X4_worthOf (F : Nat) (a1 : Int32) (τ : Tau) (r : Int32) (τ' : Tau) (h : X4_worthOf F a1 τ = some (r, τ')) : MCi sysX yX4_worthOf cX4_worthOf 4 (some .int) 2 [.ref 213, .int a1] τ r τ' :=
  mci_of (by decide +kernel) (Nat.le_of_ble_eq_true rfl) (fun K C hr => by
    show Sm K sysX 4 (Qi K sysX) (X4_worthOf F a1 τ) 0 [(0, .ref 213), (1, .int a1)] [] τ
    unfold X4_worthOf
    refine sm_seg C [(.iconst 0, 0), (.istore_n 2, 0), (.iconst 0, 0), (.istore_n 3, 0)] (pc' := 4) (L' := [(3, .int 0), (2, .int 0), (0, .ref 213), (1, .int a1)]) (S' := []) (by decide +kernel) rfl ?_
    exact sm_sub [2, 3, 1, 0] rfl (s_X4_worthOf_L4 F C hr F a1 0 0 τ)) h
/-! BasketEnvoys.carried -/
def X10_carried (F : Nat) (a1 : Int32) (a2 : Int32) (τ : Tau) : Option (Int32 × Tau) :=
  cal (X10_within F a1 0 200 τ) fun r1 τ2 => if r1 = 0 then (some ((-1), τ2)) else (cal (X10_within F a2 0 1 τ2) fun r3 τ4 => if r3 = 0 then (some ((-1), τ4)) else (cal (X4_bestLoad F a1 τ4) fun r5 τ6 => if a2 = 0 then (cal (X4_worthOf F r5 τ6) fun r7 τ8 => some (r7, τ8)) else (some (r5, τ6))))
set_option maxRecDepth 20000 in
set_option maxHeartbeats 4000000 in
theorem c_X10_carried (F : Nat) (a1 : Int32) (a2 : Int32) (τ : Tau) (r : Int32) (τ' : Tau) (h : X10_carried F a1 a2 τ = some (r, τ')) : MCi sysX yX10_carried cX10_carried 4 (some .int) 3 [.ref 0, .int a1, .int a2] τ r τ' :=
  mci_of (by decide +kernel) (Nat.le_of_ble_eq_true rfl) (fun K C hr => by
    show Sm K sysX 4 (Qi K sysX) (X10_carried F a1 a2 τ) 0 [(0, .ref 0), (1, .int a1), (2, .int a2)] [] τ
    unfold X10_carried
    refine sm_seg C [(.iload_n 1, 0), (.iconst 0, 0), (.sipush 200, 200)] (pc' := 5) (L' := [(0, .ref 0), (1, .int a1), (2, .int a2)]) (S' := [.int 200, .int 0, .int a1]) (by decide +kernel) rfl ?_
    refine sm_scal [.int a1, .int 0, .int 200] [] rfl C mw_X10_within ml_10_70 rfl ⟨by decide, by decide⟩ (Nat.le_of_ble_eq_true rfl) (by decide +kernel) (c_X10_within F a1 0 200 τ) (fun r1 τ2 => ?_)
    refine sm_ifeq 20 (off := 12) C (by decide +kernel) (by decide) (fun _ => ?_) (fun _ => ?_)
    · refine sm_seg C [(.iconst (-1), (-1))] (pc' := 21) (L' := [(0, .ref 0), (1, .int a1), (2, .int a2)]) (S' := [.int (-1)]) (by decide +kernel) rfl ?_
      exact sm_iret C hr rfl (by decide +kernel)
    · refine sm_seg C [(.iload_n 2, 0), (.iconst 0, 0), (.iconst 1, 1)] (pc' := 14) (L' := [(0, .ref 0), (1, .int a1), (2, .int a2)]) (S' := [.int 1, .int 0, .int a2]) (by decide +kernel) rfl ?_
      refine sm_scal [.int a2, .int 0, .int 1] [] rfl C mw_X10_within ml_10_70 rfl ⟨by decide, by decide⟩ (Nat.le_of_ble_eq_true rfl) (by decide +kernel) (c_X10_within F a2 0 1 τ2) (fun r3 τ4 => ?_)
      refine sm_ifne 22 (off := 5) C (by decide +kernel) (by decide) (fun _ => ?_) (fun _ => ?_)
      · refine sm_seg C [(.iconst (-1), (-1))] (pc' := 21) (L' := [(0, .ref 0), (1, .int a1), (2, .int a2)]) (S' := [.int (-1)]) (by decide +kernel) rfl ?_
        exact sm_iret C hr rfl (by decide +kernel)
      · refine sm_seg C [(.aload_n 0, 0)] (pc' := 23) (L' := [(0, .ref 0), (1, .int a1), (2, .int a2)]) (S' := [.ref 0]) (by decide +kernel) rfl ?_
        refine sm_getR 10 7 213 cls10 C (ltX (by decide +kernel : kdX 0 = 10) (by decide)) (by decide +kernel : kdX 0 = 10) (obX10 (by decide +kernel : kdX 0 = 10)) (by decide) (frX10_7 (by decide +kernel : kdX 0 = 10)) fl10_56 (by decide +kernel) ?_
        refine sm_seg C [(.iload_n 1, 0)] (pc' := 27) (L' := [(0, .ref 0), (1, .int a1), (2, .int a2)]) (S' := [.int a1, .ref 213]) (by decide +kernel) rfl ?_
        refine sm_vcal [.int a1] [] rfl C mw_X4_bestLoad ml_10_339 rfl (ci := 4) rfl (ltX (krX10_7 (by decide +kernel : kdX 0 = 10)) (by decide)) (krX10_7 (by decide +kernel : kdX 0 = 10)) (by decide) ⟨by decide, by decide⟩ (Nat.le_of_ble_eq_true rfl) (by decide +kernel) (c_X4_bestLoad F a1 τ4) (fun r5 τ6 => ?_)
        refine sm_seg C [(.istore_n 3, 0), (.iload_n 2, 0)] (pc' := 32) (L' := [(3, .int r5), (0, .ref 0), (1, .int a1), (2, .int a2)]) (S' := [.int a2]) (by decide +kernel) rfl ?_
        refine sm_ifne 46 (off := 14) C (by decide +kernel) (by decide) (fun _ => ?_) (fun _ => ?_)
        · refine sm_seg C [(.aload_n 0, 0)] (pc' := 36) (L' := [(3, .int r5), (0, .ref 0), (1, .int a1), (2, .int a2)]) (S' := [.ref 0]) (by decide +kernel) rfl ?_
          refine sm_getR 10 7 213 cls10 C (ltX (by decide +kernel : kdX 0 = 10) (by decide)) (by decide +kernel : kdX 0 = 10) (obX10 (by decide +kernel : kdX 0 = 10)) (by decide) (frX10_7 (by decide +kernel : kdX 0 = 10)) fl10_56 (by decide +kernel) ?_
          refine sm_seg C [(.iload_n 3, 0)] (pc' := 40) (L' := [(3, .int r5), (0, .ref 0), (1, .int a1), (2, .int a2)]) (S' := [.int r5, .ref 213]) (by decide +kernel) rfl ?_
          refine sm_vcal [.int r5] [] rfl C mw_X4_worthOf ml_10_342 rfl (ci := 4) rfl (ltX (krX10_7 (by decide +kernel : kdX 0 = 10)) (by decide)) (krX10_7 (by decide +kernel : kdX 0 = 10)) (by decide) ⟨by decide, by decide⟩ (Nat.le_of_ble_eq_true rfl) (by decide +kernel) (c_X4_worthOf F r5 τ6) (fun r7 τ8 => ?_)
          refine sm_seg C [(.goto 4, 0)] (pc' := 47) (L' := [(3, .int r5), (0, .ref 0), (1, .int a1), (2, .int a2)]) (S' := [.int r7]) (by decide +kernel) rfl ?_
          exact sm_iret C hr rfl (by decide +kernel)
        · refine sm_seg C [(.iload_n 3, 0)] (pc' := 47) (L' := [(3, .int r5), (0, .ref 0), (1, .int a1), (2, .int a2)]) (S' := [.int r5]) (by decide +kernel) rfl ?_
          exact sm_iret C hr rfl (by decide +kernel)) h
/-! BasketEnvoys_Row.tell -/
def X5_tell (F : Nat) (t0 : Nat) (a1 : Int32) (a2 : Int32) (τ : Tau) : Option (Int32 × Tau) :=
  if a1 = (-1) then (cal (X5_empty F t0 τ) fun r1 τ2 => some (r1, τ2)) else (cal (X5_add F t0 a1 a2 τ) fun r3 τ4 => some (r3, τ4))
set_option maxRecDepth 20000 in
set_option maxHeartbeats 4000000 in
theorem c_X5_tell (F : Nat) (t0 : Nat) (h0 : kdX t0 = 5) (a1 : Int32) (a2 : Int32) (τ : Tau) (r : Int32) (τ' : Tau) (h : X5_tell F t0 a1 a2 τ = some (r, τ')) : MCi sysX yX5_tell cX5_tell 3 (some .int) 2 [.ref t0, .int a1, .int a2] τ r τ' :=
  mci_of (by decide +kernel) (Nat.le_of_ble_eq_true rfl) (fun K C hr => by
    show Sm K sysX 3 (Qi K sysX) (X5_tell F t0 a1 a2 τ) 0 [(0, .ref t0), (1, .int a1), (2, .int a2)] [] τ
    unfold X5_tell
    refine sm_seg C [(.iload_n 1, 0), (.iconst (-1), (-1))] (pc' := 2) (L' := [(0, .ref t0), (1, .int a1), (2, .int a2)]) (S' := [.int (-1), .int a1]) (by decide +kernel) rfl ?_
    refine sm_icmpne 12 (off := 10) C (by decide +kernel) (by decide) (fun _ => ?_) (fun _ => ?_)
    · refine sm_seg C [(.aload_n 0, 0)] (pc' := 6) (L' := [(0, .ref t0), (1, .int a1), (2, .int a2)]) (S' := [.ref t0]) (by decide +kernel) rfl ?_
      refine sm_vcal [] [] rfl C mw_X5_empty ml_5_25 rfl (ci := 5) rfl (ltX h0 (by decide)) h0 (by decide) ⟨by decide, by decide⟩ (Nat.le_of_ble_eq_true rfl) (by decide +kernel) (c_X5_empty F t0 h0 τ) (fun r1 τ2 => ?_)
      refine sm_seg C [(.goto 9, 0)] (pc' := 18) (L' := [(0, .ref t0), (1, .int a1), (2, .int a2)]) (S' := [.int r1]) (by decide +kernel) rfl ?_
      exact sm_iret C hr rfl (by decide +kernel)
    · refine sm_seg C [(.aload_n 0, 0), (.iload_n 1, 0), (.iload_n 2, 0)] (pc' := 15) (L' := [(0, .ref t0), (1, .int a1), (2, .int a2)]) (S' := [.int a2, .int a1, .ref t0]) (by decide +kernel) rfl ?_
      refine sm_vcal [.int a1, .int a2] [] rfl C mw_X5_add ml_5_29 rfl (ci := 5) rfl (ltX h0 (by decide)) h0 (by decide) ⟨by decide, by decide⟩ (Nat.le_of_ble_eq_true rfl) (by decide +kernel) (c_X5_add F t0 h0 a1 a2 τ) (fun r3 τ4 => ?_)
      exact sm_iret C hr rfl (by decide +kernel)) h
/-! BasketEnvoys.cloth -/
def X10_cloth (F : Nat) (a1 : Int32) (a2 : Int32) (τ : Tau) : Option (Int32 × Tau) :=
  cal (X10_within F a2 0 9 τ) fun r1 τ2 => if a1 = 0 then (cal (X5_tell F 28 a2 r1 τ2) fun r3 τ4 => some (r3, τ4)) else if a1 = 1 then (cal (X5_tell F 30 a2 r1 τ2) fun r5 τ6 => some (r5, τ6)) else (some ((-1), τ2))
set_option maxRecDepth 20000 in
set_option maxHeartbeats 4000000 in
theorem c_X10_cloth (F : Nat) (a1 : Int32) (a2 : Int32) (τ : Tau) (r : Int32) (τ' : Tau) (h : X10_cloth F a1 a2 τ = some (r, τ')) : MCi sysX yX10_cloth cX10_cloth 4 (some .int) 3 [.ref 0, .int a1, .int a2] τ r τ' :=
  mci_of (by decide +kernel) (Nat.le_of_ble_eq_true rfl) (fun K C hr => by
    show Sm K sysX 4 (Qi K sysX) (X10_cloth F a1 a2 τ) 0 [(0, .ref 0), (1, .int a1), (2, .int a2)] [] τ
    unfold X10_cloth
    refine sm_seg C [(.iload_n 2, 0), (.iconst 0, 0), (.bipush 9, 9)] (pc' := 4) (L' := [(0, .ref 0), (1, .int a1), (2, .int a2)]) (S' := [.int 9, .int 0, .int a2]) (by decide +kernel) rfl ?_
    refine sm_scal [.int a2, .int 0, .int 9] [] rfl C mw_X10_within ml_10_70 rfl ⟨by decide, by decide⟩ (Nat.le_of_ble_eq_true rfl) (by decide +kernel) (c_X10_within F a2 0 9 τ) (fun r1 τ2 => ?_)
    refine sm_seg C [(.istore_n 3, 0), (.iload_n 1, 0)] (pc' := 9) (L' := [(3, .int r1), (0, .ref 0), (1, .int a1), (2, .int a2)]) (S' := [.int a1]) (by decide +kernel) rfl ?_
    have hd9 : decode cX10_cloth 9 = .ok (.lookupswitch 59 #[(0, 27), (1, 43)], 27) := by decide +kernel
    refine sm_ite (fun e => ?_) (fun n9_0 => ?_)
    · refine sm_look (off := 27) 36 C hd9 (by decide) (by rw [e]; decide) (by decide) ?_
      refine sm_seg C [(.aload_n 0, 0)] (pc' := 37) (L' := [(3, .int r1), (0, .ref 0), (1, .int a1), (2, .int a2)]) (S' := [.ref 0]) (by decide +kernel) rfl ?_
      refine sm_getR 10 0 1 cls10 C (ltX (by decide +kernel : kdX 0 = 10) (by decide)) (by decide +kernel : kdX 0 = 10) (obX10 (by decide +kernel : kdX 0 = 10)) (by decide) (frX10_0 (by decide +kernel : kdX 0 = 10)) fl10_12 (by decide +kernel) ?_
      refine sm_getR 9 1 15 cls9 C (ltX (krX10_0 (by decide +kernel : kdX 0 = 10)) (by decide)) (krX10_0 (by decide +kernel : kdX 0 = 10)) (obX9 (krX10_0 (by decide +kernel : kdX 0 = 10))) (by decide) (frX9_1 (krX10_0 (by decide +kernel : kdX 0 = 10))) fl10_243 (by decide +kernel) ?_
      refine sm_getR 7 6 28 cls7 C (ltX (krX9_1 (krX10_0 (by decide +kernel : kdX 0 = 10))) (by decide)) (krX9_1 (krX10_0 (by decide +kernel : kdX 0 = 10))) (obX7 (krX9_1 (krX10_0 (by decide +kernel : kdX 0 = 10)))) (by decide) (frX7_6 (krX9_1 (krX10_0 (by decide +kernel : kdX 0 = 10)))) fl10_372 (by decide +kernel) ?_
      refine sm_seg C [(.iload_n 2, 0), (.iload_n 3, 0)] (pc' := 48) (L' := [(3, .int r1), (0, .ref 0), (1, .int a1), (2, .int a2)]) (S' := [.int r1, .int a2, .ref 28]) (by decide +kernel) rfl ?_
      refine sm_vcal [.int a2, .int r1] [] rfl C mw_X5_tell ml_10_253 rfl (ci := 5) rfl (ltX (krX7_6 (krX9_1 (krX10_0 (by decide +kernel : kdX 0 = 10)))) (by decide)) (krX7_6 (krX9_1 (krX10_0 (by decide +kernel : kdX 0 = 10)))) (by decide) ⟨by decide, by decide⟩ (Nat.le_of_ble_eq_true rfl) (by decide +kernel) (c_X5_tell F 28 (krX7_6 (krX9_1 (krX10_0 (by decide +kernel : kdX 0 = 10)))) a2 r1 τ2) (fun r3 τ4 => ?_)
      exact sm_iret C hr rfl (by decide +kernel)
    refine sm_ite (fun e => ?_) (fun n9_1 => ?_)
    · refine sm_look (off := 43) 52 C hd9 (by decide) (by rw [e]; decide) (by decide) ?_
      refine sm_seg C [(.aload_n 0, 0)] (pc' := 53) (L' := [(3, .int r1), (0, .ref 0), (1, .int a1), (2, .int a2)]) (S' := [.ref 0]) (by decide +kernel) rfl ?_
      refine sm_getR 10 0 1 cls10 C (ltX (by decide +kernel : kdX 0 = 10) (by decide)) (by decide +kernel : kdX 0 = 10) (obX10 (by decide +kernel : kdX 0 = 10)) (by decide) (frX10_0 (by decide +kernel : kdX 0 = 10)) fl10_12 (by decide +kernel) ?_
      refine sm_getR 9 1 15 cls9 C (ltX (krX10_0 (by decide +kernel : kdX 0 = 10)) (by decide)) (krX10_0 (by decide +kernel : kdX 0 = 10)) (obX9 (krX10_0 (by decide +kernel : kdX 0 = 10))) (by decide) (frX9_1 (krX10_0 (by decide +kernel : kdX 0 = 10))) fl10_243 (by decide +kernel) ?_
      refine sm_getR 7 7 30 cls7 C (ltX (krX9_1 (krX10_0 (by decide +kernel : kdX 0 = 10))) (by decide)) (krX9_1 (krX10_0 (by decide +kernel : kdX 0 = 10))) (obX7 (krX9_1 (krX10_0 (by decide +kernel : kdX 0 = 10)))) (by decide) (frX7_7 (krX9_1 (krX10_0 (by decide +kernel : kdX 0 = 10)))) fl10_375 (by decide +kernel) ?_
      refine sm_seg C [(.iload_n 2, 0), (.iload_n 3, 0)] (pc' := 64) (L' := [(3, .int r1), (0, .ref 0), (1, .int a1), (2, .int a2)]) (S' := [.int r1, .int a2, .ref 30]) (by decide +kernel) rfl ?_
      refine sm_vcal [.int a2, .int r1] [] rfl C mw_X5_tell ml_10_253 rfl (ci := 5) rfl (ltX (krX7_7 (krX9_1 (krX10_0 (by decide +kernel : kdX 0 = 10)))) (by decide)) (krX7_7 (krX9_1 (krX10_0 (by decide +kernel : kdX 0 = 10)))) (by decide) ⟨by decide, by decide⟩ (Nat.le_of_ble_eq_true rfl) (by decide +kernel) (c_X5_tell F 30 (krX7_7 (krX9_1 (krX10_0 (by decide +kernel : kdX 0 = 10)))) a2 r1 τ2) (fun r5 τ6 => ?_)
      exact sm_iret C hr rfl (by decide +kernel)
    refine sm_look (off := 59) 68 C hd9 (by decide) (by show Op.lookupswitch.offset [(0, 27), (1, 43)] 59 _ = _; rw [look_ne (toInt_neZ (z := 0) n9_0 (by decide)), look_ne (toInt_neZ (z := 1) n9_1 (by decide))]; rfl) (by decide) ?_
    refine sm_seg C [(.iconst (-1), (-1))] (pc' := 69) (L' := [(3, .int r1), (0, .ref 0), (1, .int a1), (2, .int a2)]) (S' := [.int (-1)]) (by decide +kernel) rfl ?_
    exact sm_iret C hr rfl (by decide +kernel)) h
/-! BasketEnvoys_Riddles.laid -/
def X4_laid (F : Nat) (a1 : Int32) (a2 : Int32) (τ : Tau) : Option (Int32 × Tau) :=
  cal (X10_entry F 220 ((13 * a1) + a2) τ) fun r1 τ2 => some (r1, τ2)
set_option maxRecDepth 20000 in
set_option maxHeartbeats 4000000 in
theorem c_X4_laid (F : Nat) (a1 : Int32) (a2 : Int32) (τ : Tau) (r : Int32) (τ' : Tau) (h : X4_laid F a1 a2 τ = some (r, τ')) : MCi sysX yX4_laid cX4_laid 3 (some .int) 2 [.ref 213, .int a1, .int a2] τ r τ' :=
  mci_of (by decide +kernel) (Nat.le_of_ble_eq_true rfl) (fun K C hr => by
    show Sm K sysX 3 (Qi K sysX) (X4_laid F a1 a2 τ) 0 [(0, .ref 213), (1, .int a1), (2, .int a2)] [] τ
    unfold X4_laid
    refine sm_seg C [(.aload_n 0, 0)] (pc' := 1) (L' := [(0, .ref 213), (1, .int a1), (2, .int a2)]) (S' := [.ref 213]) (by decide +kernel) rfl ?_
    refine sm_getR 4 8 220 cls4 C (ltX (by decide +kernel : kdX 213 = 4) (by decide)) (by decide +kernel : kdX 213 = 4) (obX4 (by decide +kernel : kdX 213 = 4)) (by decide) (frX4_8 (by decide +kernel : kdX 213 = 4)) fl4_30 (by decide +kernel) ?_
    refine sm_seg C [(.bipush 13, 13), (.iload_n 1, 0), (.imul, 0), (.iload_n 2, 0), (.iadd, 0)] (pc' := 10) (L' := [(0, .ref 213), (1, .int a1), (2, .int a2)]) (S' := [.int ((13 * a1) + a2), .ref 220]) (by decide +kernel) rfl ?_
    refine sm_ncal "BasketEnvoys" [.ref 220, .int ((13 * a1) + a2)] [] rfl C mw_X10_entry ml_4_108 rfl ⟨by decide, by decide⟩ (Nat.le_of_ble_eq_true rfl) (by decide +kernel) (c_X10_entry F 220 (krX4_8 (by decide +kernel : kdX 213 = 4)) ((13 * a1) + a2) τ) (fun r1 τ2 => ?_)
    exact sm_iret C hr rfl (by decide +kernel)) h
/-! BasketEnvoys_Riddles.mostAlike -/
def X4_mostAlike_j116 (F : Nat) (self2 : Int32 → Tau → Option (Int32 × Tau)) (self18 : Int32 → Int32 → Tau → Option (Int32 × Tau)) (a1 : Int32) (a2 : Int32) (a3 : Int32) (τ : Tau) : Option (Int32 × Tau) :=
  cal (X10_put F 220 ((13 * a1) + a2) a3 1 τ) fun r3 τ4 => self18 a1 (a2 + 1) τ4
theorem s_X4_mostAlike_j116 (F : Nat) {K : Ctx} (C : Cx K sysX RX4 cX4_mostAlike 5 3) (hr : Rt K (some .int)) (self2 : Int32 → Tau → Option (Int32 × Tau)) (self18 : Int32 → Int32 → Tau → Option (Int32 × Tau)) (ih2 : ∀ (a1 : Int32) (τ : Tau), Sm K sysX 5 (Qi K sysX) (self2 a1 τ) 2 [(0, .ref 213), (1, .int a1)] [] τ) (ih18 : ∀ (a1 : Int32) (a2 : Int32) (τ : Tau), Sm K sysX 5 (Qi K sysX) (self18 a1 a2 τ) 18 [(0, .ref 213), (1, .int a1), (2, .int a2)] [] τ) (a1 : Int32) (a2 : Int32) (a3 : Int32) (τ : Tau) : Sm K sysX 5 (Qi K sysX) (X4_mostAlike_j116 F self2 self18 a1 a2 a3 τ) 116 [(0, .ref 213), (1, .int a1), (2, .int a2), (3, .int a3)] [] τ := by
  unfold X4_mostAlike_j116
  refine sm_seg C [(.aload_n 0, 0)] (pc' := 117) (L' := [(0, .ref 213), (1, .int a1), (2, .int a2), (3, .int a3)]) (S' := [.ref 213]) (by decide +kernel) rfl ?_
  refine sm_getR 4 8 220 cls4 C (ltX (by decide +kernel : kdX 213 = 4) (by decide)) (by decide +kernel : kdX 213 = 4) (obX4 (by decide +kernel : kdX 213 = 4)) (by decide) (frX4_8 (by decide +kernel : kdX 213 = 4)) fl4_30 (by decide +kernel) ?_
  refine sm_seg C [(.bipush 13, 13), (.iload_n 1, 0), (.imul, 0), (.iload_n 2, 0), (.iadd, 0), (.iload_n 3, 0), (.iconst 1, 1)] (pc' := 128) (L' := [(0, .ref 213), (1, .int a1), (2, .int a2), (3, .int a3)]) (S' := [.int 1, .int a3, .int ((13 * a1) + a2), .ref 220]) (by decide +kernel) rfl ?_
  refine sm_ncal "BasketEnvoys" [.ref 220, .int ((13 * a1) + a2), .int a3, .int 1] [] rfl C mw_X10_put ml_4_101 rfl ⟨by decide, by decide⟩ (Nat.le_of_ble_eq_true rfl) (by decide +kernel) (c_X10_put F 220 (krX4_8 (by decide +kernel : kdX 213 = 4)) ((13 * a1) + a2) a3 1 τ) (fun r3 τ4 => ?_)
  refine sm_seg C [(.pop, 0), (.iinc 2 1, 1), (.goto (-117), 0)] (pc' := 18) (L' := [(2, .int (a2 + 1)), (0, .ref 213), (1, .int a1), (3, .int a3)]) (S' := []) (by decide +kernel) rfl ?_
  exact sm_sub [1, 2, 0] rfl (ih18 a1 (a2 + 1) τ4)
def X4_mostAlike_j76 (F : Nat) (self2 : Int32 → Tau → Option (Int32 × Tau)) (self18 : Int32 → Int32 → Tau → Option (Int32 × Tau)) (a1 : Int32) (a2 : Int32) (z0 : Int32) (τ : Tau) : Option (Int32 × Tau) :=
  cal (X4_laid F (a1 - 1) a2 τ) fun r9 τ10 => cal (X4_laid F a1 (a2 - 1) τ10) fun r11 τ12 => cal (X4_laid F (a1 - 1) (a2 - 1) τ12) fun r13 τ14 => X4_mostAlike_j116 F self2 self18 a1 a2 (imax (imax r9 r11) (r13 + z0)) τ14
theorem s_X4_mostAlike_j76 (F : Nat) {K : Ctx} (C : Cx K sysX RX4 cX4_mostAlike 5 3) (hr : Rt K (some .int)) (self2 : Int32 → Tau → Option (Int32 × Tau)) (self18 : Int32 → Int32 → Tau → Option (Int32 × Tau)) (ih2 : ∀ (a1 : Int32) (τ : Tau), Sm K sysX 5 (Qi K sysX) (self2 a1 τ) 2 [(0, .ref 213), (1, .int a1)] [] τ) (ih18 : ∀ (a1 : Int32) (a2 : Int32) (τ : Tau), Sm K sysX 5 (Qi K sysX) (self18 a1 a2 τ) 18 [(0, .ref 213), (1, .int a1), (2, .int a2)] [] τ) (a1 : Int32) (a2 : Int32) (z0 : Int32) (τ : Tau) : Sm K sysX 5 (Qi K sysX) (X4_mostAlike_j76 F self2 self18 a1 a2 z0 τ) 76 [(0, .ref 213), (1, .int a1), (2, .int a2)] [.int z0] τ := by
  unfold X4_mostAlike_j76
  refine sm_seg C [(.istore 4, 0), (.aload_n 0, 0), (.iload_n 1, 0), (.iconst 1, 1), (.isub, 0), (.iload_n 2, 0)] (pc' := 83) (L' := [(4, .int z0), (0, .ref 213), (1, .int a1), (2, .int a2)]) (S' := [.int a2, .int (a1 - 1), .ref 213]) (by decide +kernel) rfl ?_
  refine sm_vcal [.int (a1 - 1), .int a2] [] rfl C mw_X4_laid ml_4_183 rfl (ci := 4) rfl (ltX (by decide +kernel : kdX 213 = 4) (by decide)) (by decide +kernel : kdX 213 = 4) (by decide) ⟨by decide, by decide⟩ (Nat.le_of_ble_eq_true rfl) (by decide +kernel) (c_X4_laid F (a1 - 1) a2 τ) (fun r9 τ10 => ?_)
  refine sm_seg C [(.aload_n 0, 0), (.iload_n 1, 0), (.iload_n 2, 0), (.iconst 1, 1), (.isub, 0)] (pc' := 91) (L' := [(4, .int z0), (0, .ref 213), (1, .int a1), (2, .int a2)]) (S' := [.int (a2 - 1), .int a1, .ref 213, .int r9]) (by decide +kernel) rfl ?_
  refine sm_vcal [.int a1, .int (a2 - 1)] [.int r9] rfl C mw_X4_laid ml_4_183 rfl (ci := 4) rfl (ltX (by decide +kernel : kdX 213 = 4) (by decide)) (by decide +kernel : kdX 213 = 4) (by decide) ⟨by decide, by decide⟩ (Nat.le_of_ble_eq_true rfl) (by decide +kernel) (c_X4_laid F a1 (a2 - 1) τ10) (fun r11 τ12 => ?_)
  refine sm_max C (by decide) ml_4_125 jw_maxs jw_math jw_maxc (Nat.le_of_ble_eq_true rfl) (by decide +kernel) ?_
  refine sm_seg C [(.istore_n 3, 0), (.iload_n 3, 0), (.aload_n 0, 0), (.iload_n 1, 0), (.iconst 1, 1), (.isub, 0), (.iload_n 2, 0), (.iconst 1, 1), (.isub, 0)] (pc' := 106) (L' := [(3, .int (imax r9 r11)), (4, .int z0), (0, .ref 213), (1, .int a1), (2, .int a2)]) (S' := [.int (a2 - 1), .int (a1 - 1), .ref 213, .int (imax r9 r11)]) (by decide +kernel) rfl ?_
  refine sm_vcal [.int (a1 - 1), .int (a2 - 1)] [.int (imax r9 r11)] rfl C mw_X4_laid ml_4_183 rfl (ci := 4) rfl (ltX (by decide +kernel : kdX 213 = 4) (by decide)) (by decide +kernel : kdX 213 = 4) (by decide) ⟨by decide, by decide⟩ (Nat.le_of_ble_eq_true rfl) (by decide +kernel) (c_X4_laid F (a1 - 1) (a2 - 1) τ12) (fun r13 τ14 => ?_)
  refine sm_seg C [(.iload 4, 0), (.iadd, 0)] (pc' := 112) (L' := [(3, .int (imax r9 r11)), (4, .int z0), (0, .ref 213), (1, .int a1), (2, .int a2)]) (S' := [.int (r13 + z0), .int (imax r9 r11)]) (by decide +kernel) rfl ?_
  refine sm_max C (by decide) ml_4_125 jw_maxs jw_math jw_maxc (Nat.le_of_ble_eq_true rfl) (by decide +kernel) ?_
  refine sm_seg C [(.istore_n 3, 0)] (pc' := 116) (L' := [(3, .int (imax (imax r9 r11) (r13 + z0))), (4, .int z0), (0, .ref 213), (1, .int a1), (2, .int a2)]) (S' := []) (by decide +kernel) rfl ?_
  exact sm_sub [2, 3, 4, 0] rfl (s_X4_mostAlike_j116 F C hr self2 self18 ih2 ih18 a1 a2 (imax (imax r9 r11) (r13 + z0)) τ14)
def X4_mostAlike_L18 (F : Nat) (self2 : Int32 → Tau → Option (Int32 × Tau)) : Nat → Int32 → Int32 → Tau → Option (Int32 × Tau)
  | 0, _, _, _ => none
  | n + 1, a1, a2, τ =>
    if (τ 30 0) < a2 then (self2 (a1 + 1) τ) else (if a1 ≤ 0 then (X4_mostAlike_j116 F self2 (X4_mostAlike_L18 F self2 n) a1 a2 0 τ) else (if a2 ≤ 0 then (X4_mostAlike_j116 F self2 (X4_mostAlike_L18 F self2 n) a1 a2 0 τ) else (cal (X5_get F 28 (a1 - 1) τ) fun r5 τ6 => cal (X5_get F 30 (a2 - 1) τ6) fun r7 τ8 => if r5 = r7 then (X4_mostAlike_j76 F self2 (X4_mostAlike_L18 F self2 n) a1 a2 1 τ8) else (X4_mostAlike_j76 F self2 (X4_mostAlike_L18 F self2 n) a1 a2 0 τ8))))
theorem s_X4_mostAlike_L18 (F : Nat) {K : Ctx} (C : Cx K sysX RX4 cX4_mostAlike 5 3) (hr : Rt K (some .int)) (self2 : Int32 → Tau → Option (Int32 × Tau)) (ih2 : ∀ (a1 : Int32) (τ : Tau), Sm K sysX 5 (Qi K sysX) (self2 a1 τ) 2 [(0, .ref 213), (1, .int a1)] [] τ) : ∀ (n : Nat) (a1 : Int32) (a2 : Int32) (τ : Tau), Sm K sysX 5 (Qi K sysX) (X4_mostAlike_L18 F self2 n a1 a2 τ) 18 [(0, .ref 213), (1, .int a1), (2, .int a2)] [] τ := by
  intro n
  induction n with
  | zero => intro a1 a2 τ; exact sm_none
  | succ n ih =>
    intro a1 a2 τ
    rw [X4_mostAlike_L18]
    refine sm_seg C [(.iload_n 2, 0), (.aload_n 0, 0)] (pc' := 20) (L' := [(0, .ref 213), (1, .int a1), (2, .int a2)]) (S' := [.ref 213, .int a2]) (by decide +kernel) rfl ?_
    refine sm_getR 4 1 15 cls4 C (ltX (by decide +kernel : kdX 213 = 4) (by decide)) (by decide +kernel : kdX 213 = 4) (obX4 (by decide +kernel : kdX 213 = 4)) (by decide) (frX4_1 (by decide +kernel : kdX 213 = 4)) fl4_51 (by decide +kernel) ?_
    refine sm_getR 7 7 30 cls7 C (ltX (krX4_1 (by decide +kernel : kdX 213 = 4)) (by decide)) (krX4_1 (by decide +kernel : kdX 213 = 4)) (obX7 (krX4_1 (by decide +kernel : kdX 213 = 4))) (by decide) (frX7_7 (krX4_1 (by decide +kernel : kdX 213 = 4))) fl4_180 (by decide +kernel) ?_
    refine sm_getI 5 0 cls5 C (ltX (krX7_7 (krX4_1 (by decide +kernel : kdX 213 = 4))) (by decide)) (krX7_7 (krX4_1 (by decide +kernel : kdX 213 = 4))) (obX5 (krX7_7 (krX4_1 (by decide +kernel : kdX 213 = 4)))) (by decide) (fiX5_0 (krX7_7 (krX4_1 (by decide +kernel : kdX 213 = 4)))) fl4_68 (by decide +kernel) ?_
    refine sm_icmpgt 138 (off := 109) C (by decide +kernel) (by decide) (fun _ => ?_) (fun _ => ?_)
    · refine sm_seg C [(.iinc 1 1, 1), (.goto (-139), 0)] (pc' := 2) (L' := [(1, .int (a1 + 1)), (0, .ref 213), (2, .int a2)]) (S' := []) (by decide +kernel) rfl ?_
      exact sm_sub [1, 0] rfl (ih2 (a1 + 1) τ)
    · refine sm_seg C [(.iconst 0, 0), (.istore_n 3, 0), (.iload_n 1, 0)] (pc' := 35) (L' := [(3, .int 0), (0, .ref 213), (1, .int a1), (2, .int a2)]) (S' := [.int a1]) (by decide +kernel) rfl ?_
      refine sm_ifle 116 (off := 81) C (by decide +kernel) (by decide) (fun _ => ?_) (fun _ => ?_)
      · exact sm_sub [1, 2, 3, 0] rfl (s_X4_mostAlike_j116 F C hr self2 (X4_mostAlike_L18 F self2 n) ih2 ih a1 a2 0 τ)
      · refine sm_seg C [(.iload_n 2, 0)] (pc' := 39) (L' := [(3, .int 0), (0, .ref 213), (1, .int a1), (2, .int a2)]) (S' := [.int a2]) (by decide +kernel) rfl ?_
        refine sm_ifle 116 (off := 77) C (by decide +kernel) (by decide) (fun _ => ?_) (fun _ => ?_)
        · exact sm_sub [1, 2, 3, 0] rfl (s_X4_mostAlike_j116 F C hr self2 (X4_mostAlike_L18 F self2 n) ih2 ih a1 a2 0 τ)
        · refine sm_seg C [(.aload_n 0, 0)] (pc' := 43) (L' := [(3, .int 0), (0, .ref 213), (1, .int a1), (2, .int a2)]) (S' := [.ref 213]) (by decide +kernel) rfl ?_
          refine sm_getR 4 1 15 cls4 C (ltX (by decide +kernel : kdX 213 = 4) (by decide)) (by decide +kernel : kdX 213 = 4) (obX4 (by decide +kernel : kdX 213 = 4)) (by decide) (frX4_1 (by decide +kernel : kdX 213 = 4)) fl4_51 (by decide +kernel) ?_
          refine sm_getR 7 6 28 cls7 C (ltX (krX4_1 (by decide +kernel : kdX 213 = 4)) (by decide)) (krX4_1 (by decide +kernel : kdX 213 = 4)) (obX7 (krX4_1 (by decide +kernel : kdX 213 = 4))) (by decide) (frX7_6 (krX4_1 (by decide +kernel : kdX 213 = 4))) fl4_177 (by decide +kernel) ?_
          refine sm_seg C [(.iload_n 1, 0), (.iconst 1, 1), (.isub, 0)] (pc' := 52) (L' := [(3, .int 0), (0, .ref 213), (1, .int a1), (2, .int a2)]) (S' := [.int (a1 - 1), .ref 28]) (by decide +kernel) rfl ?_
          refine sm_vcal [.int (a1 - 1)] [] rfl C mw_X5_get ml_4_73 rfl (ci := 5) rfl (ltX (krX7_6 (krX4_1 (by decide +kernel : kdX 213 = 4))) (by decide)) (krX7_6 (krX4_1 (by decide +kernel : kdX 213 = 4))) (by decide) ⟨by decide, by decide⟩ (Nat.le_of_ble_eq_true rfl) (by decide +kernel) (c_X5_get F 28 (krX7_6 (krX4_1 (by decide +kernel : kdX 213 = 4))) (a1 - 1) τ) (fun r5 τ6 => ?_)
          refine sm_seg C [(.aload_n 0, 0)] (pc' := 56) (L' := [(3, .int 0), (0, .ref 213), (1, .int a1), (2, .int a2)]) (S' := [.ref 213, .int r5]) (by decide +kernel) rfl ?_
          refine sm_getR 4 1 15 cls4 C (ltX (by decide +kernel : kdX 213 = 4) (by decide)) (by decide +kernel : kdX 213 = 4) (obX4 (by decide +kernel : kdX 213 = 4)) (by decide) (frX4_1 (by decide +kernel : kdX 213 = 4)) fl4_51 (by decide +kernel) ?_
          refine sm_getR 7 7 30 cls7 C (ltX (krX4_1 (by decide +kernel : kdX 213 = 4)) (by decide)) (krX4_1 (by decide +kernel : kdX 213 = 4)) (obX7 (krX4_1 (by decide +kernel : kdX 213 = 4))) (by decide) (frX7_7 (krX4_1 (by decide +kernel : kdX 213 = 4))) fl4_180 (by decide +kernel) ?_
          refine sm_seg C [(.iload_n 2, 0), (.iconst 1, 1), (.isub, 0)] (pc' := 65) (L' := [(3, .int 0), (0, .ref 213), (1, .int a1), (2, .int a2)]) (S' := [.int (a2 - 1), .ref 30, .int r5]) (by decide +kernel) rfl ?_
          refine sm_vcal [.int (a2 - 1)] [.int r5] rfl C mw_X5_get ml_4_73 rfl (ci := 5) rfl (ltX (krX7_7 (krX4_1 (by decide +kernel : kdX 213 = 4))) (by decide)) (krX7_7 (krX4_1 (by decide +kernel : kdX 213 = 4))) (by decide) ⟨by decide, by decide⟩ (Nat.le_of_ble_eq_true rfl) (by decide +kernel) (c_X5_get F 30 (krX7_7 (krX4_1 (by decide +kernel : kdX 213 = 4))) (a2 - 1) τ6) (fun r7 τ8 => ?_)
          refine sm_icmpne 75 (off := 7) C (by decide +kernel) (by decide) (fun _ => ?_) (fun _ => ?_)
          · refine sm_seg C [(.iconst 1, 1), (.goto 4, 0)] (pc' := 76) (L' := [(3, .int 0), (0, .ref 213), (1, .int a1), (2, .int a2)]) (S' := [.int 1]) (by decide +kernel) rfl ?_
            exact sm_sub [1, 2, 3] rfl (s_X4_mostAlike_j76 F C hr self2 (X4_mostAlike_L18 F self2 n) ih2 ih a1 a2 1 τ8)
          · refine sm_seg C [(.iconst 0, 0)] (pc' := 76) (L' := [(3, .int 0), (0, .ref 213), (1, .int a1), (2, .int a2)]) (S' := [.int 0]) (by decide +kernel) rfl ?_
            exact sm_sub [1, 2, 3] rfl (s_X4_mostAlike_j76 F C hr self2 (X4_mostAlike_L18 F self2 n) ih2 ih a1 a2 0 τ8)
def X4_mostAlike_L2 (F : Nat) : Nat → Int32 → Tau → Option (Int32 × Tau)
  | 0, _, _ => none
  | n + 1, a1, τ =>
    if (τ 28 0) < a1 then (cal (X4_laid F (τ 28 0) (τ 30 0) τ) fun r1 τ2 => some (r1, τ2)) else (X4_mostAlike_L18 F (X4_mostAlike_L2 F n) F a1 0 τ)
theorem s_X4_mostAlike_L2 (F : Nat) {K : Ctx} (C : Cx K sysX RX4 cX4_mostAlike 5 3) (hr : Rt K (some .int)) : ∀ (n : Nat) (a1 : Int32) (τ : Tau), Sm K sysX 5 (Qi K sysX) (X4_mostAlike_L2 F n a1 τ) 2 [(0, .ref 213), (1, .int a1)] [] τ := by
  intro n
  induction n with
  | zero => intro a1 τ; exact sm_none
  | succ n ih =>
    intro a1 τ
    rw [X4_mostAlike_L2]
    refine sm_seg C [(.iload_n 1, 0), (.aload_n 0, 0)] (pc' := 4) (L' := [(0, .ref 213), (1, .int a1)]) (S' := [.ref 213, .int a1]) (by decide +kernel) rfl ?_
    refine sm_getR 4 1 15 cls4 C (ltX (by decide +kernel : kdX 213 = 4) (by decide)) (by decide +kernel : kdX 213 = 4) (obX4 (by decide +kernel : kdX 213 = 4)) (by decide) (frX4_1 (by decide +kernel : kdX 213 = 4)) fl4_51 (by decide +kernel) ?_
    refine sm_getR 7 6 28 cls7 C (ltX (krX4_1 (by decide +kernel : kdX 213 = 4)) (by decide)) (krX4_1 (by decide +kernel : kdX 213 = 4)) (obX7 (krX4_1 (by decide +kernel : kdX 213 = 4))) (by decide) (frX7_6 (krX4_1 (by decide +kernel : kdX 213 = 4))) fl4_177 (by decide +kernel) ?_
    refine sm_getI 5 0 cls5 C (ltX (krX7_6 (krX4_1 (by decide +kernel : kdX 213 = 4))) (by decide)) (krX7_6 (krX4_1 (by decide +kernel : kdX 213 = 4))) (obX5 (krX7_6 (krX4_1 (by decide +kernel : kdX 213 = 4)))) (by decide) (fiX5_0 (krX7_6 (krX4_1 (by decide +kernel : kdX 213 = 4)))) fl4_68 (by decide +kernel) ?_
    refine sm_icmpgt 144 (off := 131) C (by decide +kernel) (by decide) (fun _ => ?_) (fun _ => ?_)
    · refine sm_seg C [(.aload_n 0, 0), (.aload_n 0, 0)] (pc' := 146) (L' := [(0, .ref 213), (1, .int a1)]) (S' := [.ref 213, .ref 213]) (by decide +kernel) rfl ?_
      refine sm_getR 4 1 15 cls4 C (ltX (by decide +kernel : kdX 213 = 4) (by decide)) (by decide +kernel : kdX 213 = 4) (obX4 (by decide +kernel : kdX 213 = 4)) (by decide) (frX4_1 (by decide +kernel : kdX 213 = 4)) fl4_51 (by decide +kernel) ?_
      refine sm_getR 7 6 28 cls7 C (ltX (krX4_1 (by decide +kernel : kdX 213 = 4)) (by decide)) (krX4_1 (by decide +kernel : kdX 213 = 4)) (obX7 (krX4_1 (by decide +kernel : kdX 213 = 4))) (by decide) (frX7_6 (krX4_1 (by decide +kernel : kdX 213 = 4))) fl4_177 (by decide +kernel) ?_
      refine sm_getI 5 0 cls5 C (ltX (krX7_6 (krX4_1 (by decide +kernel : kdX 213 = 4))) (by decide)) (krX7_6 (krX4_1 (by decide +kernel : kdX 213 = 4))) (obX5 (krX7_6 (krX4_1 (by decide +kernel : kdX 213 = 4)))) (by decide) (fiX5_0 (krX7_6 (krX4_1 (by decide +kernel : kdX 213 = 4)))) fl4_68 (by decide +kernel) ?_
      refine sm_seg C [(.aload_n 0, 0)] (pc' := 156) (L' := [(0, .ref 213), (1, .int a1)]) (S' := [.ref 213, .int (τ 28 0), .ref 213]) (by decide +kernel) rfl ?_
      refine sm_getR 4 1 15 cls4 C (ltX (by decide +kernel : kdX 213 = 4) (by decide)) (by decide +kernel : kdX 213 = 4) (obX4 (by decide +kernel : kdX 213 = 4)) (by decide) (frX4_1 (by decide +kernel : kdX 213 = 4)) fl4_51 (by decide +kernel) ?_
      refine sm_getR 7 7 30 cls7 C (ltX (krX4_1 (by decide +kernel : kdX 213 = 4)) (by decide)) (krX4_1 (by decide +kernel : kdX 213 = 4)) (obX7 (krX4_1 (by decide +kernel : kdX 213 = 4))) (by decide) (frX7_7 (krX4_1 (by decide +kernel : kdX 213 = 4))) fl4_180 (by decide +kernel) ?_
      refine sm_getI 5 0 cls5 C (ltX (krX7_7 (krX4_1 (by decide +kernel : kdX 213 = 4))) (by decide)) (krX7_7 (krX4_1 (by decide +kernel : kdX 213 = 4))) (obX5 (krX7_7 (krX4_1 (by decide +kernel : kdX 213 = 4)))) (by decide) (fiX5_0 (krX7_7 (krX4_1 (by decide +kernel : kdX 213 = 4)))) fl4_68 (by decide +kernel) ?_
      refine sm_vcal [.int (τ 28 0), .int (τ 30 0)] [] rfl C mw_X4_laid ml_4_183 rfl (ci := 4) rfl (ltX (by decide +kernel : kdX 213 = 4) (by decide)) (by decide +kernel : kdX 213 = 4) (by decide) ⟨by decide, by decide⟩ (Nat.le_of_ble_eq_true rfl) (by decide +kernel) (c_X4_laid F (τ 28 0) (τ 30 0) τ) (fun r1 τ2 => ?_)
      exact sm_iret C hr rfl (by decide +kernel)
    · refine sm_seg C [(.iconst 0, 0), (.istore_n 2, 0)] (pc' := 18) (L' := [(2, .int 0), (0, .ref 213), (1, .int a1)]) (S' := []) (by decide +kernel) rfl ?_
      exact sm_sub [1, 2, 0] rfl (s_X4_mostAlike_L18 F C hr (X4_mostAlike_L2 F n) ih F a1 0 τ)
def X4_mostAlike (F : Nat) (τ : Tau) : Option (Int32 × Tau) :=
  X4_mostAlike_L2 F F 0 τ
set_option maxRecDepth 20000 in
set_option maxHeartbeats 4000000 in
theorem c_X4_mostAlike (F : Nat) (τ : Tau) (r : Int32) (τ' : Tau) (h : X4_mostAlike F τ = some (r, τ')) : MCi sysX yX4_mostAlike cX4_mostAlike 5 (some .int) 3 [.ref 213] τ r τ' :=
  mci_of (by decide +kernel) (Nat.le_of_ble_eq_true rfl) (fun K C hr => by
    show Sm K sysX 5 (Qi K sysX) (X4_mostAlike F τ) 0 [(0, .ref 213)] [] τ
    unfold X4_mostAlike
    refine sm_seg C [(.iconst 0, 0), (.istore_n 1, 0)] (pc' := 2) (L' := [(1, .int 0), (0, .ref 213)]) (S' := []) (by decide +kernel) rfl ?_
    exact sm_sub [1, 0] rfl (s_X4_mostAlike_L2 F C hr F 0 τ)) h
/-! BasketEnvoys_Riddles.fewestChanges -/
def X4_fewestChanges_j120 (F : Nat) (self2 : Int32 → Tau → Option (Int32 × Tau)) (self18 : Int32 → Int32 → Tau → Option (Int32 × Tau)) (a1 : Int32) (a2 : Int32) (a3 : Int32) (τ : Tau) : Option (Int32 × Tau) :=
  cal (X10_put F 220 ((13 * a1) + a2) a3 1 τ) fun r3 τ4 => self18 a1 (a2 + 1) τ4
theorem s_X4_fewestChanges_j120 (F : Nat) {K : Ctx} (C : Cx K sysX RX4 cX4_fewestChanges 5 3) (hr : Rt K (some .int)) (self2 : Int32 → Tau → Option (Int32 × Tau)) (self18 : Int32 → Int32 → Tau → Option (Int32 × Tau)) (ih2 : ∀ (a1 : Int32) (τ : Tau), Sm K sysX 5 (Qi K sysX) (self2 a1 τ) 2 [(0, .ref 213), (1, .int a1)] [] τ) (ih18 : ∀ (a1 : Int32) (a2 : Int32) (τ : Tau), Sm K sysX 5 (Qi K sysX) (self18 a1 a2 τ) 18 [(0, .ref 213), (1, .int a1), (2, .int a2)] [] τ) (a1 : Int32) (a2 : Int32) (a3 : Int32) (τ : Tau) : Sm K sysX 5 (Qi K sysX) (X4_fewestChanges_j120 F self2 self18 a1 a2 a3 τ) 120 [(0, .ref 213), (1, .int a1), (2, .int a2), (3, .int a3)] [] τ := by
  unfold X4_fewestChanges_j120
  refine sm_seg C [(.aload_n 0, 0)] (pc' := 121) (L' := [(0, .ref 213), (1, .int a1), (2, .int a2), (3, .int a3)]) (S' := [.ref 213]) (by decide +kernel) rfl ?_
  refine sm_getR 4 8 220 cls4 C (ltX (by decide +kernel : kdX 213 = 4) (by decide)) (by decide +kernel : kdX 213 = 4) (obX4 (by decide +kernel : kdX 213 = 4)) (by decide) (frX4_8 (by decide +kernel : kdX 213 = 4)) fl4_30 (by decide +kernel) ?_
  refine sm_seg C [(.bipush 13, 13), (.iload_n 1, 0), (.imul, 0), (.iload_n 2, 0), (.iadd, 0), (.iload_n 3, 0), (.iconst 1, 1)] (pc' := 132) (L' := [(0, .ref 213), (1, .int a1), (2, .int a2), (3, .int a3)]) (S' := [.int 1, .int a3, .int ((13 * a1) + a2), .ref 220]) (by decide +kernel) rfl ?_
  refine sm_ncal "BasketEnvoys" [.ref 220, .int ((13 * a1) + a2), .int a3, .int 1] [] rfl C mw_X10_put ml_4_101 rfl ⟨by decide, by decide⟩ (Nat.le_of_ble_eq_true rfl) (by decide +kernel) (c_X10_put F 220 (krX4_8 (by decide +kernel : kdX 213 = 4)) ((13 * a1) + a2) a3 1 τ) (fun r3 τ4 => ?_)
  refine sm_seg C [(.pop, 0), (.iinc 2 1, 1), (.goto (-121), 0)] (pc' := 18) (L' := [(2, .int (a2 + 1)), (0, .ref 213), (1, .int a1), (3, .int a3)]) (S' := []) (by decide +kernel) rfl ?_
  exact sm_sub [1, 2, 0] rfl (ih18 a1 (a2 + 1) τ4)
def X4_fewestChanges_j78 (F : Nat) (self2 : Int32 → Tau → Option (Int32 × Tau)) (self18 : Int32 → Int32 → Tau → Option (Int32 × Tau)) (a1 : Int32) (a2 : Int32) (z0 : Int32) (τ : Tau) : Option (Int32 × Tau) :=
  cal (X4_laid F (a1 - 1) a2 τ) fun r9 τ10 => cal (X4_laid F a1 (a2 - 1) τ10) fun r11 τ12 => cal (X4_laid F (a1 - 1) (a2 - 1) τ12) fun r13 τ14 => X4_fewestChanges_j120 F self2 self18 a1 a2 (imin ((imin r9 r11) + 1) (r13 + z0)) τ14
theorem s_X4_fewestChanges_j78 (F : Nat) {K : Ctx} (C : Cx K sysX RX4 cX4_fewestChanges 5 3) (hr : Rt K (some .int)) (self2 : Int32 → Tau → Option (Int32 × Tau)) (self18 : Int32 → Int32 → Tau → Option (Int32 × Tau)) (ih2 : ∀ (a1 : Int32) (τ : Tau), Sm K sysX 5 (Qi K sysX) (self2 a1 τ) 2 [(0, .ref 213), (1, .int a1)] [] τ) (ih18 : ∀ (a1 : Int32) (a2 : Int32) (τ : Tau), Sm K sysX 5 (Qi K sysX) (self18 a1 a2 τ) 18 [(0, .ref 213), (1, .int a1), (2, .int a2)] [] τ) (a1 : Int32) (a2 : Int32) (z0 : Int32) (τ : Tau) : Sm K sysX 5 (Qi K sysX) (X4_fewestChanges_j78 F self2 self18 a1 a2 z0 τ) 78 [(0, .ref 213), (1, .int a1), (2, .int a2)] [.int z0] τ := by
  unfold X4_fewestChanges_j78
  refine sm_seg C [(.istore 4, 0), (.aload_n 0, 0), (.iload_n 1, 0), (.iconst 1, 1), (.isub, 0), (.iload_n 2, 0)] (pc' := 85) (L' := [(4, .int z0), (0, .ref 213), (1, .int a1), (2, .int a2)]) (S' := [.int a2, .int (a1 - 1), .ref 213]) (by decide +kernel) rfl ?_
  refine sm_vcal [.int (a1 - 1), .int a2] [] rfl C mw_X4_laid ml_4_183 rfl (ci := 4) rfl (ltX (by decide +kernel : kdX 213 = 4) (by decide)) (by decide +kernel : kdX 213 = 4) (by decide) ⟨by decide, by decide⟩ (Nat.le_of_ble_eq_true rfl) (by decide +kernel) (c_X4_laid F (a1 - 1) a2 τ) (fun r9 τ10 => ?_)
  refine sm_seg C [(.aload_n 0, 0), (.iload_n 1, 0), (.iload_n 2, 0), (.iconst 1, 1), (.isub, 0)] (pc' := 93) (L' := [(4, .int z0), (0, .ref 213), (1, .int a1), (2, .int a2)]) (S' := [.int (a2 - 1), .int a1, .ref 213, .int r9]) (by decide +kernel) rfl ?_
  refine sm_vcal [.int a1, .int (a2 - 1)] [.int r9] rfl C mw_X4_laid ml_4_183 rfl (ci := 4) rfl (ltX (by decide +kernel : kdX 213 = 4) (by decide)) (by decide +kernel : kdX 213 = 4) (by decide) ⟨by decide, by decide⟩ (Nat.le_of_ble_eq_true rfl) (by decide +kernel) (c_X4_laid F a1 (a2 - 1) τ10) (fun r11 τ12 => ?_)
  refine sm_min C (by decide) ml_4_186 jw_mins jw_math jw_minc (Nat.le_of_ble_eq_true rfl) (by decide +kernel) ?_
  refine sm_seg C [(.iconst 1, 1), (.iadd, 0), (.istore_n 3, 0), (.iload_n 3, 0), (.aload_n 0, 0), (.iload_n 1, 0), (.iconst 1, 1), (.isub, 0), (.iload_n 2, 0), (.iconst 1, 1), (.isub, 0)] (pc' := 110) (L' := [(3, .int ((imin r9 r11) + 1)), (4, .int z0), (0, .ref 213), (1, .int a1), (2, .int a2)]) (S' := [.int (a2 - 1), .int (a1 - 1), .ref 213, .int ((imin r9 r11) + 1)]) (by decide +kernel) rfl ?_
  refine sm_vcal [.int (a1 - 1), .int (a2 - 1)] [.int ((imin r9 r11) + 1)] rfl C mw_X4_laid ml_4_183 rfl (ci := 4) rfl (ltX (by decide +kernel : kdX 213 = 4) (by decide)) (by decide +kernel : kdX 213 = 4) (by decide) ⟨by decide, by decide⟩ (Nat.le_of_ble_eq_true rfl) (by decide +kernel) (c_X4_laid F (a1 - 1) (a2 - 1) τ12) (fun r13 τ14 => ?_)
  refine sm_seg C [(.iload 4, 0), (.iadd, 0)] (pc' := 116) (L' := [(3, .int ((imin r9 r11) + 1)), (4, .int z0), (0, .ref 213), (1, .int a1), (2, .int a2)]) (S' := [.int (r13 + z0), .int ((imin r9 r11) + 1)]) (by decide +kernel) rfl ?_
  refine sm_min C (by decide) ml_4_186 jw_mins jw_math jw_minc (Nat.le_of_ble_eq_true rfl) (by decide +kernel) ?_
  refine sm_seg C [(.istore_n 3, 0)] (pc' := 120) (L' := [(3, .int (imin ((imin r9 r11) + 1) (r13 + z0))), (4, .int z0), (0, .ref 213), (1, .int a1), (2, .int a2)]) (S' := []) (by decide +kernel) rfl ?_
  exact sm_sub [2, 3, 4, 0] rfl (s_X4_fewestChanges_j120 F C hr self2 self18 ih2 ih18 a1 a2 (imin ((imin r9 r11) + 1) (r13 + z0)) τ14)
def X4_fewestChanges_L18 (F : Nat) (self2 : Int32 → Tau → Option (Int32 × Tau)) : Nat → Int32 → Int32 → Tau → Option (Int32 × Tau)
  | 0, _, _, _ => none
  | n + 1, a1, a2, τ =>
    if (τ 30 0) < a2 then (self2 (a1 + 1) τ) else (if a1 ≤ 0 then (X4_fewestChanges_j120 F self2 (X4_fewestChanges_L18 F self2 n) a1 a2 (a1 + a2) τ) else (if a2 ≤ 0 then (X4_fewestChanges_j120 F self2 (X4_fewestChanges_L18 F self2 n) a1 a2 (a1 + a2) τ) else (cal (X5_get F 28 (a1 - 1) τ) fun r5 τ6 => cal (X5_get F 30 (a2 - 1) τ6) fun r7 τ8 => if r5 = r7 then (X4_fewestChanges_j78 F self2 (X4_fewestChanges_L18 F self2 n) a1 a2 0 τ8) else (X4_fewestChanges_j78 F self2 (X4_fewestChanges_L18 F self2 n) a1 a2 1 τ8))))
theorem s_X4_fewestChanges_L18 (F : Nat) {K : Ctx} (C : Cx K sysX RX4 cX4_fewestChanges 5 3) (hr : Rt K (some .int)) (self2 : Int32 → Tau → Option (Int32 × Tau)) (ih2 : ∀ (a1 : Int32) (τ : Tau), Sm K sysX 5 (Qi K sysX) (self2 a1 τ) 2 [(0, .ref 213), (1, .int a1)] [] τ) : ∀ (n : Nat) (a1 : Int32) (a2 : Int32) (τ : Tau), Sm K sysX 5 (Qi K sysX) (X4_fewestChanges_L18 F self2 n a1 a2 τ) 18 [(0, .ref 213), (1, .int a1), (2, .int a2)] [] τ := by
  intro n
  induction n with
  | zero => intro a1 a2 τ; exact sm_none
  | succ n ih =>
    intro a1 a2 τ
    rw [X4_fewestChanges_L18]
    refine sm_seg C [(.iload_n 2, 0), (.aload_n 0, 0)] (pc' := 20) (L' := [(0, .ref 213), (1, .int a1), (2, .int a2)]) (S' := [.ref 213, .int a2]) (by decide +kernel) rfl ?_
    refine sm_getR 4 1 15 cls4 C (ltX (by decide +kernel : kdX 213 = 4) (by decide)) (by decide +kernel : kdX 213 = 4) (obX4 (by decide +kernel : kdX 213 = 4)) (by decide) (frX4_1 (by decide +kernel : kdX 213 = 4)) fl4_51 (by decide +kernel) ?_
    refine sm_getR 7 7 30 cls7 C (ltX (krX4_1 (by decide +kernel : kdX 213 = 4)) (by decide)) (krX4_1 (by decide +kernel : kdX 213 = 4)) (obX7 (krX4_1 (by decide +kernel : kdX 213 = 4))) (by decide) (frX7_7 (krX4_1 (by decide +kernel : kdX 213 = 4))) fl4_180 (by decide +kernel) ?_
    refine sm_getI 5 0 cls5 C (ltX (krX7_7 (krX4_1 (by decide +kernel : kdX 213 = 4))) (by decide)) (krX7_7 (krX4_1 (by decide +kernel : kdX 213 = 4))) (obX5 (krX7_7 (krX4_1 (by decide +kernel : kdX 213 = 4)))) (by decide) (fiX5_0 (krX7_7 (krX4_1 (by decide +kernel : kdX 213 = 4)))) fl4_68 (by decide +kernel) ?_
    refine sm_icmpgt 142 (off := 113) C (by decide +kernel) (by decide) (fun _ => ?_) (fun _ => ?_)
    · refine sm_seg C [(.iinc 1 1, 1), (.goto (-143), 0)] (pc' := 2) (L' := [(1, .int (a1 + 1)), (0, .ref 213), (2, .int a2)]) (S' := []) (by decide +kernel) rfl ?_
      exact sm_sub [1, 0] rfl (ih2 (a1 + 1) τ)
    · refine sm_seg C [(.iload_n 1, 0), (.iload_n 2, 0), (.iadd, 0), (.istore_n 3, 0), (.iload_n 1, 0)] (pc' := 37) (L' := [(3, .int (a1 + a2)), (0, .ref 213), (1, .int a1), (2, .int a2)]) (S' := [.int a1]) (by decide +kernel) rfl ?_
      refine sm_ifle 120 (off := 83) C (by decide +kernel) (by decide) (fun _ => ?_) (fun _ => ?_)
      · exact sm_sub [1, 2, 3, 0] rfl (s_X4_fewestChanges_j120 F C hr self2 (X4_fewestChanges_L18 F self2 n) ih2 ih a1 a2 (a1 + a2) τ)
      · refine sm_seg C [(.iload_n 2, 0)] (pc' := 41) (L' := [(3, .int (a1 + a2)), (0, .ref 213), (1, .int a1), (2, .int a2)]) (S' := [.int a2]) (by decide +kernel) rfl ?_
        refine sm_ifle 120 (off := 79) C (by decide +kernel) (by decide) (fun _ => ?_) (fun _ => ?_)
        · exact sm_sub [1, 2, 3, 0] rfl (s_X4_fewestChanges_j120 F C hr self2 (X4_fewestChanges_L18 F self2 n) ih2 ih a1 a2 (a1 + a2) τ)
        · refine sm_seg C [(.aload_n 0, 0)] (pc' := 45) (L' := [(3, .int (a1 + a2)), (0, .ref 213), (1, .int a1), (2, .int a2)]) (S' := [.ref 213]) (by decide +kernel) rfl ?_
          refine sm_getR 4 1 15 cls4 C (ltX (by decide +kernel : kdX 213 = 4) (by decide)) (by decide +kernel : kdX 213 = 4) (obX4 (by decide +kernel : kdX 213 = 4)) (by decide) (frX4_1 (by decide +kernel : kdX 213 = 4)) fl4_51 (by decide +kernel) ?_
          refine sm_getR 7 6 28 cls7 C (ltX (krX4_1 (by decide +kernel : kdX 213 = 4)) (by decide)) (krX4_1 (by decide +kernel : kdX 213 = 4)) (obX7 (krX4_1 (by decide +kernel : kdX 213 = 4))) (by decide) (frX7_6 (krX4_1 (by decide +kernel : kdX 213 = 4))) fl4_177 (by decide +kernel) ?_
          refine sm_seg C [(.iload_n 1, 0), (.iconst 1, 1), (.isub, 0)] (pc' := 54) (L' := [(3, .int (a1 + a2)), (0, .ref 213), (1, .int a1), (2, .int a2)]) (S' := [.int (a1 - 1), .ref 28]) (by decide +kernel) rfl ?_
          refine sm_vcal [.int (a1 - 1)] [] rfl C mw_X5_get ml_4_73 rfl (ci := 5) rfl (ltX (krX7_6 (krX4_1 (by decide +kernel : kdX 213 = 4))) (by decide)) (krX7_6 (krX4_1 (by decide +kernel : kdX 213 = 4))) (by decide) ⟨by decide, by decide⟩ (Nat.le_of_ble_eq_true rfl) (by decide +kernel) (c_X5_get F 28 (krX7_6 (krX4_1 (by decide +kernel : kdX 213 = 4))) (a1 - 1) τ) (fun r5 τ6 => ?_)
          refine sm_seg C [(.aload_n 0, 0)] (pc' := 58) (L' := [(3, .int (a1 + a2)), (0, .ref 213), (1, .int a1), (2, .int a2)]) (S' := [.ref 213, .int r5]) (by decide +kernel) rfl ?_
          refine sm_getR 4 1 15 cls4 C (ltX (by decide +kernel : kdX 213 = 4) (by decide)) (by decide +kernel : kdX 213 = 4) (obX4 (by decide +kernel : kdX 213 = 4)) (by decide) (frX4_1 (by decide +kernel : kdX 213 = 4)) fl4_51 (by decide +kernel) ?_
          refine sm_getR 7 7 30 cls7 C (ltX (krX4_1 (by decide +kernel : kdX 213 = 4)) (by decide)) (krX4_1 (by decide +kernel : kdX 213 = 4)) (obX7 (krX4_1 (by decide +kernel : kdX 213 = 4))) (by decide) (frX7_7 (krX4_1 (by decide +kernel : kdX 213 = 4))) fl4_180 (by decide +kernel) ?_
          refine sm_seg C [(.iload_n 2, 0), (.iconst 1, 1), (.isub, 0)] (pc' := 67) (L' := [(3, .int (a1 + a2)), (0, .ref 213), (1, .int a1), (2, .int a2)]) (S' := [.int (a2 - 1), .ref 30, .int r5]) (by decide +kernel) rfl ?_
          refine sm_vcal [.int (a2 - 1)] [.int r5] rfl C mw_X5_get ml_4_73 rfl (ci := 5) rfl (ltX (krX7_7 (krX4_1 (by decide +kernel : kdX 213 = 4))) (by decide)) (krX7_7 (krX4_1 (by decide +kernel : kdX 213 = 4))) (by decide) ⟨by decide, by decide⟩ (Nat.le_of_ble_eq_true rfl) (by decide +kernel) (c_X5_get F 30 (krX7_7 (krX4_1 (by decide +kernel : kdX 213 = 4))) (a2 - 1) τ6) (fun r7 τ8 => ?_)
          refine sm_icmpne 77 (off := 7) C (by decide +kernel) (by decide) (fun _ => ?_) (fun _ => ?_)
          · refine sm_seg C [(.iconst 0, 0), (.goto 4, 0)] (pc' := 78) (L' := [(3, .int (a1 + a2)), (0, .ref 213), (1, .int a1), (2, .int a2)]) (S' := [.int 0]) (by decide +kernel) rfl ?_
            exact sm_sub [1, 2, 3] rfl (s_X4_fewestChanges_j78 F C hr self2 (X4_fewestChanges_L18 F self2 n) ih2 ih a1 a2 0 τ8)
          · refine sm_seg C [(.iconst 1, 1)] (pc' := 78) (L' := [(3, .int (a1 + a2)), (0, .ref 213), (1, .int a1), (2, .int a2)]) (S' := [.int 1]) (by decide +kernel) rfl ?_
            exact sm_sub [1, 2, 3] rfl (s_X4_fewestChanges_j78 F C hr self2 (X4_fewestChanges_L18 F self2 n) ih2 ih a1 a2 1 τ8)
def X4_fewestChanges_L2 (F : Nat) : Nat → Int32 → Tau → Option (Int32 × Tau)
  | 0, _, _ => none
  | n + 1, a1, τ =>
    if (τ 28 0) < a1 then (cal (X4_laid F (τ 28 0) (τ 30 0) τ) fun r1 τ2 => some (r1, τ2)) else (X4_fewestChanges_L18 F (X4_fewestChanges_L2 F n) F a1 0 τ)
theorem s_X4_fewestChanges_L2 (F : Nat) {K : Ctx} (C : Cx K sysX RX4 cX4_fewestChanges 5 3) (hr : Rt K (some .int)) : ∀ (n : Nat) (a1 : Int32) (τ : Tau), Sm K sysX 5 (Qi K sysX) (X4_fewestChanges_L2 F n a1 τ) 2 [(0, .ref 213), (1, .int a1)] [] τ := by
  intro n
  induction n with
  | zero => intro a1 τ; exact sm_none
  | succ n ih =>
    intro a1 τ
    rw [X4_fewestChanges_L2]
    refine sm_seg C [(.iload_n 1, 0), (.aload_n 0, 0)] (pc' := 4) (L' := [(0, .ref 213), (1, .int a1)]) (S' := [.ref 213, .int a1]) (by decide +kernel) rfl ?_
    refine sm_getR 4 1 15 cls4 C (ltX (by decide +kernel : kdX 213 = 4) (by decide)) (by decide +kernel : kdX 213 = 4) (obX4 (by decide +kernel : kdX 213 = 4)) (by decide) (frX4_1 (by decide +kernel : kdX 213 = 4)) fl4_51 (by decide +kernel) ?_
    refine sm_getR 7 6 28 cls7 C (ltX (krX4_1 (by decide +kernel : kdX 213 = 4)) (by decide)) (krX4_1 (by decide +kernel : kdX 213 = 4)) (obX7 (krX4_1 (by decide +kernel : kdX 213 = 4))) (by decide) (frX7_6 (krX4_1 (by decide +kernel : kdX 213 = 4))) fl4_177 (by decide +kernel) ?_
    refine sm_getI 5 0 cls5 C (ltX (krX7_6 (krX4_1 (by decide +kernel : kdX 213 = 4))) (by decide)) (krX7_6 (krX4_1 (by decide +kernel : kdX 213 = 4))) (obX5 (krX7_6 (krX4_1 (by decide +kernel : kdX 213 = 4)))) (by decide) (fiX5_0 (krX7_6 (krX4_1 (by decide +kernel : kdX 213 = 4)))) fl4_68 (by decide +kernel) ?_
    refine sm_icmpgt 148 (off := 135) C (by decide +kernel) (by decide) (fun _ => ?_) (fun _ => ?_)
    · refine sm_seg C [(.aload_n 0, 0), (.aload_n 0, 0)] (pc' := 150) (L' := [(0, .ref 213), (1, .int a1)]) (S' := [.ref 213, .ref 213]) (by decide +kernel) rfl ?_
      refine sm_getR 4 1 15 cls4 C (ltX (by decide +kernel : kdX 213 = 4) (by decide)) (by decide +kernel : kdX 213 = 4) (obX4 (by decide +kernel : kdX 213 = 4)) (by decide) (frX4_1 (by decide +kernel : kdX 213 = 4)) fl4_51 (by decide +kernel) ?_
      refine sm_getR 7 6 28 cls7 C (ltX (krX4_1 (by decide +kernel : kdX 213 = 4)) (by decide)) (krX4_1 (by decide +kernel : kdX 213 = 4)) (obX7 (krX4_1 (by decide +kernel : kdX 213 = 4))) (by decide) (frX7_6 (krX4_1 (by decide +kernel : kdX 213 = 4))) fl4_177 (by decide +kernel) ?_
      refine sm_getI 5 0 cls5 C (ltX (krX7_6 (krX4_1 (by decide +kernel : kdX 213 = 4))) (by decide)) (krX7_6 (krX4_1 (by decide +kernel : kdX 213 = 4))) (obX5 (krX7_6 (krX4_1 (by decide +kernel : kdX 213 = 4)))) (by decide) (fiX5_0 (krX7_6 (krX4_1 (by decide +kernel : kdX 213 = 4)))) fl4_68 (by decide +kernel) ?_
      refine sm_seg C [(.aload_n 0, 0)] (pc' := 160) (L' := [(0, .ref 213), (1, .int a1)]) (S' := [.ref 213, .int (τ 28 0), .ref 213]) (by decide +kernel) rfl ?_
      refine sm_getR 4 1 15 cls4 C (ltX (by decide +kernel : kdX 213 = 4) (by decide)) (by decide +kernel : kdX 213 = 4) (obX4 (by decide +kernel : kdX 213 = 4)) (by decide) (frX4_1 (by decide +kernel : kdX 213 = 4)) fl4_51 (by decide +kernel) ?_
      refine sm_getR 7 7 30 cls7 C (ltX (krX4_1 (by decide +kernel : kdX 213 = 4)) (by decide)) (krX4_1 (by decide +kernel : kdX 213 = 4)) (obX7 (krX4_1 (by decide +kernel : kdX 213 = 4))) (by decide) (frX7_7 (krX4_1 (by decide +kernel : kdX 213 = 4))) fl4_180 (by decide +kernel) ?_
      refine sm_getI 5 0 cls5 C (ltX (krX7_7 (krX4_1 (by decide +kernel : kdX 213 = 4))) (by decide)) (krX7_7 (krX4_1 (by decide +kernel : kdX 213 = 4))) (obX5 (krX7_7 (krX4_1 (by decide +kernel : kdX 213 = 4)))) (by decide) (fiX5_0 (krX7_7 (krX4_1 (by decide +kernel : kdX 213 = 4)))) fl4_68 (by decide +kernel) ?_
      refine sm_vcal [.int (τ 28 0), .int (τ 30 0)] [] rfl C mw_X4_laid ml_4_183 rfl (ci := 4) rfl (ltX (by decide +kernel : kdX 213 = 4) (by decide)) (by decide +kernel : kdX 213 = 4) (by decide) ⟨by decide, by decide⟩ (Nat.le_of_ble_eq_true rfl) (by decide +kernel) (c_X4_laid F (τ 28 0) (τ 30 0) τ) (fun r1 τ2 => ?_)
      exact sm_iret C hr rfl (by decide +kernel)
    · refine sm_seg C [(.iconst 0, 0), (.istore_n 2, 0)] (pc' := 18) (L' := [(2, .int 0), (0, .ref 213), (1, .int a1)]) (S' := []) (by decide +kernel) rfl ?_
      exact sm_sub [1, 2, 0] rfl (s_X4_fewestChanges_L18 F C hr (X4_fewestChanges_L2 F n) ih F a1 0 τ)
def X4_fewestChanges (F : Nat) (τ : Tau) : Option (Int32 × Tau) :=
  X4_fewestChanges_L2 F F 0 τ
set_option maxRecDepth 20000 in
set_option maxHeartbeats 4000000 in
theorem c_X4_fewestChanges (F : Nat) (τ : Tau) (r : Int32) (τ' : Tau) (h : X4_fewestChanges F τ = some (r, τ')) : MCi sysX yX4_fewestChanges cX4_fewestChanges 5 (some .int) 3 [.ref 213] τ r τ' :=
  mci_of (by decide +kernel) (Nat.le_of_ble_eq_true rfl) (fun K C hr => by
    show Sm K sysX 5 (Qi K sysX) (X4_fewestChanges F τ) 0 [(0, .ref 213)] [] τ
    unfold X4_fewestChanges
    refine sm_seg C [(.iconst 0, 0), (.istore_n 1, 0)] (pc' := 2) (L' := [(1, .int 0), (0, .ref 213)]) (S' := []) (by decide +kernel) rfl ?_
    exact sm_sub [1, 0] rfl (s_X4_fewestChanges_L2 F C hr F 0 τ)) h
/-! BasketEnvoys.cloths -/
def X10_cloths (F : Nat) (a1 : Int32) (τ : Tau) : Option (Int32 × Tau) :=
  if a1 = 0 then (cal (X4_mostAlike F τ) fun r1 τ2 => some (r1, τ2)) else if a1 = 1 then (cal (X4_mostAlike F τ) fun r3 τ4 => some ((((τ 28 0) + (τ 30 0)) - r3), τ4)) else if a1 = 2 then (cal (X4_fewestChanges F τ) fun r5 τ6 => some (r5, τ6)) else (some ((-1), τ))
set_option maxRecDepth 20000 in
set_option maxHeartbeats 4000000 in
theorem c_X10_cloths (F : Nat) (a1 : Int32) (τ : Tau) (r : Int32) (τ' : Tau) (h : X10_cloths F a1 τ = some (r, τ')) : MCi sysX yX10_cloths cX10_cloths 2 (some .int) 4 [.ref 0, .int a1] τ r τ' :=
  mci_of (by decide +kernel) (Nat.le_of_ble_eq_true rfl) (fun K C hr => by
    show Sm K sysX 2 (Qi K sysX) (X10_cloths F a1 τ) 0 [(0, .ref 0), (1, .int a1)] [] τ
    unfold X10_cloths
    refine sm_seg C [(.iload_n 1, 0)] (pc' := 1) (L' := [(0, .ref 0), (1, .int a1)]) (S' := [.int a1]) (by decide +kernel) rfl ?_
    have hd1 : decode cX10_cloths 1 = .ok (.tableswitch 79 0 2 #[27, 35, 71], 27) := by decide +kernel
    refine sm_ite (fun e => ?_) (fun n1_0 => ?_)
    · refine sm_tabIn (off := 27) 28 C hd1 (by rw [e]; decide) (by rw [e]; decide) (by rw [e]; decide) (by decide) ?_
      refine sm_seg C [(.aload_n 0, 0)] (pc' := 29) (L' := [(0, .ref 0), (1, .int a1)]) (S' := [.ref 0]) (by decide +kernel) rfl ?_
      refine sm_getR 10 7 213 cls10 C (ltX (by decide +kernel : kdX 0 = 10) (by decide)) (by decide +kernel : kdX 0 = 10) (obX10 (by decide +kernel : kdX 0 = 10)) (by decide) (frX10_7 (by decide +kernel : kdX 0 = 10)) fl10_56 (by decide +kernel) ?_
      refine sm_vcal [] [] rfl C mw_X4_mostAlike ml_10_378 rfl (ci := 4) rfl (ltX (krX10_7 (by decide +kernel : kdX 0 = 10)) (by decide)) (krX10_7 (by decide +kernel : kdX 0 = 10)) (by decide) ⟨by decide, by decide⟩ (Nat.le_of_ble_eq_true rfl) (by decide +kernel) (c_X4_mostAlike F τ) (fun r1 τ2 => ?_)
      exact sm_iret C hr rfl (by decide +kernel)
    refine sm_ite (fun e => ?_) (fun n1_1 => ?_)
    · refine sm_tabIn (off := 35) 36 C hd1 (by rw [e]; decide) (by rw [e]; decide) (by rw [e]; decide) (by decide) ?_
      refine sm_seg C [(.aload_n 0, 0)] (pc' := 37) (L' := [(0, .ref 0), (1, .int a1)]) (S' := [.ref 0]) (by decide +kernel) rfl ?_
      refine sm_getR 10 0 1 cls10 C (ltX (by decide +kernel : kdX 0 = 10) (by decide)) (by decide +kernel : kdX 0 = 10) (obX10 (by decide +kernel : kdX 0 = 10)) (by decide) (frX10_0 (by decide +kernel : kdX 0 = 10)) fl10_12 (by decide +kernel) ?_
      refine sm_getR 9 1 15 cls9 C (ltX (krX10_0 (by decide +kernel : kdX 0 = 10)) (by decide)) (krX10_0 (by decide +kernel : kdX 0 = 10)) (obX9 (krX10_0 (by decide +kernel : kdX 0 = 10))) (by decide) (frX9_1 (krX10_0 (by decide +kernel : kdX 0 = 10))) fl10_243 (by decide +kernel) ?_
      refine sm_getR 7 6 28 cls7 C (ltX (krX9_1 (krX10_0 (by decide +kernel : kdX 0 = 10))) (by decide)) (krX9_1 (krX10_0 (by decide +kernel : kdX 0 = 10))) (obX7 (krX9_1 (krX10_0 (by decide +kernel : kdX 0 = 10)))) (by decide) (frX7_6 (krX9_1 (krX10_0 (by decide +kernel : kdX 0 = 10)))) fl10_372 (by decide +kernel) ?_
      refine sm_getI 5 0 cls5 C (ltX (krX7_6 (krX9_1 (krX10_0 (by decide +kernel : kdX 0 = 10)))) (by decide)) (krX7_6 (krX9_1 (krX10_0 (by decide +kernel : kdX 0 = 10)))) (obX5 (krX7_6 (krX9_1 (krX10_0 (by decide +kernel : kdX 0 = 10))))) (by decide) (fiX5_0 (krX7_6 (krX9_1 (krX10_0 (by decide +kernel : kdX 0 = 10))))) fl10_381 (by decide +kernel) ?_
      refine sm_seg C [(.aload_n 0, 0)] (pc' := 50) (L' := [(0, .ref 0), (1, .int a1)]) (S' := [.ref 0, .int (τ 28 0)]) (by decide +kernel) rfl ?_
      refine sm_getR 10 0 1 cls10 C (ltX (by decide +kernel : kdX 0 = 10) (by decide)) (by decide +kernel : kdX 0 = 10) (obX10 (by decide +kernel : kdX 0 = 10)) (by decide) (frX10_0 (by decide +kernel : kdX 0 = 10)) fl10_12 (by decide +kernel) ?_
      refine sm_getR 9 1 15 cls9 C (ltX (krX10_0 (by decide +kernel : kdX 0 = 10)) (by decide)) (krX10_0 (by decide +kernel : kdX 0 = 10)) (obX9 (krX10_0 (by decide +kernel : kdX 0 = 10))) (by decide) (frX9_1 (krX10_0 (by decide +kernel : kdX 0 = 10))) fl10_243 (by decide +kernel) ?_
      refine sm_getR 7 7 30 cls7 C (ltX (krX9_1 (krX10_0 (by decide +kernel : kdX 0 = 10))) (by decide)) (krX9_1 (krX10_0 (by decide +kernel : kdX 0 = 10))) (obX7 (krX9_1 (krX10_0 (by decide +kernel : kdX 0 = 10)))) (by decide) (frX7_7 (krX9_1 (krX10_0 (by decide +kernel : kdX 0 = 10)))) fl10_375 (by decide +kernel) ?_
      refine sm_getI 5 0 cls5 C (ltX (krX7_7 (krX9_1 (krX10_0 (by decide +kernel : kdX 0 = 10)))) (by decide)) (krX7_7 (krX9_1 (krX10_0 (by decide +kernel : kdX 0 = 10)))) (obX5 (krX7_7 (krX9_1 (krX10_0 (by decide +kernel : kdX 0 = 10))))) (by decide) (fiX5_0 (krX7_7 (krX9_1 (krX10_0 (by decide +kernel : kdX 0 = 10))))) fl10_381 (by decide +kernel) ?_
      refine sm_seg C [(.iadd, 0), (.aload_n 0, 0)] (pc' := 64) (L' := [(0, .ref 0), (1, .int a1)]) (S' := [.ref 0, .int ((τ 28 0) + (τ 30 0))]) (by decide +kernel) rfl ?_
      refine sm_getR 10 7 213 cls10 C (ltX (by decide +kernel : kdX 0 = 10) (by decide)) (by decide +kernel : kdX 0 = 10) (obX10 (by decide +kernel : kdX 0 = 10)) (by decide) (frX10_7 (by decide +kernel : kdX 0 = 10)) fl10_56 (by decide +kernel) ?_
      refine sm_vcal [] [.int ((τ 28 0) + (τ 30 0))] rfl C mw_X4_mostAlike ml_10_378 rfl (ci := 4) rfl (ltX (krX10_7 (by decide +kernel : kdX 0 = 10)) (by decide)) (krX10_7 (by decide +kernel : kdX 0 = 10)) (by decide) ⟨by decide, by decide⟩ (Nat.le_of_ble_eq_true rfl) (by decide +kernel) (c_X4_mostAlike F τ) (fun r3 τ4 => ?_)
      refine sm_seg C [(.isub, 0)] (pc' := 71) (L' := [(0, .ref 0), (1, .int a1)]) (S' := [.int (((τ 28 0) + (τ 30 0)) - r3)]) (by decide +kernel) rfl ?_
      exact sm_iret C hr rfl (by decide +kernel)
    refine sm_ite (fun e => ?_) (fun n1_2 => ?_)
    · refine sm_tabIn (off := 71) 72 C hd1 (by rw [e]; decide) (by rw [e]; decide) (by rw [e]; decide) (by decide) ?_
      refine sm_seg C [(.aload_n 0, 0)] (pc' := 73) (L' := [(0, .ref 0), (1, .int a1)]) (S' := [.ref 0]) (by decide +kernel) rfl ?_
      refine sm_getR 10 7 213 cls10 C (ltX (by decide +kernel : kdX 0 = 10) (by decide)) (by decide +kernel : kdX 0 = 10) (obX10 (by decide +kernel : kdX 0 = 10)) (by decide) (frX10_7 (by decide +kernel : kdX 0 = 10)) fl10_56 (by decide +kernel) ?_
      refine sm_vcal [] [] rfl C mw_X4_fewestChanges ml_10_384 rfl (ci := 4) rfl (ltX (krX10_7 (by decide +kernel : kdX 0 = 10)) (by decide)) (krX10_7 (by decide +kernel : kdX 0 = 10)) (by decide) ⟨by decide, by decide⟩ (Nat.le_of_ble_eq_true rfl) (by decide +kernel) (c_X4_fewestChanges F τ) (fun r5 τ6 => ?_)
      exact sm_iret C hr rfl (by decide +kernel)
    refine sm_tabOut 80 C hd1 (by have q0 := toInt_neZ (z := 0) n1_0 (by decide); have q1 := toInt_neZ (z := 1) n1_1 (by decide); have q2 := toInt_neZ (z := 2) n1_2 (by decide); omega) (by decide) ?_
    refine sm_seg C [(.iconst (-1), (-1))] (pc' := 81) (L' := [(0, .ref 0), (1, .int a1)]) (S' := [.int (-1)]) (by decide +kernel) rfl ?_
    exact sm_iret C hr rfl (by decide +kernel)) h
/-! BasketEnvoys.couldShow -/
def X10_couldShow (F : Nat) (a1 : Int32) (τ : Tau) : Option (Int32 × Tau) :=
  cal (X8_isAway F 2 a1 τ) fun r1 τ2 => if r1 = 0 then (some (0, τ2)) else (cal (X8_nextThing F 2 a1 τ2) fun r3 τ4 => if r3 = (-1) then (some (0, τ4)) else (some (1, τ4)))
set_option maxRecDepth 20000 in
set_option maxHeartbeats 4000000 in
theorem c_X10_couldShow (F : Nat) (a1 : Int32) (τ : Tau) (r : Int32) (τ' : Tau) (h : X10_couldShow F a1 τ = some (r, τ')) : MCi sysX yX10_couldShow cX10_couldShow 2 (some .boolean) 4 [.ref 0, .int a1] τ r τ' :=
  mci_of (by decide +kernel) (Nat.le_of_ble_eq_true rfl) (fun K C hr => by
    show Sm K sysX 2 (Qi K sysX) (X10_couldShow F a1 τ) 0 [(0, .ref 0), (1, .int a1)] [] τ
    unfold X10_couldShow
    refine sm_seg C [(.aload_n 0, 0)] (pc' := 1) (L' := [(0, .ref 0), (1, .int a1)]) (S' := [.ref 0]) (by decide +kernel) rfl ?_
    refine sm_getR 10 0 1 cls10 C (ltX (by decide +kernel : kdX 0 = 10) (by decide)) (by decide +kernel : kdX 0 = 10) (obX10 (by decide +kernel : kdX 0 = 10)) (by decide) (frX10_0 (by decide +kernel : kdX 0 = 10)) fl10_12 (by decide +kernel) ?_
    refine sm_getR 9 0 2 cls9 C (ltX (krX10_0 (by decide +kernel : kdX 0 = 10)) (by decide)) (krX10_0 (by decide +kernel : kdX 0 = 10)) (obX9 (krX10_0 (by decide +kernel : kdX 0 = 10))) (by decide) (frX9_0 (krX10_0 (by decide +kernel : kdX 0 = 10))) fl10_60 (by decide +kernel) ?_
    refine sm_seg C [(.iload_n 1, 0)] (pc' := 8) (L' := [(0, .ref 0), (1, .int a1)]) (S' := [.int a1, .ref 2]) (by decide +kernel) rfl ?_
    refine sm_vcal [.int a1] [] rfl C mw_X8_isAway ml_10_424 rfl (ci := 8) rfl (ltX (krX9_0 (krX10_0 (by decide +kernel : kdX 0 = 10))) (by decide)) (krX9_0 (krX10_0 (by decide +kernel : kdX 0 = 10))) (by decide) ⟨by decide, by decide⟩ (Nat.le_of_ble_eq_true rfl) (by decide +kernel) (c_X8_isAway F 2 (krX9_0 (krX10_0 (by decide +kernel : kdX 0 = 10))) a1 τ) (fun r1 τ2 => ?_)
    refine sm_ifeq 33 (off := 22) C (by decide +kernel) (by decide) (fun _ => ?_) (fun _ => ?_)
    · refine sm_seg C [(.iconst 0, 0)] (pc' := 34) (L' := [(0, .ref 0), (1, .int a1)]) (S' := [.int 0]) (by decide +kernel) rfl ?_
      exact sm_iret C hr rfl (by decide +kernel)
    · refine sm_seg C [(.aload_n 0, 0)] (pc' := 15) (L' := [(0, .ref 0), (1, .int a1)]) (S' := [.ref 0]) (by decide +kernel) rfl ?_
      refine sm_getR 10 0 1 cls10 C (ltX (by decide +kernel : kdX 0 = 10) (by decide)) (by decide +kernel : kdX 0 = 10) (obX10 (by decide +kernel : kdX 0 = 10)) (by decide) (frX10_0 (by decide +kernel : kdX 0 = 10)) fl10_12 (by decide +kernel) ?_
      refine sm_getR 9 0 2 cls9 C (ltX (krX10_0 (by decide +kernel : kdX 0 = 10)) (by decide)) (krX10_0 (by decide +kernel : kdX 0 = 10)) (obX9 (krX10_0 (by decide +kernel : kdX 0 = 10))) (by decide) (frX9_0 (krX10_0 (by decide +kernel : kdX 0 = 10))) fl10_60 (by decide +kernel) ?_
      refine sm_seg C [(.iload_n 1, 0)] (pc' := 22) (L' := [(0, .ref 0), (1, .int a1)]) (S' := [.int a1, .ref 2]) (by decide +kernel) rfl ?_
      refine sm_vcal [.int a1] [] rfl C mw_X8_nextThing ml_10_427 rfl (ci := 8) rfl (ltX (krX9_0 (krX10_0 (by decide +kernel : kdX 0 = 10))) (by decide)) (krX9_0 (krX10_0 (by decide +kernel : kdX 0 = 10))) (by decide) ⟨by decide, by decide⟩ (Nat.le_of_ble_eq_true rfl) (by decide +kernel) (c_X8_nextThing F 2 (krX9_0 (krX10_0 (by decide +kernel : kdX 0 = 10))) a1 τ2) (fun r3 τ4 => ?_)
      refine sm_seg C [(.iconst (-1), (-1))] (pc' := 26) (L' := [(0, .ref 0), (1, .int a1)]) (S' := [.int (-1), .int r3]) (by decide +kernel) rfl ?_
      refine sm_icmpeq 33 (off := 7) C (by decide +kernel) (by decide) (fun _ => ?_) (fun _ => ?_)
      · refine sm_seg C [(.iconst 0, 0)] (pc' := 34) (L' := [(0, .ref 0), (1, .int a1)]) (S' := [.int 0]) (by decide +kernel) rfl ?_
        exact sm_iret C hr rfl (by decide +kernel)
      · refine sm_seg C [(.iconst 1, 1), (.goto 4, 0)] (pc' := 34) (L' := [(0, .ref 0), (1, .int a1)]) (S' := [.int 1]) (by decide +kernel) rfl ?_
        exact sm_iret C hr rfl (by decide +kernel)) h
/-! BasketEnvoys.count -/
def X10_count (F : Nat) (a1 : Int32) (τ : Tau) : Option (Int32 × Tau) :=
  cal (X10_within F a1 1 99 τ) fun r1 τ2 => cal (X5_tell F 20 a1 r1 τ2) fun r3 τ4 => some (r3, τ4)
set_option maxRecDepth 20000 in
set_option maxHeartbeats 4000000 in
theorem c_X10_count (F : Nat) (a1 : Int32) (τ : Tau) (r : Int32) (τ' : Tau) (h : X10_count F a1 τ = some (r, τ')) : MCi sysX yX10_count cX10_count 2 (some .int) 3 [.ref 0, .int a1] τ r τ' :=
  mci_of (by decide +kernel) (Nat.le_of_ble_eq_true rfl) (fun K C hr => by
    show Sm K sysX 2 (Qi K sysX) (X10_count F a1 τ) 0 [(0, .ref 0), (1, .int a1)] [] τ
    unfold X10_count
    refine sm_seg C [(.aload_n 0, 0)] (pc' := 1) (L' := [(0, .ref 0), (1, .int a1)]) (S' := [.ref 0]) (by decide +kernel) rfl ?_
    refine sm_getR 10 0 1 cls10 C (ltX (by decide +kernel : kdX 0 = 10) (by decide)) (by decide +kernel : kdX 0 = 10) (obX10 (by decide +kernel : kdX 0 = 10)) (by decide) (frX10_0 (by decide +kernel : kdX 0 = 10)) fl10_12 (by decide +kernel) ?_
    refine sm_getR 9 1 15 cls9 C (ltX (krX10_0 (by decide +kernel : kdX 0 = 10)) (by decide)) (krX10_0 (by decide +kernel : kdX 0 = 10)) (obX9 (krX10_0 (by decide +kernel : kdX 0 = 10))) (by decide) (frX9_1 (krX10_0 (by decide +kernel : kdX 0 = 10))) fl10_243 (by decide +kernel) ?_
    refine sm_getR 7 2 20 cls7 C (ltX (krX9_1 (krX10_0 (by decide +kernel : kdX 0 = 10))) (by decide)) (krX9_1 (krX10_0 (by decide +kernel : kdX 0 = 10))) (obX7 (krX9_1 (krX10_0 (by decide +kernel : kdX 0 = 10)))) (by decide) (frX7_2 (krX9_1 (krX10_0 (by decide +kernel : kdX 0 = 10)))) fl10_283 (by decide +kernel) ?_
    refine sm_seg C [(.iload_n 1, 0), (.iload_n 1, 0), (.iconst 1, 1), (.bipush 99, 99)] (pc' := 15) (L' := [(0, .ref 0), (1, .int a1)]) (S' := [.int 99, .int 1, .int a1, .int a1, .ref 20]) (by decide +kernel) rfl ?_
    refine sm_scal [.int a1, .int 1, .int 99] [.int a1, .ref 20] rfl C mw_X10_within ml_10_70 rfl ⟨by decide, by decide⟩ (Nat.le_of_ble_eq_true rfl) (by decide +kernel) (c_X10_within F a1 1 99 τ) (fun r1 τ2 => ?_)
    refine sm_vcal [.int a1, .int r1] [] rfl C mw_X5_tell ml_10_253 rfl (ci := 5) rfl (ltX (krX7_2 (krX9_1 (krX10_0 (by decide +kernel : kdX 0 = 10)))) (by decide)) (krX7_2 (krX9_1 (krX10_0 (by decide +kernel : kdX 0 = 10)))) (by decide) ⟨by decide, by decide⟩ (Nat.le_of_ble_eq_true rfl) (by decide +kernel) (c_X5_tell F 20 (krX7_2 (krX9_1 (krX10_0 (by decide +kernel : kdX 0 = 10)))) a1 r1 τ2) (fun r3 τ4 => ?_)
    exact sm_iret C hr rfl (by decide +kernel)) h
/-! BasketEnvoys.sum -/
def X10_sum_L4 (F : Nat) (t0 : Nat) : Nat → Int32 → Int32 → Tau → Option (Int32 × Tau)
  | 0, _, _, _ => none
  | n + 1, a1, a2, τ =>
    if (Int32.ofNat (lnX t0)) ≤ a2 then (some (a1, τ)) else (ald τ t0 (lnX t0) a2 fun v1 => X10_sum_L4 F t0 n (a1 + v1) (a2 + 1) τ)
theorem s_X10_sum_L4 (F : Nat) (t0 : Nat) {K : Ctx} (C : Cx K sysX RX10 cX10_sum 3 1) (hr : Rt K (some .int)) (h0 : kdX t0 = 20) : ∀ (n : Nat) (a1 : Int32) (a2 : Int32) (τ : Tau), Sm K sysX 3 (Qi K sysX) (X10_sum_L4 F t0 n a1 a2 τ) 4 [(0, .ref t0), (1, .int a1), (2, .int a2)] [] τ := by
  intro n
  induction n with
  | zero => intro a1 a2 τ; exact sm_none
  | succ n ih =>
    intro a1 a2 τ
    rw [X10_sum_L4]
    refine sm_seg C [(.iload_n 2, 0), (.aload_n 0, 0)] (pc' := 6) (L' := [(0, .ref t0), (1, .int a1), (2, .int a2)]) (S' := [.ref t0, .int a2]) (by decide +kernel) rfl ?_
    refine sm_alen 20 0 (lnX t0) (fun _ => rfl) C (ltX h0 (by decide)) h0 (by decide) (by decide) rfl rfl (by decide +kernel) ?_
    refine sm_icmpge 22 (off := 15) C (by decide +kernel) (by decide) (fun _ => ?_) (fun _ => ?_)
    · refine sm_seg C [(.iload_n 1, 0)] (pc' := 23) (L' := [(0, .ref t0), (1, .int a1), (2, .int a2)]) (S' := [.int a1]) (by decide +kernel) rfl ?_
      exact sm_iret C hr rfl (by decide +kernel)
    · refine sm_seg C [(.iload_n 1, 0), (.aload_n 0, 0), (.iload_n 2, 0)] (pc' := 13) (L' := [(0, .ref t0), (1, .int a1), (2, .int a2)]) (S' := [.int a2, .ref t0, .int a1]) (by decide +kernel) rfl ?_
      refine sm_ald (lnX t0) C (ltX h0 (by decide)) h0 rfl (by decide +kernel) (fun v1 => ?_)
      refine sm_seg C [(.iadd, 0), (.istore_n 1, 0), (.iinc 2 1, 1), (.goto (-15), 0)] (pc' := 4) (L' := [(2, .int (a2 + 1)), (1, .int (a1 + v1)), (0, .ref t0)]) (S' := []) (by decide +kernel) rfl ?_
      exact sm_sub [2, 1, 0] rfl (ih (a1 + v1) (a2 + 1) τ)
def X10_sum (F : Nat) (t0 : Nat) (τ : Tau) : Option (Int32 × Tau) :=
  X10_sum_L4 F t0 F 0 0 τ
set_option maxRecDepth 20000 in
set_option maxHeartbeats 4000000 in
theorem c_X10_sum (F : Nat) (t0 : Nat) (h0 : kdX t0 = 20) (τ : Tau) (r : Int32) (τ' : Tau) (h : X10_sum F t0 τ = some (r, τ')) : MCi sysX yX10_sum cX10_sum 3 (some .int) 1 [.ref t0] τ r τ' :=
  mci_of (by decide +kernel) (Nat.le_of_ble_eq_true rfl) (fun K C hr => by
    show Sm K sysX 3 (Qi K sysX) (X10_sum F t0 τ) 0 [(0, .ref t0)] [] τ
    unfold X10_sum
    refine sm_seg C [(.iconst 0, 0), (.istore_n 1, 0), (.iconst 0, 0), (.istore_n 2, 0)] (pc' := 4) (L' := [(2, .int 0), (1, .int 0), (0, .ref t0)]) (S' := []) (by decide +kernel) rfl ?_
    exact sm_sub [2, 1, 0] rfl (s_X10_sum_L4 F t0 C hr h0 F 0 0 τ)) h
/-! BasketEnvoys_World.courtAt -/
def X9_courtAt (F : Nat) (t0 : Nat) (a1 : Int32) (a2 : Int32) (τ : Tau) : Option (Int32 × Tau) :=
  cal (X10_entry F (t0 + 48) ((4 * a1) + a2) τ) fun r1 τ2 => some (r1, τ2)
set_option maxRecDepth 20000 in
set_option maxHeartbeats 4000000 in
theorem c_X9_courtAt (F : Nat) (t0 : Nat) (h0 : kdX t0 = 9) (a1 : Int32) (a2 : Int32) (τ : Tau) (r : Int32) (τ' : Tau) (h : X9_courtAt F t0 a1 a2 τ = some (r, τ')) : MCi sysX yX9_courtAt cX9_courtAt 3 (some .int) 2 [.ref t0, .int a1, .int a2] τ r τ' :=
  mci_of (by decide +kernel) (Nat.le_of_ble_eq_true rfl) (fun K C hr => by
    show Sm K sysX 3 (Qi K sysX) (X9_courtAt F t0 a1 a2 τ) 0 [(0, .ref t0), (1, .int a1), (2, .int a2)] [] τ
    unfold X9_courtAt
    refine sm_seg C [(.aload_n 0, 0)] (pc' := 1) (L' := [(0, .ref t0), (1, .int a1), (2, .int a2)]) (S' := [.ref t0]) (by decide +kernel) rfl ?_
    refine sm_getR 9 6 (t0 + 48) cls9 C (ltX h0 (by decide)) h0 (obX9 h0) (by decide) (frX9_6 h0) fl9_42 (by decide +kernel) ?_
    refine sm_seg C [(.iconst 4, 4), (.iload_n 1, 0), (.imul, 0), (.iload_n 2, 0), (.iadd, 0)] (pc' := 9) (L' := [(0, .ref t0), (1, .int a1), (2, .int a2)]) (S' := [.int ((4 * a1) + a2), .ref (t0 + 48)]) (by decide +kernel) rfl ?_
    refine sm_ncal "BasketEnvoys" [.ref (t0 + 48), .int ((4 * a1) + a2)] [] rfl C mw_X10_entry ml_9_78 rfl ⟨by decide, by decide⟩ (Nat.le_of_ble_eq_true rfl) (by decide +kernel) (c_X10_entry F (t0 + 48) (krX9_6 h0) ((4 * a1) + a2) τ) (fun r1 τ2 => ?_)
    exact sm_iret C hr rfl (by decide +kernel)) h
/-! BasketEnvoys_Course.addTrust -/
def X0_addTrust (F : Nat) (t1 : Nat) (a2 : Int32) (a3 : Int32) (τ : Tau) : Option (Int32 × Tau) :=
  cal (X8_hasPower F t1 a2 τ) fun r1 τ2 => if r1 = 0 then (some (0, τ2)) else (ald τ2 (t1 + 1) 10 a2 fun v3 => ast τ2 (t1 + 1) 10 a2 (imin 99 (v3 + a3)) fun τ4 => some (0, τ4))
set_option maxRecDepth 20000 in
set_option maxHeartbeats 4000000 in
theorem c_X0_addTrust (F : Nat) (t1 : Nat) (h1 : kdX t1 = 8) (a2 : Int32) (a3 : Int32) (τ : Tau) (r : Int32) (τ' : Tau) (h : X0_addTrust F t1 a2 a3 τ = some (r, τ')) : MCv sysX yX0_addTrust cX0_addTrust 4 2 [.ref 211, .ref t1, .int a2, .int a3] τ τ' :=
  mcv_of (by decide +kernel) (Nat.le_of_ble_eq_true rfl) (fun K C hr => by
    show Sm K sysX 4 (Qv K sysX) (X0_addTrust F t1 a2 a3 τ) 0 [(0, .ref 211), (1, .ref t1), (2, .int a2), (3, .int a3)] [] τ
    unfold X0_addTrust
    refine sm_seg C [(.aload_n 1, 0), (.iload_n 2, 0)] (pc' := 2) (L' := [(0, .ref 211), (1, .ref t1), (2, .int a2), (3, .int a3)]) (S' := [.int a2, .ref t1]) (by decide +kernel) rfl ?_
    refine sm_vcal [.int a2] [] rfl C mw_X8_hasPower ml_0_94 rfl (ci := 8) rfl (ltX h1 (by decide)) h1 (by decide) ⟨by decide, by decide⟩ (Nat.le_of_ble_eq_true rfl) (by decide +kernel) (c_X8_hasPower F t1 h1 a2 τ) (fun r1 τ2 => ?_)
    refine sm_ifeq 27 (off := 22) C (by decide +kernel) (by decide) (fun _ => ?_) (fun _ => ?_)
    · exact sm_vret C hr (by decide +kernel)
    · refine sm_seg C [(.aload_n 1, 0)] (pc' := 9) (L' := [(0, .ref 211), (1, .ref t1), (2, .int a2), (3, .int a3)]) (S' := [.ref t1]) (by decide +kernel) rfl ?_
      refine sm_getR 8 7 (t1 + 1) cls8 C (ltX h1 (by decide)) h1 (obX8 h1) (by decide) (frX8_7 h1) fl0_97 (by decide +kernel) ?_
      refine sm_seg C [(.iload_n 2, 0), (.bipush 99, 99), (.aload_n 1, 0)] (pc' := 16) (L' := [(0, .ref 211), (1, .ref t1), (2, .int a2), (3, .int a3)]) (S' := [.ref t1, .int 99, .int a2, .ref (t1 + 1)]) (by decide +kernel) rfl ?_
      refine sm_getR 8 7 (t1 + 1) cls8 C (ltX h1 (by decide)) h1 (obX8 h1) (by decide) (frX8_7 h1) fl0_97 (by decide +kernel) ?_
      refine sm_seg C [(.iload_n 2, 0)] (pc' := 20) (L' := [(0, .ref 211), (1, .ref t1), (2, .int a2), (3, .int a3)]) (S' := [.int a2, .ref (t1 + 1), .int 99, .int a2, .ref (t1 + 1)]) (by decide +kernel) rfl ?_
      refine sm_ald 10 C (ltX (krX8_7 h1) (by decide)) (krX8_7 h1) (nrX8_7 h1) (by decide +kernel) (fun v3 => ?_)
      refine sm_seg C [(.iload_n 3, 0), (.iadd, 0)] (pc' := 23) (L' := [(0, .ref 211), (1, .ref t1), (2, .int a2), (3, .int a3)]) (S' := [.int (v3 + a3), .int 99, .int a2, .ref (t1 + 1)]) (by decide +kernel) rfl ?_
      refine sm_min C (by decide) ml_0_100 jw_mins jw_math jw_minc (Nat.le_of_ble_eq_true rfl) (by decide +kernel) ?_
      refine sm_ast 10 C (ltX (krX8_7 h1) (by decide)) (krX8_7 h1) (nrX8_7 h1) (by decide +kernel) (fun τ4 => ?_)
      exact sm_vret C hr (by decide +kernel)) h
/-! BasketEnvoys_Course.follow -/
def X0_follow (F : Nat) (t1 : Nat) (a2 : Int32) (a3 : Int32) (τ : Tau) : Option (Int32 × Tau) :=
  cal (X9_courtAt F 1 a2 2 τ) fun r1 τ2 => cal (X9_courtAt F 1 a2 3 τ2) fun r3 τ4 => cal (X9_courtAt F 1 a2 1 τ4) fun r5 τ6 => if r5 = 1 then (cal (X0_sendTo F t1 r1 r3 a3 τ6) fun r7 τ8 => some (0, τ8)) else if r5 = 2 then (cal (X0_goHome F t1 r1 a3 τ6) fun r9 τ10 => some (0, τ10)) else if r5 = 3 then (cal (X0_addTrust F t1 r1 r3 τ6) fun r11 τ12 => some (0, τ12)) else if r5 = 4 then (cal (X10_put F (t1 + 6) r1 r3 1 τ6) fun r13 τ14 => some (0, τ14)) else (some (0, τ6))
set_option maxRecDepth 20000 in
set_option maxHeartbeats 4000000 in
theorem c_X0_follow (F : Nat) (t1 : Nat) (h1 : kdX t1 = 8) (a2 : Int32) (a3 : Int32) (τ : Tau) (r : Int32) (τ' : Tau) (h : X0_follow F t1 a2 a3 τ = some (r, τ')) : MCv sysX yX0_follow cX0_follow 6 4 [.ref 211, .ref t1, .int a2, .int a3] τ τ' :=
  mcv_of (by decide +kernel) (Nat.le_of_ble_eq_true rfl) (fun K C hr => by
    show Sm K sysX 6 (Qv K sysX) (X0_follow F t1 a2 a3 τ) 0 [(0, .ref 211), (1, .ref t1), (2, .int a2), (3, .int a3)] [] τ
    unfold X0_follow
    refine sm_seg C [(.aload_n 0, 0)] (pc' := 1) (L' := [(0, .ref 211), (1, .ref t1), (2, .int a2), (3, .int a3)]) (S' := [.ref 211]) (by decide +kernel) rfl ?_
    refine sm_getR 0 0 1 cls0 C (ltX (by decide +kernel : kdX 211 = 0) (by decide)) (by decide +kernel : kdX 211 = 0) (obX0 (by decide +kernel : kdX 211 = 0)) (by decide) (frX0_0 (by decide +kernel : kdX 211 = 0)) fl0_15 (by decide +kernel) ?_
    refine sm_seg C [(.iload_n 2, 0), (.iconst 2, 2)] (pc' := 6) (L' := [(0, .ref 211), (1, .ref t1), (2, .int a2), (3, .int a3)]) (S' := [.int 2, .int a2, .ref 1]) (by decide +kernel) rfl ?_
    refine sm_vcal [.int a2, .int 2] [] rfl C mw_X9_courtAt ml_0_53 rfl (ci := 9) rfl (ltX (krX0_0 (by decide +kernel : kdX 211 = 0)) (by decide)) (krX0_0 (by decide +kernel : kdX 211 = 0)) (by decide) ⟨by decide, by decide⟩ (Nat.le_of_ble_eq_true rfl) (by decide +kernel) (c_X9_courtAt F 1 (krX0_0 (by decide +kernel : kdX 211 = 0)) a2 2 τ) (fun r1 τ2 => ?_)
    refine sm_seg C [(.istore 4, 0), (.aload_n 0, 0)] (pc' := 12) (L' := [(4, .int r1), (0, .ref 211), (1, .ref t1), (2, .int a2), (3, .int a3)]) (S' := [.ref 211]) (by decide +kernel) rfl ?_
    refine sm_getR 0 0 1 cls0 C (ltX (by decide +kernel : kdX 211 = 0) (by decide)) (by decide +kernel : kdX 211 = 0) (obX0 (by decide +kernel : kdX 211 = 0)) (by decide) (frX0_0 (by decide +kernel : kdX 211 = 0)) fl0_15 (by decide +kernel) ?_
    refine sm_seg C [(.iload_n 2, 0), (.iconst 3, 3)] (pc' := 17) (L' := [(4, .int r1), (0, .ref 211), (1, .ref t1), (2, .int a2), (3, .int a3)]) (S' := [.int 3, .int a2, .ref 1]) (by decide +kernel) rfl ?_
    refine sm_vcal [.int a2, .int 3] [] rfl C mw_X9_courtAt ml_0_53 rfl (ci := 9) rfl (ltX (krX0_0 (by decide +kernel : kdX 211 = 0)) (by decide)) (krX0_0 (by decide +kernel : kdX 211 = 0)) (by decide) ⟨by decide, by decide⟩ (Nat.le_of_ble_eq_true rfl) (by decide +kernel) (c_X9_courtAt F 1 (krX0_0 (by decide +kernel : kdX 211 = 0)) a2 3 τ2) (fun r3 τ4 => ?_)
    refine sm_seg C [(.istore 5, 0), (.aload_n 0, 0)] (pc' := 23) (L' := [(5, .int r3), (4, .int r1), (0, .ref 211), (1, .ref t1), (2, .int a2), (3, .int a3)]) (S' := [.ref 211]) (by decide +kernel) rfl ?_
    refine sm_getR 0 0 1 cls0 C (ltX (by decide +kernel : kdX 211 = 0) (by decide)) (by decide +kernel : kdX 211 = 0) (obX0 (by decide +kernel : kdX 211 = 0)) (by decide) (frX0_0 (by decide +kernel : kdX 211 = 0)) fl0_15 (by decide +kernel) ?_
    refine sm_seg C [(.iload_n 2, 0), (.iconst 1, 1)] (pc' := 28) (L' := [(5, .int r3), (4, .int r1), (0, .ref 211), (1, .ref t1), (2, .int a2), (3, .int a3)]) (S' := [.int 1, .int a2, .ref 1]) (by decide +kernel) rfl ?_
    refine sm_vcal [.int a2, .int 1] [] rfl C mw_X9_courtAt ml_0_53 rfl (ci := 9) rfl (ltX (krX0_0 (by decide +kernel : kdX 211 = 0)) (by decide)) (krX0_0 (by decide +kernel : kdX 211 = 0)) (by decide) ⟨by decide, by decide⟩ (Nat.le_of_ble_eq_true rfl) (by decide +kernel) (c_X9_courtAt F 1 (krX0_0 (by decide +kernel : kdX 211 = 0)) a2 1 τ4) (fun r5 τ6 => ?_)
    have hd31 : decode cX0_follow 31 = .ok (.tableswitch 81 1 4 #[29, 42, 53, 65], 29) := by decide +kernel
    refine sm_ite (fun e => ?_) (fun n31_0 => ?_)
    · refine sm_tabIn (off := 29) 60 C hd31 (by rw [e]; decide) (by rw [e]; decide) (by rw [e]; decide) (by decide) ?_
      refine sm_seg C [(.aload_n 0, 0), (.aload_n 1, 0), (.iload 4, 0), (.iload 5, 0), (.iload_n 3, 0)] (pc' := 67) (L' := [(5, .int r3), (4, .int r1), (0, .ref 211), (1, .ref t1), (2, .int a2), (3, .int a3)]) (S' := [.int a3, .int r3, .int r1, .ref t1, .ref 211]) (by decide +kernel) rfl ?_
      refine sm_vcalv [.ref t1, .int r1, .int r3, .int a3] [] rfl C mw_X0_sendTo ml_0_25 rfl (ci := 0) rfl (ltX (by decide +kernel : kdX 211 = 0) (by decide)) (by decide +kernel : kdX 211 = 0) (by decide) ⟨by decide, by decide⟩ (Nat.le_of_ble_eq_true rfl) (by decide +kernel) (c_X0_sendTo F t1 h1 r1 r3 a3 τ6) (fun r7 τ8 => ?_)
      refine sm_seg C [(.goto 42, 0)] (pc' := 112) (L' := [(5, .int r3), (4, .int r1), (0, .ref 211), (1, .ref t1), (2, .int a2), (3, .int a3)]) (S' := []) (by decide +kernel) rfl ?_
      exact sm_vret C hr (by decide +kernel)
    refine sm_ite (fun e => ?_) (fun n31_1 => ?_)
    · refine sm_tabIn (off := 42) 73 C hd31 (by rw [e]; decide) (by rw [e]; decide) (by rw [e]; decide) (by decide) ?_
      refine sm_seg C [(.aload_n 0, 0), (.aload_n 1, 0), (.iload 4, 0), (.iload_n 3, 0)] (pc' := 78) (L' := [(5, .int r3), (4, .int r1), (0, .ref 211), (1, .ref t1), (2, .int a2), (3, .int a3)]) (S' := [.int a3, .int r1, .ref t1, .ref 211]) (by decide +kernel) rfl ?_
      refine sm_vcalv [.ref t1, .int r1, .int a3] [] rfl C mw_X0_goHome ml_0_29 rfl (ci := 0) rfl (ltX (by decide +kernel : kdX 211 = 0) (by decide)) (by decide +kernel : kdX 211 = 0) (by decide) ⟨by decide, by decide⟩ (Nat.le_of_ble_eq_true rfl) (by decide +kernel) (c_X0_goHome F t1 h1 r1 a3 τ6) (fun r9 τ10 => ?_)
      refine sm_seg C [(.goto 31, 0)] (pc' := 112) (L' := [(5, .int r3), (4, .int r1), (0, .ref 211), (1, .ref t1), (2, .int a2), (3, .int a3)]) (S' := []) (by decide +kernel) rfl ?_
      exact sm_vret C hr (by decide +kernel)
    refine sm_ite (fun e => ?_) (fun n31_2 => ?_)
    · refine sm_tabIn (off := 53) 84 C hd31 (by rw [e]; decide) (by rw [e]; decide) (by rw [e]; decide) (by decide) ?_
      refine sm_seg C [(.aload_n 0, 0), (.aload_n 1, 0), (.iload 4, 0), (.iload 5, 0)] (pc' := 90) (L' := [(5, .int r3), (4, .int r1), (0, .ref 211), (1, .ref t1), (2, .int a2), (3, .int a3)]) (S' := [.int r3, .int r1, .ref t1, .ref 211]) (by decide +kernel) rfl ?_
      refine sm_vcalv [.ref t1, .int r1, .int r3] [] rfl C mw_X0_addTrust ml_0_74 rfl (ci := 0) rfl (ltX (by decide +kernel : kdX 211 = 0) (by decide)) (by decide +kernel : kdX 211 = 0) (by decide) ⟨by decide, by decide⟩ (Nat.le_of_ble_eq_true rfl) (by decide +kernel) (c_X0_addTrust F t1 h1 r1 r3 τ6) (fun r11 τ12 => ?_)
      refine sm_seg C [(.goto 19, 0)] (pc' := 112) (L' := [(5, .int r3), (4, .int r1), (0, .ref 211), (1, .ref t1), (2, .int a2), (3, .int a3)]) (S' := []) (by decide +kernel) rfl ?_
      exact sm_vret C hr (by decide +kernel)
    refine sm_ite (fun e => ?_) (fun n31_3 => ?_)
    · refine sm_tabIn (off := 65) 96 C hd31 (by rw [e]; decide) (by rw [e]; decide) (by rw [e]; decide) (by decide) ?_
      refine sm_seg C [(.aload_n 1, 0)] (pc' := 97) (L' := [(5, .int r3), (4, .int r1), (0, .ref 211), (1, .ref t1), (2, .int a2), (3, .int a3)]) (S' := [.ref t1]) (by decide +kernel) rfl ?_
      refine sm_getR 8 12 (t1 + 6) cls8 C (ltX h1 (by decide)) h1 (obX8 h1) (by decide) (frX8_12 h1) fl0_78 (by decide +kernel) ?_
      refine sm_seg C [(.iload 4, 0), (.iload 5, 0), (.iconst 1, 1)] (pc' := 105) (L' := [(5, .int r3), (4, .int r1), (0, .ref 211), (1, .ref t1), (2, .int a2), (3, .int a3)]) (S' := [.int 1, .int r3, .int r1, .ref (t1 + 6)]) (by decide +kernel) rfl ?_
      refine sm_ncal "BasketEnvoys" [.ref (t1 + 6), .int r1, .int r3, .int 1] [] rfl C mw_X10_put ml_0_42 rfl ⟨by decide, by decide⟩ (Nat.le_of_ble_eq_true rfl) (by decide +kernel) (c_X10_put F (t1 + 6) (krX8_12 h1) r1 r3 1 τ6) (fun r13 τ14 => ?_)
      refine sm_seg C [(.pop, 0), (.goto 3, 0)] (pc' := 112) (L' := [(5, .int r3), (4, .int r1), (0, .ref 211), (1, .ref t1), (2, .int a2), (3, .int a3)]) (S' := []) (by decide +kernel) rfl ?_
      exact sm_vret C hr (by decide +kernel)
    refine sm_tabOut 112 C hd31 (by have q0 := toInt_neZ (z := 1) n31_0 (by decide); have q1 := toInt_neZ (z := 2) n31_1 (by decide); have q2 := toInt_neZ (z := 3) n31_2 (by decide); have q3 := toInt_neZ (z := 4) n31_3 (by decide); omega) (by decide) ?_
    exact sm_vret C hr (by decide +kernel)) h
