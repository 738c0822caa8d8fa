/-! BasketEnvoys_Course.cryOut -/
def X0_cryOut_j48 (F : Nat) (t1 : Nat) (a2 : Int32) (a3 : Int32) (a4 : Int32) (τ : Tau) : Option (Int32 × Tau) :=
  cal (X10_put F (t1 + 1) a4 0 1 τ) fun r5 τ6 => cal (X10_put F (t1 + 2) a4 0 1 τ6) fun r7 τ8 => cal (X10_put F (t1 + 8) a2 (-1) 1 τ8) fun r9 τ10 => if a3 = 0 then (some (0, τ10)) else (cal (X9_write F 1 4 a2 (τ10 t1 2) τ10) fun r11 τ12 => some (0, τ12))
theorem s_X0_cryOut_j48 (F : Nat) (t1 : Nat) {K : Ctx} (C : Cx K sysX RX0 cX0_cryOut 5 2) (hr : Rt K none) (h1 : kdX t1 = 8) (a2 : Int32) (a3 : Int32) (a4 : Int32) (τ : Tau) : Sm K sysX 5 (Qv K sysX) (X0_cryOut_j48 F t1 a2 a3 a4 τ) 48 [(0, .ref 211), (1, .ref t1), (2, .int a2), (3, .int a3), (4, .int a4)] [] τ := by
  unfold X0_cryOut_j48
  refine sm_seg C [(.aload_n 1, 0)] (pc' := 49) (L' := [(0, .ref 211), (1, .ref t1), (2, .int a2), (3, .int a3), (4, .int a4)]) (S' := [.ref t1]) (by decide +kernel) rfl ?_
  refine sm_getR 8 7 (t1 + 1) cls8 C (ltX h1 (by decide)) h1 (obX8 h1) (by decide) (frX8_7 h1) fl0_97 (by decide +kernel) ?_
  refine sm_seg C [(.iload 4, 0), (.iconst 0, 0), (.iconst 1, 1)] (pc' := 56) (L' := [(0, .ref 211), (1, .ref t1), (2, .int a2), (3, .int a3), (4, .int a4)]) (S' := [.int 1, .int 0, .int a4, .ref (t1 + 1)]) (by decide +kernel) rfl ?_
  refine sm_ncal "BasketEnvoys" [.ref (t1 + 1), .int a4, .int 0, .int 1] [] rfl C mw_X10_put ml_0_42 rfl ⟨by decide, by decide⟩ (Nat.le_of_ble_eq_true rfl) (by decide +kernel) (c_X10_put F (t1 + 1) (krX8_7 h1) a4 0 1 τ) (fun r5 τ6 => ?_)
  refine sm_seg C [(.pop, 0), (.aload_n 1, 0)] (pc' := 61) (L' := [(0, .ref 211), (1, .ref t1), (2, .int a2), (3, .int a3), (4, .int a4)]) (S' := [.ref t1]) (by decide +kernel) rfl ?_
  refine sm_getR 8 8 (t1 + 2) cls8 C (ltX h1 (by decide)) h1 (obX8 h1) (by decide) (frX8_8 h1) fl0_139 (by decide +kernel) ?_
  refine sm_seg C [(.iload 4, 0), (.iconst 0, 0), (.iconst 1, 1)] (pc' := 68) (L' := [(0, .ref 211), (1, .ref t1), (2, .int a2), (3, .int a3), (4, .int a4)]) (S' := [.int 1, .int 0, .int a4, .ref (t1 + 2)]) (by decide +kernel) rfl ?_
  refine sm_ncal "BasketEnvoys" [.ref (t1 + 2), .int a4, .int 0, .int 1] [] rfl C mw_X10_put ml_0_42 rfl ⟨by decide, by decide⟩ (Nat.le_of_ble_eq_true rfl) (by decide +kernel) (c_X10_put F (t1 + 2) (krX8_8 h1) a4 0 1 τ6) (fun r7 τ8 => ?_)
  refine sm_seg C [(.pop, 0), (.aload_n 1, 0)] (pc' := 73) (L' := [(0, .ref 211), (1, .ref t1), (2, .int a2), (3, .int a3), (4, .int a4)]) (S' := [.ref t1]) (by decide +kernel) rfl ?_
  refine sm_getR 8 14 (t1 + 8) cls8 C (ltX h1 (by decide)) h1 (obX8 h1) (by decide) (frX8_14 h1) fl0_84 (by decide +kernel) ?_
  refine sm_seg C [(.iload_n 2, 0), (.iconst (-1), (-1)), (.iconst 1, 1)] (pc' := 79) (L' := [(0, .ref 211), (1, .ref t1), (2, .int a2), (3, .int a3), (4, .int a4)]) (S' := [.int 1, .int (-1), .int a2, .ref (t1 + 8)]) (by decide +kernel) rfl ?_
  refine sm_ncal "BasketEnvoys" [.ref (t1 + 8), .int a2, .int (-1), .int 1] [] rfl C mw_X10_put ml_0_42 rfl ⟨by decide, by decide⟩ (Nat.le_of_ble_eq_true rfl) (by decide +kernel) (c_X10_put F (t1 + 8) (krX8_14 h1) a2 (-1) 1 τ8) (fun r9 τ10 => ?_)
  refine sm_seg C [(.pop, 0), (.iload_n 3, 0)] (pc' := 84) (L' := [(0, .ref 211), (1, .ref t1), (2, .int a2), (3, .int a3), (4, .int a4)]) (S' := [.int a3]) (by decide +kernel) rfl ?_
  refine sm_ifeq 100 (off := 16) C (by decide +kernel) (by decide) (fun _ => ?_) (fun _ => ?_)
  · exact sm_vret C hr (by decide +kernel)
  · refine sm_seg C [(.aload_n 0, 0)] (pc' := 88) (L' := [(0, .ref 211), (1, .ref t1), (2, .int a2), (3, .int a3), (4, .int a4)]) (S' := [.ref 211]) (by decide +kernel) rfl ?_
    refine sm_getR 0 0 1 cls0 C (ltX (by decide +kernel : kdX 211 = 0) (by decide)) (by decide +kernel : kdX 211 = 0) (obX0 (by decide +kernel : kdX 211 = 0)) (by decide) (frX0_0 (by decide +kernel : kdX 211 = 0)) fl0_15 (by decide +kernel) ?_
    refine sm_seg C [(.iconst 4, 4), (.iload_n 2, 0), (.aload_n 1, 0)] (pc' := 94) (L' := [(0, .ref 211), (1, .ref t1), (2, .int a2), (3, .int a3), (4, .int a4)]) (S' := [.ref t1, .int a2, .int 4, .ref 1]) (by decide +kernel) rfl ?_
    refine sm_getI 8 2 cls8 C (ltX h1 (by decide)) h1 (obX8 h1) (by decide) (fiX8_2 h1) fl0_133 (by decide +kernel) ?_
    refine sm_vcalv [.int 4, .int a2, .int (τ10 t1 2)] [] rfl C mw_X9_write ml_0_90 rfl (ci := 9) rfl (ltX (krX0_0 (by decide +kernel : kdX 211 = 0)) (by decide)) (krX0_0 (by decide +kernel : kdX 211 = 0)) (by decide) ⟨by decide, by decide⟩ (Nat.le_of_ble_eq_true rfl) (by decide +kernel) (c_X9_write F 1 (krX0_0 (by decide +kernel : kdX 211 = 0)) 4 a2 (τ10 t1 2) τ10) (fun r11 τ12 => ?_)
    exact sm_vret C hr (by decide +kernel)
def X0_cryOut (F : Nat) (t1 : Nat) (a2 : Int32) (a3 : Int32) (τ : Tau) : Option (Int32 × Tau) :=
  cal (X10_entry F (t1 + 8) a2 τ) fun r1 τ2 => cal (X10_put F (t1 + 9) a2 1 1 τ2) fun r3 τ4 => if (τ4 t1 2) ≤ 0 then (X0_cryOut_j48 F t1 a2 a3 r1 τ4) else (pst τ4 t1 2 ((τ4 t1 2) - 1) fun τ13 => pst τ13 t1 3 ((τ13 t1 3) + 1) fun τ14 => X0_cryOut_j48 F t1 a2 a3 r1 τ14)
set_option maxRecDepth 20000 in
set_option maxHeartbeats 4000000 in
theorem c_X0_cryOut (F : Nat) (t1 : Nat) (h1 : kdX t1 = 8) (a2 : Int32) (a3 : Int32) (τ : Tau) (r : Int32) (τ' : Tau) (h : X0_cryOut F t1 a2 a3 τ = some (r, τ')) : MCv sysX yX0_cryOut cX0_cryOut 5 2 [.ref 211, .ref t1, .int a2, .int a3] τ τ' :=
  mcv_of (by decide +kernel) (Nat.le_of_ble_eq_true rfl) (fun K C hr => by
    show Sm K sysX 5 (Qv K sysX) (X0_cryOut F t1 a2 a3 τ) 0 [(0, .ref 211), (1, .ref t1), (2, .int a2), (3, .int a3)] [] τ
    unfold X0_cryOut
    refine sm_seg C [(.aload_n 1, 0)] (pc' := 1) (L' := [(0, .ref 211), (1, .ref t1), (2, .int a2), (3, .int a3)]) (S' := [.ref t1]) (by decide +kernel) rfl ?_
    refine sm_getR 8 14 (t1 + 8) cls8 C (ltX h1 (by decide)) h1 (obX8 h1) (by decide) (frX8_14 h1) fl0_84 (by decide +kernel) ?_
    refine sm_seg C [(.iload_n 2, 0)] (pc' := 5) (L' := [(0, .ref 211), (1, .ref t1), (2, .int a2), (3, .int a3)]) (S' := [.int a2, .ref (t1 + 8)]) (by decide +kernel) rfl ?_
    refine sm_ncal "BasketEnvoys" [.ref (t1 + 8), .int a2] [] rfl C mw_X10_entry ml_0_129 rfl ⟨by decide, by decide⟩ (Nat.le_of_ble_eq_true rfl) (by decide +kernel) (c_X10_entry F (t1 + 8) (krX8_14 h1) a2 τ) (fun r1 τ2 => ?_)
    refine sm_seg C [(.istore 4, 0), (.aload_n 1, 0)] (pc' := 11) (L' := [(4, .int r1), (0, .ref 211), (1, .ref t1), (2, .int a2), (3, .int a3)]) (S' := [.ref t1]) (by decide +kernel) rfl ?_
    refine sm_getR 8 15 (t1 + 9) cls8 C (ltX h1 (by decide)) h1 (obX8 h1) (by decide) (frX8_15 h1) fl0_113 (by decide +kernel) ?_
    refine sm_seg C [(.iload_n 2, 0), (.iconst 1, 1), (.iconst 1, 1)] (pc' := 17) (L' := [(4, .int r1), (0, .ref 211), (1, .ref t1), (2, .int a2), (3, .int a3)]) (S' := [.int 1, .int 1, .int a2, .ref (t1 + 9)]) (by decide +kernel) rfl ?_
    refine sm_ncal "BasketEnvoys" [.ref (t1 + 9), .int a2, .int 1, .int 1] [] rfl C mw_X10_put ml_0_42 rfl ⟨by decide, by decide⟩ (Nat.le_of_ble_eq_true rfl) (by decide +kernel) (c_X10_put F (t1 + 9) (krX8_15 h1) a2 1 1 τ2) (fun r3 τ4 => ?_)
    refine sm_seg C [(.pop, 0), (.aload_n 1, 0)] (pc' := 22) (L' := [(4, .int r1), (0, .ref 211), (1, .ref t1), (2, .int a2), (3, .int a3)]) (S' := [.ref t1]) (by decide +kernel) rfl ?_
    refine sm_getI 8 2 cls8 C (ltX h1 (by decide)) h1 (obX8 h1) (by decide) (fiX8_2 h1) fl0_133 (by decide +kernel) ?_
    refine sm_ifle 48 (off := 23) C (by decide +kernel) (by decide) (fun _ => ?_) (fun _ => ?_)
    · exact sm_sub [1, 2, 3, 4, 0] rfl (s_X0_cryOut_j48 F t1 C hr h1 a2 a3 r1 τ4)
    · refine sm_seg C [(.aload_n 1, 0), (.dup, 0)] (pc' := 30) (L' := [(4, .int r1), (0, .ref 211), (1, .ref t1), (2, .int a2), (3, .int a3)]) (S' := [.ref t1, .ref t1]) (by decide +kernel) rfl ?_
      refine sm_getI 8 2 cls8 C (ltX h1 (by decide)) h1 (obX8 h1) (by decide) (fiX8_2 h1) fl0_133 (by decide +kernel) ?_
      refine sm_seg C [(.iconst 1, 1), (.isub, 0)] (pc' := 35) (L' := [(4, .int r1), (0, .ref 211), (1, .ref t1), (2, .int a2), (3, .int a3)]) (S' := [.int ((τ4 t1 2) - 1), .ref t1]) (by decide +kernel) rfl ?_
      refine sm_pst 8 2 cls8 C (ltX h1 (by decide)) h1 (obX8 h1) (by decide) (fiX8_2 h1) rfl rfl rfl fl0_133 (by decide +kernel) (fun τ13 => ?_)
      refine sm_seg C [(.aload_n 1, 0), (.dup, 0)] (pc' := 40) (L' := [(4, .int r1), (0, .ref 211), (1, .ref t1), (2, .int a2), (3, .int a3)]) (S' := [.ref t1, .ref t1]) (by decide +kernel) rfl ?_
      refine sm_getI 8 3 cls8 C (ltX h1 (by decide)) h1 (obX8 h1) (by decide) (fiX8_3 h1) fl0_136 (by decide +kernel) ?_
      refine sm_seg C [(.iconst 1, 1), (.iadd, 0)] (pc' := 45) (L' := [(4, .int r1), (0, .ref 211), (1, .ref t1), (2, .int a2), (3, .int a3)]) (S' := [.int ((τ13 t1 3) + 1), .ref t1]) (by decide +kernel) rfl ?_
      refine sm_pst 8 3 cls8 C (ltX h1 (by decide)) h1 (obX8 h1) (by decide) (fiX8_3 h1) rfl rfl rfl fl0_136 (by decide +kernel) (fun τ14 => ?_)
      exact sm_sub [1, 2, 3, 4, 0] rfl (s_X0_cryOut_j48 F t1 C hr h1 a2 a3 r1 τ14)) h
/-! BasketEnvoys_World.wantedBy -/
def X9_wantedBy (F : Nat) (t0 : Nat) (a1 : Int32) (τ : Tau) : Option (Int32 × Tau) :=
  cal (X10_entry F (t0 + 50) a1 τ) fun r1 τ2 => some (r1, τ2)
set_option maxRecDepth 20000 in
set_option maxHeartbeats 4000000 in
theorem c_X9_wantedBy (F : Nat) (t0 : Nat) (h0 : kdX t0 = 9) (a1 : Int32) (τ : Tau) (r : Int32) (τ' : Tau) (h : X9_wantedBy F t0 a1 τ = some (r, τ')) : MCi sysX yX9_wantedBy cX9_wantedBy 2 (some .int) 2 [.ref t0, .int a1] τ r τ' :=
  mci_of (by decide +kernel) (Nat.le_of_ble_eq_true rfl) (fun K C hr => by
    show Sm K sysX 2 (Qi K sysX) (X9_wantedBy F t0 a1 τ) 0 [(0, .ref t0), (1, .int a1)] [] τ
    unfold X9_wantedBy
    refine sm_seg C [(.aload_n 0, 0)] (pc' := 1) (L' := [(0, .ref t0), (1, .int a1)]) (S' := [.ref t0]) (by decide +kernel) rfl ?_
    refine sm_getR 9 8 (t0 + 50) cls9 C (ltX h0 (by decide)) h0 (obX9 h0) (by decide) (frX9_8 h0) fl9_48 (by decide +kernel) ?_
    refine sm_seg C [(.iload_n 1, 0)] (pc' := 5) (L' := [(0, .ref t0), (1, .int a1)]) (S' := [.int a1, .ref (t0 + 50)]) (by decide +kernel) rfl ?_
    refine sm_ncal "BasketEnvoys" [.ref (t0 + 50), .int a1] [] rfl C mw_X10_entry ml_9_78 rfl ⟨by decide, by decide⟩ (Nat.le_of_ble_eq_true rfl) (by decide +kernel) (c_X10_entry F (t0 + 50) (krX9_8 h0) a1 τ) (fun r1 τ2 => ?_)
    exact sm_iret C hr rfl (by decide +kernel)) h
/-! BasketEnvoys_World.wantAt -/
def X9_wantAt (F : Nat) (t0 : Nat) (a1 : Int32) (a2 : Int32) (τ : Tau) : Option (Int32 × Tau) :=
  if a2 < 0 then (some ((-1), τ)) else (cal (X10_entry F (t0 + 50) a1 τ) fun r1 τ2 => if r1 ≤ a2 then (some ((-1), τ2)) else (cal (X10_entry F (t0 + 49) ((6 * a1) + a2) τ2) fun r3 τ4 => some (r3, τ4)))
set_option maxRecDepth 20000 in
set_option maxHeartbeats 4000000 in
theorem c_X9_wantAt (F : Nat) (t0 : Nat) (h0 : kdX t0 = 9) (a1 : Int32) (a2 : Int32) (τ : Tau) (r : Int32) (τ' : Tau) (h : X9_wantAt F t0 a1 a2 τ = some (r, τ')) : MCi sysX yX9_wantAt cX9_wantAt 3 (some .int) 2 [.ref t0, .int a1, .int a2] τ r τ' :=
  mci_of (by decide +kernel) (Nat.le_of_ble_eq_true rfl) (fun K C hr => by
    show Sm K sysX 3 (Qi K sysX) (X9_wantAt F t0 a1 a2 τ) 0 [(0, .ref t0), (1, .int a1), (2, .int a2)] [] τ
    unfold X9_wantAt
    refine sm_seg C [(.iload_n 2, 0)] (pc' := 1) (L' := [(0, .ref t0), (1, .int a1), (2, .int a2)]) (S' := [.int a2]) (by decide +kernel) rfl ?_
    refine sm_iflt 32 (off := 31) C (by decide +kernel) (by decide) (fun _ => ?_) (fun _ => ?_)
    · refine sm_seg C [(.iconst (-1), (-1))] (pc' := 33) (L' := [(0, .ref t0), (1, .int a1), (2, .int a2)]) (S' := [.int (-1)]) (by decide +kernel) rfl ?_
      exact sm_iret C hr rfl (by decide +kernel)
    · refine sm_seg C [(.iload_n 2, 0), (.aload_n 0, 0)] (pc' := 6) (L' := [(0, .ref t0), (1, .int a1), (2, .int a2)]) (S' := [.ref t0, .int a2]) (by decide +kernel) rfl ?_
      refine sm_getR 9 8 (t0 + 50) cls9 C (ltX h0 (by decide)) h0 (obX9 h0) (by decide) (frX9_8 h0) fl9_48 (by decide +kernel) ?_
      refine sm_seg C [(.iload_n 1, 0)] (pc' := 10) (L' := [(0, .ref t0), (1, .int a1), (2, .int a2)]) (S' := [.int a1, .ref (t0 + 50), .int a2]) (by decide +kernel) rfl ?_
      refine sm_ncal "BasketEnvoys" [.ref (t0 + 50), .int a1] [.int a2] rfl C mw_X10_entry ml_9_78 rfl ⟨by decide, by decide⟩ (Nat.le_of_ble_eq_true rfl) (by decide +kernel) (c_X10_entry F (t0 + 50) (krX9_8 h0) a1 τ) (fun r1 τ2 => ?_)
      refine sm_icmpge 32 (off := 19) C (by decide +kernel) (by decide) (fun _ => ?_) (fun _ => ?_)
      · refine sm_seg C [(.iconst (-1), (-1))] (pc' := 33) (L' := [(0, .ref t0), (1, .int a1), (2, .int a2)]) (S' := [.int (-1)]) (by decide +kernel) rfl ?_
        exact sm_iret C hr rfl (by decide +kernel)
      · refine sm_seg C [(.aload_n 0, 0)] (pc' := 17) (L' := [(0, .ref t0), (1, .int a1), (2, .int a2)]) (S' := [.ref t0]) (by decide +kernel) rfl ?_
        refine sm_getR 9 7 (t0 + 49) cls9 C (ltX h0 (by decide)) h0 (obX9 h0) (by decide) (frX9_7 h0) fl9_45 (by decide +kernel) ?_
        refine sm_seg C [(.bipush 6, 6), (.iload_n 1, 0), (.imul, 0), (.iload_n 2, 0), (.iadd, 0)] (pc' := 26) (L' := [(0, .ref t0), (1, .int a1), (2, .int a2)]) (S' := [.int ((6 * a1) + a2), .ref (t0 + 49)]) (by decide +kernel) rfl ?_
        refine sm_ncal "BasketEnvoys" [.ref (t0 + 49), .int ((6 * a1) + a2)] [] rfl C mw_X10_entry ml_9_78 rfl ⟨by decide, by decide⟩ (Nat.le_of_ble_eq_true rfl) (by decide +kernel) (c_X10_entry F (t0 + 49) (krX9_7 h0) ((6 * a1) + a2) τ2) (fun r3 τ4 => ?_)
        refine sm_seg C [(.goto 4, 0)] (pc' := 33) (L' := [(0, .ref t0), (1, .int a1), (2, .int a2)]) (S' := [.int r3]) (by decide +kernel) rfl ?_
        exact sm_iret C hr rfl (by decide +kernel)) h
/-! BasketEnvoys_Course.readOn -/
def X0_readOn (F : Nat) (t1 : Nat) (a2 : Int32) (a3 : Int32) (a4 : Int32) (τ : Tau) : Option (Int32 × Tau) :=
  cal (X10_entry F (t1 + 8) a2 τ) fun r1 τ2 => cal (X8_hasPower F t1 r1 τ2) fun r3 τ4 => if r3 = 0 then (some (0, τ4)) else (cal (X9_wantedBy F 1 r1 τ4) fun r5 τ6 => if r5 = 0 then (some (0, τ6)) else (ald τ6 (t1 + 2) 10 r1 fun v7 => cal (X9_wantAt F 1 r1 v7 τ6) fun r8 τ9 => if a3 = r8 then (ald τ9 (t1 + 2) 10 r1 fun v10 => ast τ9 (t1 + 2) 10 r1 (v10 + 1) fun τ11 => ald τ11 (t1 + 2) 10 r1 fun v12 => cal (X9_wantedBy F 1 r1 τ11) fun r13 τ14 => if v12 < r13 then (some (0, τ14)) else (ald τ14 (t1 + 4) 10 r1 fun v15 => ast τ14 (t1 + 4) 10 r1 (v15 + 1) fun τ16 => ast τ16 (t1 + 2) 10 r1 0 fun τ17 => if a4 = 0 then (some (0, τ17)) else (cal (X9_write F 1 3 a2 r1 τ17) fun r18 τ19 => some (0, τ19)))) else (ast τ9 (t1 + 2) 10 r1 0 fun τ20 => some (0, τ20))))
set_option maxRecDepth 20000 in
set_option maxHeartbeats 4000000 in
theorem c_X0_readOn (F : Nat) (t1 : Nat) (h1 : kdX t1 = 8) (a2 : Int32) (a3 : Int32) (a4 : Int32) (τ : Tau) (r : Int32) (τ' : Tau) (h : X0_readOn F t1 a2 a3 a4 τ = some (r, τ')) : MCv sysX yX0_readOn cX0_readOn 6 3 [.ref 211, .ref t1, .int a2, .int a3, .int a4] τ τ' :=
  mcv_of (by decide +kernel) (Nat.le_of_ble_eq_true rfl) (fun K C hr => by
    show Sm K sysX 6 (Qv K sysX) (X0_readOn F t1 a2 a3 a4 τ) 0 [(0, .ref 211), (1, .ref t1), (2, .int a2), (3, .int a3), (4, .int a4)] [] τ
    unfold X0_readOn
    refine sm_seg C [(.aload_n 1, 0)] (pc' := 1) (L' := [(0, .ref 211), (1, .ref t1), (2, .int a2), (3, .int a3), (4, .int a4)]) (S' := [.ref t1]) (by decide +kernel) rfl ?_
    refine sm_getR 8 14 (t1 + 8) cls8 C (ltX h1 (by decide)) h1 (obX8 h1) (by decide) (frX8_14 h1) fl0_84 (by decide +kernel) ?_
    refine sm_seg C [(.iload_n 2, 0)] (pc' := 5) (L' := [(0, .ref 211), (1, .ref t1), (2, .int a2), (3, .int a3), (4, .int a4)]) (S' := [.int a2, .ref (t1 + 8)]) (by decide +kernel) rfl ?_
    refine sm_ncal "BasketEnvoys" [.ref (t1 + 8), .int a2] [] rfl C mw_X10_entry ml_0_129 rfl ⟨by decide, by decide⟩ (Nat.le_of_ble_eq_true rfl) (by decide +kernel) (c_X10_entry F (t1 + 8) (krX8_14 h1) a2 τ) (fun r1 τ2 => ?_)
    refine sm_seg C [(.istore 5, 0), (.aload_n 1, 0), (.iload 5, 0)] (pc' := 13) (L' := [(5, .int r1), (0, .ref 211), (1, .ref t1), (2, .int a2), (3, .int a3), (4, .int a4)]) (S' := [.int r1, .ref t1]) (by decide +kernel) rfl ?_
    refine sm_vcal [.int r1] [] rfl C mw_X8_hasPower ml_0_94 rfl (ci := 8) rfl (ltX h1 (by decide)) h1 (by decide) ⟨by decide, by decide⟩ (Nat.le_of_ble_eq_true rfl) (by decide +kernel) (c_X8_hasPower F t1 h1 r1 τ2) (fun r3 τ4 => ?_)
    refine sm_ifeq 31 (off := 15) C (by decide +kernel) (by decide) (fun _ => ?_) (fun _ => ?_)
    · exact sm_vret C hr (by decide +kernel)
    · refine sm_seg C [(.aload_n 0, 0)] (pc' := 20) (L' := [(5, .int r1), (0, .ref 211), (1, .ref t1), (2, .int a2), (3, .int a3), (4, .int a4)]) (S' := [.ref 211]) (by decide +kernel) rfl ?_
      refine sm_getR 0 0 1 cls0 C (ltX (by decide +kernel : kdX 211 = 0) (by decide)) (by decide +kernel : kdX 211 = 0) (obX0 (by decide +kernel : kdX 211 = 0)) (by decide) (frX0_0 (by decide +kernel : kdX 211 = 0)) fl0_15 (by decide +kernel) ?_
      refine sm_seg C [(.iload 5, 0)] (pc' := 25) (L' := [(5, .int r1), (0, .ref 211), (1, .ref t1), (2, .int a2), (3, .int a3), (4, .int a4)]) (S' := [.int r1, .ref 1]) (by decide +kernel) rfl ?_
      refine sm_vcal [.int r1] [] rfl C mw_X9_wantedBy ml_0_157 rfl (ci := 9) rfl (ltX (krX0_0 (by decide +kernel : kdX 211 = 0)) (by decide)) (krX0_0 (by decide +kernel : kdX 211 = 0)) (by decide) ⟨by decide, by decide⟩ (Nat.le_of_ble_eq_true rfl) (by decide +kernel) (c_X9_wantedBy F 1 (krX0_0 (by decide +kernel : kdX 211 = 0)) r1 τ4) (fun r5 τ6 => ?_)
      refine sm_ifne 32 (off := 4) C (by decide +kernel) (by decide) (fun _ => ?_) (fun _ => ?_)
      · exact sm_vret C hr (by decide +kernel)
      · refine sm_seg C [(.iload_n 3, 0), (.aload_n 0, 0)] (pc' := 34) (L' := [(5, .int r1), (0, .ref 211), (1, .ref t1), (2, .int a2), (3, .int a3), (4, .int a4)]) (S' := [.ref 211, .int a3]) (by decide +kernel) rfl ?_
        refine sm_getR 0 0 1 cls0 C (ltX (by decide +kernel : kdX 211 = 0) (by decide)) (by decide +kernel : kdX 211 = 0) (obX0 (by decide +kernel : kdX 211 = 0)) (by decide) (frX0_0 (by decide +kernel : kdX 211 = 0)) fl0_15 (by decide +kernel) ?_
        refine sm_seg C [(.iload 5, 0), (.aload_n 1, 0)] (pc' := 40) (L' := [(5, .int r1), (0, .ref 211), (1, .ref t1), (2, .int a2), (3, .int a3), (4, .int a4)]) (S' := [.ref t1, .int r1, .ref 1, .int a3]) (by decide +kernel) rfl ?_
        refine sm_getR 8 8 (t1 + 2) cls8 C (ltX h1 (by decide)) h1 (obX8 h1) (by decide) (frX8_8 h1) fl0_139 (by decide +kernel) ?_
        refine sm_seg C [(.iload 5, 0)] (pc' := 45) (L' := [(5, .int r1), (0, .ref 211), (1, .ref t1), (2, .int a2), (3, .int a3), (4, .int a4)]) (S' := [.int r1, .ref (t1 + 2), .int r1, .ref 1, .int a3]) (by decide +kernel) rfl ?_
        refine sm_ald 10 C (ltX (krX8_8 h1) (by decide)) (krX8_8 h1) (nrX8_8 h1) (by decide +kernel) (fun v7 => ?_)
        refine sm_vcal [.int r1, .int v7] [.int a3] rfl C mw_X9_wantAt ml_0_160 rfl (ci := 9) rfl (ltX (krX0_0 (by decide +kernel : kdX 211 = 0)) (by decide)) (krX0_0 (by decide +kernel : kdX 211 = 0)) (by decide) ⟨by decide, by decide⟩ (Nat.le_of_ble_eq_true rfl) (by decide +kernel) (c_X9_wantAt F 1 (krX0_0 (by decide +kernel : kdX 211 = 0)) r1 v7 τ6) (fun r8 τ9 => ?_)
        refine sm_icmpeq 61 (off := 12) C (by decide +kernel) (by decide) (fun _ => ?_) (fun _ => ?_)
        · refine sm_seg C [(.aload_n 1, 0)] (pc' := 62) (L' := [(5, .int r1), (0, .ref 211), (1, .ref t1), (2, .int a2), (3, .int a3), (4, .int a4)]) (S' := [.ref t1]) (by decide +kernel) rfl ?_
          refine sm_getR 8 8 (t1 + 2) cls8 C (ltX h1 (by decide)) h1 (obX8 h1) (by decide) (frX8_8 h1) fl0_139 (by decide +kernel) ?_
          refine sm_seg C [(.iload 5, 0), (.dup2, 0)] (pc' := 68) (L' := [(5, .int r1), (0, .ref 211), (1, .ref t1), (2, .int a2), (3, .int a3), (4, .int a4)]) (S' := [.int r1, .ref (t1 + 2), .int r1, .ref (t1 + 2)]) (by decide +kernel) rfl ?_
          refine sm_ald 10 C (ltX (krX8_8 h1) (by decide)) (krX8_8 h1) (nrX8_8 h1) (by decide +kernel) (fun v10 => ?_)
          refine sm_seg C [(.iconst 1, 1), (.iadd, 0)] (pc' := 71) (L' := [(5, .int r1), (0, .ref 211), (1, .ref t1), (2, .int a2), (3, .int a3), (4, .int a4)]) (S' := [.int (v10 + 1), .int r1, .ref (t1 + 2)]) (by decide +kernel) rfl ?_
          refine sm_ast 10 C (ltX (krX8_8 h1) (by decide)) (krX8_8 h1) (nrX8_8 h1) (by decide +kernel) (fun τ11 => ?_)
          refine sm_seg C [(.aload_n 1, 0)] (pc' := 73) (L' := [(5, .int r1), (0, .ref 211), (1, .ref t1), (2, .int a2), (3, .int a3), (4, .int a4)]) (S' := [.ref t1]) (by decide +kernel) rfl ?_
          refine sm_getR 8 8 (t1 + 2) cls8 C (ltX h1 (by decide)) h1 (obX8 h1) (by decide) (frX8_8 h1) fl0_139 (by decide +kernel) ?_
          refine sm_seg C [(.iload 5, 0)] (pc' := 78) (L' := [(5, .int r1), (0, .ref 211), (1, .ref t1), (2, .int a2), (3, .int a3), (4, .int a4)]) (S' := [.int r1, .ref (t1 + 2)]) (by decide +kernel) rfl ?_
          refine sm_ald 10 C (ltX (krX8_8 h1) (by decide)) (krX8_8 h1) (nrX8_8 h1) (by decide +kernel) (fun v12 => ?_)
          refine sm_seg C [(.aload_n 0, 0)] (pc' := 80) (L' := [(5, .int r1), (0, .ref 211), (1, .ref t1), (2, .int a2), (3, .int a3), (4, .int a4)]) (S' := [.ref 211, .int v12]) (by decide +kernel) rfl ?_
          refine sm_getR 0 0 1 cls0 C (ltX (by decide +kernel : kdX 211 = 0) (by decide)) (by decide +kernel : kdX 211 = 0) (obX0 (by decide +kernel : kdX 211 = 0)) (by decide) (frX0_0 (by decide +kernel : kdX 211 = 0)) fl0_15 (by decide +kernel) ?_
          refine sm_seg C [(.iload 5, 0)] (pc' := 85) (L' := [(5, .int r1), (0, .ref 211), (1, .ref t1), (2, .int a2), (3, .int a3), (4, .int a4)]) (S' := [.int r1, .ref 1, .int v12]) (by decide +kernel) rfl ?_
          refine sm_vcal [.int r1] [.int v12] rfl C mw_X9_wantedBy ml_0_157 rfl (ci := 9) rfl (ltX (krX0_0 (by decide +kernel : kdX 211 = 0)) (by decide)) (krX0_0 (by decide +kernel : kdX 211 = 0)) (by decide) ⟨by decide, by decide⟩ (Nat.le_of_ble_eq_true rfl) (by decide +kernel) (c_X9_wantedBy F 1 (krX0_0 (by decide +kernel : kdX 211 = 0)) r1 τ11) (fun r13 τ14 => ?_)
          refine sm_icmplt 126 (off := 38) C (by decide +kernel) (by decide) (fun _ => ?_) (fun _ => ?_)
          · exact sm_vret C hr (by decide +kernel)
          · refine sm_seg C [(.aload_n 1, 0)] (pc' := 92) (L' := [(5, .int r1), (0, .ref 211), (1, .ref t1), (2, .int a2), (3, .int a3), (4, .int a4)]) (S' := [.ref t1]) (by decide +kernel) rfl ?_
            refine sm_getR 8 10 (t1 + 4) cls8 C (ltX h1 (by decide)) h1 (obX8 h1) (by decide) (frX8_10 h1) fl0_163 (by decide +kernel) ?_
            refine sm_seg C [(.iload 5, 0), (.dup2, 0)] (pc' := 98) (L' := [(5, .int r1), (0, .ref 211), (1, .ref t1), (2, .int a2), (3, .int a3), (4, .int a4)]) (S' := [.int r1, .ref (t1 + 4), .int r1, .ref (t1 + 4)]) (by decide +kernel) rfl ?_
            refine sm_ald 10 C (ltX (krX8_10 h1) (by decide)) (krX8_10 h1) (nrX8_10 h1) (by decide +kernel) (fun v15 => ?_)
            refine sm_seg C [(.iconst 1, 1), (.iadd, 0)] (pc' := 101) (L' := [(5, .int r1), (0, .ref 211), (1, .ref t1), (2, .int a2), (3, .int a3), (4, .int a4)]) (S' := [.int (v15 + 1), .int r1, .ref (t1 + 4)]) (by decide +kernel) rfl ?_
            refine sm_ast 10 C (ltX (krX8_10 h1) (by decide)) (krX8_10 h1) (nrX8_10 h1) (by decide +kernel) (fun τ16 => ?_)
            refine sm_seg C [(.aload_n 1, 0)] (pc' := 103) (L' := [(5, .int r1), (0, .ref 211), (1, .ref t1), (2, .int a2), (3, .int a3), (4, .int a4)]) (S' := [.ref t1]) (by decide +kernel) rfl ?_
            refine sm_getR 8 8 (t1 + 2) cls8 C (ltX h1 (by decide)) h1 (obX8 h1) (by decide) (frX8_8 h1) fl0_139 (by decide +kernel) ?_
            refine sm_seg C [(.iload 5, 0), (.iconst 0, 0)] (pc' := 109) (L' := [(5, .int r1), (0, .ref 211), (1, .ref t1), (2, .int a2), (3, .int a3), (4, .int a4)]) (S' := [.int 0, .int r1, .ref (t1 + 2)]) (by decide +kernel) rfl ?_
            refine sm_ast 10 C (ltX (krX8_8 h1) (by decide)) (krX8_8 h1) (nrX8_8 h1) (by decide +kernel) (fun τ17 => ?_)
            refine sm_seg C [(.iload 4, 0)] (pc' := 112) (L' := [(5, .int r1), (0, .ref 211), (1, .ref t1), (2, .int a2), (3, .int a3), (4, .int a4)]) (S' := [.int a4]) (by decide +kernel) rfl ?_
            refine sm_ifeq 126 (off := 14) C (by decide +kernel) (by decide) (fun _ => ?_) (fun _ => ?_)
            · exact sm_vret C hr (by decide +kernel)
            · refine sm_seg C [(.aload_n 0, 0)] (pc' := 116) (L' := [(5, .int r1), (0, .ref 211), (1, .ref t1), (2, .int a2), (3, .int a3), (4, .int a4)]) (S' := [.ref 211]) (by decide +kernel) rfl ?_
              refine sm_getR 0 0 1 cls0 C (ltX (by decide +kernel : kdX 211 = 0) (by decide)) (by decide +kernel : kdX 211 = 0) (obX0 (by decide +kernel : kdX 211 = 0)) (by decide) (frX0_0 (by decide +kernel : kdX 211 = 0)) fl0_15 (by decide +kernel) ?_
              refine sm_seg C [(.iconst 3, 3), (.iload_n 2, 0), (.iload 5, 0)] (pc' := 123) (L' := [(5, .int r1), (0, .ref 211), (1, .ref t1), (2, .int a2), (3, .int a3), (4, .int a4)]) (S' := [.int r1, .int a2, .int 3, .ref 1]) (by decide +kernel) rfl ?_
              refine sm_vcalv [.int 3, .int a2, .int r1] [] rfl C mw_X9_write ml_0_90 rfl (ci := 9) rfl (ltX (krX0_0 (by decide +kernel : kdX 211 = 0)) (by decide)) (krX0_0 (by decide +kernel : kdX 211 = 0)) (by decide) ⟨by decide, by decide⟩ (Nat.le_of_ble_eq_true rfl) (by decide +kernel) (c_X9_write F 1 (krX0_0 (by decide +kernel : kdX 211 = 0)) 3 a2 r1 τ17) (fun r18 τ19 => ?_)
              exact sm_vret C hr (by decide +kernel)
        · refine sm_seg C [(.aload_n 1, 0)] (pc' := 53) (L' := [(5, .int r1), (0, .ref 211), (1, .ref t1), (2, .int a2), (3, .int a3), (4, .int a4)]) (S' := [.ref t1]) (by decide +kernel) rfl ?_
          refine sm_getR 8 8 (t1 + 2) cls8 C (ltX h1 (by decide)) h1 (obX8 h1) (by decide) (frX8_8 h1) fl0_139 (by decide +kernel) ?_
          refine sm_seg C [(.iload 5, 0), (.iconst 0, 0)] (pc' := 59) (L' := [(5, .int r1), (0, .ref 211), (1, .ref t1), (2, .int a2), (3, .int a3), (4, .int a4)]) (S' := [.int 0, .int r1, .ref (t1 + 2)]) (by decide +kernel) rfl ?_
          refine sm_ast 10 C (ltX (krX8_8 h1) (by decide)) (krX8_8 h1) (nrX8_8 h1) (by decide +kernel) (fun τ20 => ?_)
          exact sm_vret C hr (by decide +kernel)) h
/-! BasketEnvoys_Course.showThing -/
def X0_showThing_j147 (F : Nat) (t1 : Nat) (a2 : Int32) (τ : Tau) : Option (Int32 × Tau) :=
  ald τ (t1 + 11) 14 a2 fun v17 => ast τ (t1 + 11) 14 a2 (v17 + 1) fun τ18 => some (0, τ18)
theorem s_X0_showThing_j147 (F : Nat) (t1 : Nat) {K : Ctx} (C : Cx K sysX RX0 cX0_showThing 6 5) (hr : Rt K none) (h1 : kdX t1 = 8) (a2 : Int32) (τ : Tau) : Sm K sysX 6 (Qv K sysX) (X0_showThing_j147 F t1 a2 τ) 147 [(1, .ref t1), (2, .int a2)] [] τ := by
  unfold X0_showThing_j147
  refine sm_seg C [(.aload_n 1, 0)] (pc' := 148) (L' := [(1, .ref t1), (2, .int a2)]) (S' := [.ref t1]) (by decide +kernel) rfl ?_
  refine sm_getR 8 17 (t1 + 11) cls8 C (ltX h1 (by decide)) h1 (obX8 h1) (by decide) (frX8_17 h1) fl0_87 (by decide +kernel) ?_
  refine sm_seg C [(.iload_n 2, 0), (.dup2, 0)] (pc' := 153) (L' := [(1, .ref t1), (2, .int a2)]) (S' := [.int a2, .ref (t1 + 11), .int a2, .ref (t1 + 11)]) (by decide +kernel) rfl ?_
  refine sm_ald 14 C (ltX (krX8_17 h1) (by decide)) (krX8_17 h1) (nrX8_17 h1) (by decide +kernel) (fun v17 => ?_)
  refine sm_seg C [(.iconst 1, 1), (.iadd, 0)] (pc' := 156) (L' := [(1, .ref t1), (2, .int a2)]) (S' := [.int (v17 + 1), .int a2, .ref (t1 + 11)]) (by decide +kernel) rfl ?_
  refine sm_ast 14 C (ltX (krX8_17 h1) (by decide)) (krX8_17 h1) (nrX8_17 h1) (by decide +kernel) (fun τ18 => ?_)
  exact sm_vret C hr (by decide +kernel)
def X0_showThing_j100 (F : Nat) (t1 : Nat) (a2 : Int32) (a3 : Int32) (a5 : Int32) (τ : Tau) : Option (Int32 × Tau) :=
  cal (X0_readOn F t1 a2 a5 a3 τ) fun r27 τ28 => X0_showThing_j147 F t1 a2 τ28
theorem s_X0_showThing_j100 (F : Nat) (t1 : Nat) {K : Ctx} (C : Cx K sysX RX0 cX0_showThing 6 5) (hr : Rt K none) (h1 : kdX t1 = 8) (a2 : Int32) (a3 : Int32) (a5 : Int32) (τ : Tau) : Sm K sysX 6 (Qv K sysX) (X0_showThing_j100 F t1 a2 a3 a5 τ) 100 [(0, .ref 211), (1, .ref t1), (2, .int a2), (3, .int a3), (5, .int a5)] [] τ := by
  unfold X0_showThing_j100
  refine sm_seg C [(.aload_n 0, 0), (.aload_n 1, 0), (.iload_n 2, 0), (.iload 5, 0), (.iload_n 3, 0)] (pc' := 106) (L' := [(0, .ref 211), (1, .ref t1), (2, .int a2), (3, .int a3), (5, .int a5)]) (S' := [.int a3, .int a5, .int a2, .ref t1, .ref 211]) (by decide +kernel) rfl ?_
  refine sm_vcalv [.ref t1, .int a2, .int a5, .int a3] [] rfl C mw_X0_readOn ml_0_151 rfl (ci := 0) rfl (ltX (by decide +kernel : kdX 211 = 0) (by decide)) (by decide +kernel : kdX 211 = 0) (by decide) ⟨by decide, by decide⟩ (Nat.le_of_ble_eq_true rfl) (by decide +kernel) (c_X0_readOn F t1 h1 a2 a5 a3 τ) (fun r27 τ28 => ?_)
  refine sm_seg C [(.goto 38, 0)] (pc' := 147) (L' := [(0, .ref 211), (1, .ref t1), (2, .int a2), (3, .int a3), (5, .int a5)]) (S' := []) (by decide +kernel) rfl ?_
  exact sm_sub [1, 2] rfl (s_X0_showThing_j147 F t1 C hr h1 a2 τ28)
def X0_showThing (F : Nat) (t1 : Nat) (a2 : Int32) (a3 : Int32) (τ : Tau) : Option (Int32 × Tau) :=
  cal (X10_entry F (t1 + 8) a2 τ) fun r1 τ2 => cal (X8_hasPower F t1 r1 τ2) fun r3 τ4 => if r3 = 0 then (some (0, τ4)) else (cal (X8_hasMute F t1 a2 τ4) fun r5 τ6 => if r5 = 0 then (some (0, τ6)) else (cal (X8_nextThing F t1 a2 τ6) fun r7 τ8 => cal (X9_saysTo F 1 r1 r7 τ8) fun r9 τ10 => cal (X0_ask F t1 a2 0 τ10) fun r11 τ12 => cal (X0_falls F t1 r11 a3 τ12) fun r13 τ14 => if r13 = 0 then (ald τ14 (t1 + 1) 10 r1 fun v15 => ast τ14 (t1 + 1) 10 r1 (imax 0 (v15 - 1)) fun τ16 => if a3 = 0 then (X0_showThing_j147 F t1 a2 τ16) else (cal (X9_write F 1 2 a2 r9 τ16) fun r19 τ20 => X0_showThing_j147 F t1 a2 τ20)) else (ald τ14 (t1 + 3) 10 r1 fun v21 => ast τ14 (t1 + 3) 10 r1 (v21 + 1) fun τ22 => cal (X0_ask F t1 a2 2 τ22) fun r23 τ24 => cal (X0_addTrust F t1 r1 r23 τ24) fun r25 τ26 => if a3 = 0 then (X0_showThing_j100 F t1 a2 a3 r9 τ26) else (cal (X9_write F 1 1 a2 r9 τ26) fun r29 τ30 => X0_showThing_j100 F t1 a2 a3 r9 τ30))))
set_option maxRecDepth 20000 in
set_option maxHeartbeats 4000000 in
theorem c_X0_showThing (F : Nat) (t1 : Nat) (h1 : kdX t1 = 8) (a2 : Int32) (a3 : Int32) (τ : Tau) (r : Int32) (τ' : Tau) (h : X0_showThing F t1 a2 a3 τ = some (r, τ')) : MCv sysX yX0_showThing cX0_showThing 6 5 [.ref 211, .ref t1, .int a2, .int a3] τ τ' :=
  mcv_of (by decide +kernel) (Nat.le_of_ble_eq_true rfl) (fun K C hr => by
    show Sm K sysX 6 (Qv K sysX) (X0_showThing F t1 a2 a3 τ) 0 [(0, .ref 211), (1, .ref t1), (2, .int a2), (3, .int a3)] [] τ
    unfold X0_showThing
    refine sm_seg C [(.aload_n 1, 0)] (pc' := 1) (L' := [(0, .ref 211), (1, .ref t1), (2, .int a2), (3, .int a3)]) (S' := [.ref t1]) (by decide +kernel) rfl ?_
    refine sm_getR 8 14 (t1 + 8) cls8 C (ltX h1 (by decide)) h1 (obX8 h1) (by decide) (frX8_14 h1) fl0_84 (by decide +kernel) ?_
    refine sm_seg C [(.iload_n 2, 0)] (pc' := 5) (L' := [(0, .ref 211), (1, .ref t1), (2, .int a2), (3, .int a3)]) (S' := [.int a2, .ref (t1 + 8)]) (by decide +kernel) rfl ?_
    refine sm_ncal "BasketEnvoys" [.ref (t1 + 8), .int a2] [] rfl C mw_X10_entry ml_0_129 rfl ⟨by decide, by decide⟩ (Nat.le_of_ble_eq_true rfl) (by decide +kernel) (c_X10_entry F (t1 + 8) (krX8_14 h1) a2 τ) (fun r1 τ2 => ?_)
    refine sm_seg C [(.istore 4, 0), (.aload_n 1, 0), (.iload 4, 0)] (pc' := 13) (L' := [(4, .int r1), (0, .ref 211), (1, .ref t1), (2, .int a2), (3, .int a3)]) (S' := [.int r1, .ref t1]) (by decide +kernel) rfl ?_
    refine sm_vcal [.int r1] [] rfl C mw_X8_hasPower ml_0_94 rfl (ci := 8) rfl (ltX h1 (by decide)) h1 (by decide) ⟨by decide, by decide⟩ (Nat.le_of_ble_eq_true rfl) (by decide +kernel) (c_X8_hasPower F t1 h1 r1 τ2) (fun r3 τ4 => ?_)
    refine sm_ifeq 27 (off := 11) C (by decide +kernel) (by decide) (fun _ => ?_) (fun _ => ?_)
    · exact sm_vret C hr (by decide +kernel)
    · refine sm_seg C [(.aload_n 1, 0), (.iload_n 2, 0)] (pc' := 21) (L' := [(4, .int r1), (0, .ref 211), (1, .ref t1), (2, .int a2), (3, .int a3)]) (S' := [.int a2, .ref t1]) (by decide +kernel) rfl ?_
      refine sm_vcal [.int a2] [] rfl C mw_X8_hasMute ml_0_142 rfl (ci := 8) rfl (ltX h1 (by decide)) h1 (by decide) ⟨by decide, by decide⟩ (Nat.le_of_ble_eq_true rfl) (by decide +kernel) (c_X8_hasMute F t1 h1 a2 τ4) (fun r5 τ6 => ?_)
      refine sm_ifne 28 (off := 4) C (by decide +kernel) (by decide) (fun _ => ?_) (fun _ => ?_)
      · exact sm_vret C hr (by decide +kernel)
      · refine sm_seg C [(.aload_n 0, 0)] (pc' := 29) (L' := [(4, .int r1), (0, .ref 211), (1, .ref t1), (2, .int a2), (3, .int a3)]) (S' := [.ref 211]) (by decide +kernel) rfl ?_
        refine sm_getR 0 0 1 cls0 C (ltX (by decide +kernel : kdX 211 = 0) (by decide)) (by decide +kernel : kdX 211 = 0) (obX0 (by decide +kernel : kdX 211 = 0)) (by decide) (frX0_0 (by decide +kernel : kdX 211 = 0)) fl0_15 (by decide +kernel) ?_
        refine sm_seg C [(.iload 4, 0), (.aload_n 1, 0), (.iload_n 2, 0)] (pc' := 36) (L' := [(4, .int r1), (0, .ref 211), (1, .ref t1), (2, .int a2), (3, .int a3)]) (S' := [.int a2, .ref t1, .int r1, .ref 1]) (by decide +kernel) rfl ?_
        refine sm_vcal [.int a2] [.int r1, .ref 1] rfl C mw_X8_nextThing ml_0_119 rfl (ci := 8) rfl (ltX h1 (by decide)) h1 (by decide) ⟨by decide, by decide⟩ (Nat.le_of_ble_eq_true rfl) (by decide +kernel) (c_X8_nextThing F t1 h1 a2 τ6) (fun r7 τ8 => ?_)
        refine sm_vcal [.int r1, .int r7] [] rfl C mw_X9_saysTo ml_0_145 rfl (ci := 9) rfl (ltX (krX0_0 (by decide +kernel : kdX 211 = 0)) (by decide)) (krX0_0 (by decide +kernel : kdX 211 = 0)) (by decide) ⟨by decide, by decide⟩ (Nat.le_of_ble_eq_true rfl) (by decide +kernel) (c_X9_saysTo F 1 (krX0_0 (by decide +kernel : kdX 211 = 0)) r1 r7 τ8) (fun r9 τ10 => ?_)
        refine sm_seg C [(.istore 5, 0), (.aload_n 0, 0), (.aload_n 1, 0), (.aload_n 0, 0), (.aload_n 1, 0), (.iload_n 2, 0), (.iconst 0, 0)] (pc' := 50) (L' := [(5, .int r9), (4, .int r1), (0, .ref 211), (1, .ref t1), (2, .int a2), (3, .int a3)]) (S' := [.int 0, .int a2, .ref t1, .ref 211, .ref t1, .ref 211]) (by decide +kernel) rfl ?_
        refine sm_vcal [.ref t1, .int a2, .int 0] [.ref t1, .ref 211] rfl C mw_X0_ask ml_0_105 rfl (ci := 0) rfl (ltX (by decide +kernel : kdX 211 = 0) (by decide)) (by decide +kernel : kdX 211 = 0) (by decide) ⟨by decide, by decide⟩ (Nat.le_of_ble_eq_true rfl) (by decide +kernel) (c_X0_ask F t1 h1 a2 0 τ10) (fun r11 τ12 => ?_)
        refine sm_seg C [(.iload_n 3, 0)] (pc' := 54) (L' := [(5, .int r9), (4, .int r1), (0, .ref 211), (1, .ref t1), (2, .int a2), (3, .int a3)]) (S' := [.int a3, .int r11, .ref t1, .ref 211]) (by decide +kernel) rfl ?_
        refine sm_vcal [.ref t1, .int r11, .int a3] [] rfl C mw_X0_falls ml_0_109 rfl (ci := 0) rfl (ltX (by decide +kernel : kdX 211 = 0) (by decide)) (by decide +kernel : kdX 211 = 0) (by decide) ⟨by decide, by decide⟩ (Nat.le_of_ble_eq_true rfl) (by decide +kernel) (c_X0_falls F t1 h1 r11 a3 τ12) (fun r13 τ14 => ?_)
        refine sm_ifeq 112 (off := 55) C (by decide +kernel) (by decide) (fun _ => ?_) (fun _ => ?_)
        · refine sm_seg C [(.aload_n 1, 0)] (pc' := 113) (L' := [(5, .int r9), (4, .int r1), (0, .ref 211), (1, .ref t1), (2, .int a2), (3, .int a3)]) (S' := [.ref t1]) (by decide +kernel) rfl ?_
          refine sm_getR 8 7 (t1 + 1) cls8 C (ltX h1 (by decide)) h1 (obX8 h1) (by decide) (frX8_7 h1) fl0_97 (by decide +kernel) ?_
          refine sm_seg C [(.iload 4, 0), (.iconst 0, 0), (.aload_n 1, 0)] (pc' := 120) (L' := [(5, .int r9), (4, .int r1), (0, .ref 211), (1, .ref t1), (2, .int a2), (3, .int a3)]) (S' := [.ref t1, .int 0, .int r1, .ref (t1 + 1)]) (by decide +kernel) rfl ?_
          refine sm_getR 8 7 (t1 + 1) cls8 C (ltX h1 (by decide)) h1 (obX8 h1) (by decide) (frX8_7 h1) fl0_97 (by decide +kernel) ?_
          refine sm_seg C [(.iload 4, 0)] (pc' := 125) (L' := [(5, .int r9), (4, .int r1), (0, .ref 211), (1, .ref t1), (2, .int a2), (3, .int a3)]) (S' := [.int r1, .ref (t1 + 1), .int 0, .int r1, .ref (t1 + 1)]) (by decide +kernel) rfl ?_
          refine sm_ald 10 C (ltX (krX8_7 h1) (by decide)) (krX8_7 h1) (nrX8_7 h1) (by decide +kernel) (fun v15 => ?_)
          refine sm_seg C [(.iconst 1, 1), (.isub, 0)] (pc' := 128) (L' := [(5, .int r9), (4, .int r1), (0, .ref 211), (1, .ref t1), (2, .int a2), (3, .int a3)]) (S' := [.int (v15 - 1), .int 0, .int r1, .ref (t1 + 1)]) (by decide +kernel) rfl ?_
          refine sm_max C (by decide) ml_0_154 jw_maxs jw_math jw_maxc (Nat.le_of_ble_eq_true rfl) (by decide +kernel) ?_
          refine sm_ast 10 C (ltX (krX8_7 h1) (by decide)) (krX8_7 h1) (nrX8_7 h1) (by decide +kernel) (fun τ16 => ?_)
          refine sm_seg C [(.iload_n 3, 0)] (pc' := 133) (L' := [(5, .int r9), (4, .int r1), (0, .ref 211), (1, .ref t1), (2, .int a2), (3, .int a3)]) (S' := [.int a3]) (by decide +kernel) rfl ?_
          refine sm_ifeq 147 (off := 14) C (by decide +kernel) (by decide) (fun _ => ?_) (fun _ => ?_)
          · exact sm_sub [3, 4] rfl (s_X0_showThing_j147 F t1 C hr h1 a2 τ16)
          · refine sm_seg C [(.aload_n 0, 0)] (pc' := 137) (L' := [(5, .int r9), (4, .int r1), (0, .ref 211), (1, .ref t1), (2, .int a2), (3, .int a3)]) (S' := [.ref 211]) (by decide +kernel) rfl ?_
            refine sm_getR 0 0 1 cls0 C (ltX (by decide +kernel : kdX 211 = 0) (by decide)) (by decide +kernel : kdX 211 = 0) (obX0 (by decide +kernel : kdX 211 = 0)) (by decide) (frX0_0 (by decide +kernel : kdX 211 = 0)) fl0_15 (by decide +kernel) ?_
            refine sm_seg C [(.iconst 2, 2), (.iload_n 2, 0), (.iload 5, 0)] (pc' := 144) (L' := [(5, .int r9), (4, .int r1), (0, .ref 211), (1, .ref t1), (2, .int a2), (3, .int a3)]) (S' := [.int r9, .int a2, .int 2, .ref 1]) (by decide +kernel) rfl ?_
            refine sm_vcalv [.int 2, .int a2, .int r9] [] rfl C mw_X9_write ml_0_90 rfl (ci := 9) rfl (ltX (krX0_0 (by decide +kernel : kdX 211 = 0)) (by decide)) (krX0_0 (by decide +kernel : kdX 211 = 0)) (by decide) ⟨by decide, by decide⟩ (Nat.le_of_ble_eq_true rfl) (by decide +kernel) (c_X9_write F 1 (krX0_0 (by decide +kernel : kdX 211 = 0)) 2 a2 r9 τ16) (fun r19 τ20 => ?_)
            exact sm_sub [3, 4] rfl (s_X0_showThing_j147 F t1 C hr h1 a2 τ20)
        · refine sm_seg C [(.aload_n 1, 0)] (pc' := 61) (L' := [(5, .int r9), (4, .int r1), (0, .ref 211), (1, .ref t1), (2, .int a2), (3, .int a3)]) (S' := [.ref t1]) (by decide +kernel) rfl ?_
          refine sm_getR 8 9 (t1 + 3) cls8 C (ltX h1 (by decide)) h1 (obX8 h1) (by decide) (frX8_9 h1) fl0_148 (by decide +kernel) ?_
          refine sm_seg C [(.iload 4, 0), (.dup2, 0)] (pc' := 67) (L' := [(5, .int r9), (4, .int r1), (0, .ref 211), (1, .ref t1), (2, .int a2), (3, .int a3)]) (S' := [.int r1, .ref (t1 + 3), .int r1, .ref (t1 + 3)]) (by decide +kernel) rfl ?_
          refine sm_ald 10 C (ltX (krX8_9 h1) (by decide)) (krX8_9 h1) (nrX8_9 h1) (by decide +kernel) (fun v21 => ?_)
          refine sm_seg C [(.iconst 1, 1), (.iadd, 0)] (pc' := 70) (L' := [(5, .int r9), (4, .int r1), (0, .ref 211), (1, .ref t1), (2, .int a2), (3, .int a3)]) (S' := [.int (v21 + 1), .int r1, .ref (t1 + 3)]) (by decide +kernel) rfl ?_
          refine sm_ast 10 C (ltX (krX8_9 h1) (by decide)) (krX8_9 h1) (nrX8_9 h1) (by decide +kernel) (fun τ22 => ?_)
          refine sm_seg C [(.aload_n 0, 0), (.aload_n 1, 0), (.iload 4, 0), (.aload_n 0, 0), (.aload_n 1, 0), (.iload_n 2, 0), (.iconst 2, 2)] (pc' := 79) (L' := [(5, .int r9), (4, .int r1), (0, .ref 211), (1, .ref t1), (2, .int a2), (3, .int a3)]) (S' := [.int 2, .int a2, .ref t1, .ref 211, .int r1, .ref t1, .ref 211]) (by decide +kernel) rfl ?_
          refine sm_vcal [.ref t1, .int a2, .int 2] [.int r1, .ref t1, .ref 211] rfl C mw_X0_ask ml_0_105 rfl (ci := 0) rfl (ltX (by decide +kernel : kdX 211 = 0) (by decide)) (by decide +kernel : kdX 211 = 0) (by decide) ⟨by decide, by decide⟩ (Nat.le_of_ble_eq_true rfl) (by decide +kernel) (c_X0_ask F t1 h1 a2 2 τ22) (fun r23 τ24 => ?_)
          refine sm_vcalv [.ref t1, .int r1, .int r23] [] rfl C mw_X0_addTrust ml_0_74 rfl (ci := 0) rfl (ltX (by decide +kernel : kdX 211 = 0) (by decide)) (by decide +kernel : kdX 211 = 0) (by decide) ⟨by decide, by decide⟩ (Nat.le_of_ble_eq_true rfl) (by decide +kernel) (c_X0_addTrust F t1 h1 r1 r23 τ24) (fun r25 τ26 => ?_)
          refine sm_seg C [(.iload_n 3, 0)] (pc' := 86) (L' := [(5, .int r9), (4, .int r1), (0, .ref 211), (1, .ref t1), (2, .int a2), (3, .int a3)]) (S' := [.int a3]) (by decide +kernel) rfl ?_
          refine sm_ifeq 100 (off := 14) C (by decide +kernel) (by decide) (fun _ => ?_) (fun _ => ?_)
          · exact sm_sub [2, 3, 4, 5, 0] rfl (s_X0_showThing_j100 F t1 C hr h1 a2 a3 r9 τ26)
          · refine sm_seg C [(.aload_n 0, 0)] (pc' := 90) (L' := [(5, .int r9), (4, .int r1), (0, .ref 211), (1, .ref t1), (2, .int a2), (3, .int a3)]) (S' := [.ref 211]) (by decide +kernel) rfl ?_
            refine sm_getR 0 0 1 cls0 C (ltX (by decide +kernel : kdX 211 = 0) (by decide)) (by decide +kernel : kdX 211 = 0) (obX0 (by decide +kernel : kdX 211 = 0)) (by decide) (frX0_0 (by decide +kernel : kdX 211 = 0)) fl0_15 (by decide +kernel) ?_
            refine sm_seg C [(.iconst 1, 1), (.iload_n 2, 0), (.iload 5, 0)] (pc' := 97) (L' := [(5, .int r9), (4, .int r1), (0, .ref 211), (1, .ref t1), (2, .int a2), (3, .int a3)]) (S' := [.int r9, .int a2, .int 1, .ref 1]) (by decide +kernel) rfl ?_
            refine sm_vcalv [.int 1, .int a2, .int r9] [] rfl C mw_X9_write ml_0_90 rfl (ci := 9) rfl (ltX (krX0_0 (by decide +kernel : kdX 211 = 0)) (by decide)) (krX0_0 (by decide +kernel : kdX 211 = 0)) (by decide) ⟨by decide, by decide⟩ (Nat.le_of_ble_eq_true rfl) (by decide +kernel) (c_X9_write F 1 (krX0_0 (by decide +kernel : kdX 211 = 0)) 1 a2 r9 τ26) (fun r29 τ30 => ?_)
            exact sm_sub [2, 3, 4, 5, 0] rfl (s_X0_showThing_j100 F t1 C hr h1 a2 a3 r9 τ30)) h
/-! BasketEnvoys_Course.takeTurn -/
def X0_takeTurn (F : Nat) (t1 : Nat) (a2 : Int32) (a3 : Int32) (τ : Tau) : Option (Int32 × Tau) :=
  cal (X0_ask F t1 a2 1 τ) fun r1 τ2 => cal (X0_falls F t1 r1 a3 τ2) fun r3 τ4 => if r3 = 0 then (cal (X8_nextThing F t1 a2 τ4) fun r5 τ6 => if r5 = (-1) then (cal (X0_goHome F t1 a2 a3 τ6) fun r7 τ8 => some (0, τ8)) else (cal (X0_showThing F t1 a2 a3 τ6) fun r9 τ10 => some (0, τ10))) else (cal (X0_cryOut F t1 a2 a3 τ4) fun r11 τ12 => some (0, τ12))
set_option maxRecDepth 20000 in
set_option maxHeartbeats 4000000 in
theorem c_X0_takeTurn (F : Nat) (t1 : Nat) (h1 : kdX t1 = 8) (a2 : Int32) (a3 : Int32) (τ : Tau) (r : Int32) (τ' : Tau) (h : X0_takeTurn F t1 a2 a3 τ = some (r, τ')) : MCv sysX yX0_takeTurn cX0_takeTurn 4 6 [.ref 211, .ref t1, .int a2, .int a3] τ τ' :=
  mcv_of (by decide +kernel) (Nat.le_of_ble_eq_true rfl) (fun K C hr => by
    show Sm K sysX 4 (Qv K sysX) (X0_takeTurn F t1 a2 a3 τ) 0 [(0, .ref 211), (1, .ref t1), (2, .int a2), (3, .int a3)] [] τ
    unfold X0_takeTurn
    refine sm_seg C [(.aload_n 0, 0), (.aload_n 1, 0), (.aload_n 0, 0), (.aload_n 1, 0), (.iload_n 2, 0), (.iconst 1, 1)] (pc' := 6) (L' := [(0, .ref 211), (1, .ref t1), (2, .int a2), (3, .int a3)]) (S' := [.int 1, .int a2, .ref t1, .ref 211, .ref t1, .ref 211]) (by decide +kernel) rfl ?_
    refine sm_vcal [.ref t1, .int a2, .int 1] [.ref t1, .ref 211] rfl C mw_X0_ask ml_0_105 rfl (ci := 0) rfl (ltX (by decide +kernel : kdX 211 = 0) (by decide)) (by decide +kernel : kdX 211 = 0) (by decide) ⟨by decide, by decide⟩ (Nat.le_of_ble_eq_true rfl) (by decide +kernel) (c_X0_ask F t1 h1 a2 1 τ) (fun r1 τ2 => ?_)
    refine sm_seg C [(.iload_n 3, 0)] (pc' := 10) (L' := [(0, .ref 211), (1, .ref t1), (2, .int a2), (3, .int a3)]) (S' := [.int a3, .int r1, .ref t1, .ref 211]) (by decide +kernel) rfl ?_
    refine sm_vcal [.ref t1, .int r1, .int a3] [] rfl C mw_X0_falls ml_0_109 rfl (ci := 0) rfl (ltX (by decide +kernel : kdX 211 = 0) (by decide)) (by decide +kernel : kdX 211 = 0) (by decide) ⟨by decide, by decide⟩ (Nat.le_of_ble_eq_true rfl) (by decide +kernel) (c_X0_falls F t1 h1 r1 a3 τ2) (fun r3 τ4 => ?_)
    refine sm_ifeq 26 (off := 13) C (by decide +kernel) (by decide) (fun _ => ?_) (fun _ => ?_)
    · refine sm_seg C [(.aload_n 1, 0), (.iload_n 2, 0)] (pc' := 28) (L' := [(0, .ref 211), (1, .ref t1), (2, .int a2), (3, .int a3)]) (S' := [.int a2, .ref t1]) (by decide +kernel) rfl ?_
      refine sm_vcal [.int a2] [] rfl C mw_X8_nextThing ml_0_119 rfl (ci := 8) rfl (ltX h1 (by decide)) h1 (by decide) ⟨by decide, by decide⟩ (Nat.le_of_ble_eq_true rfl) (by decide +kernel) (c_X8_nextThing F t1 h1 a2 τ4) (fun r5 τ6 => ?_)
      refine sm_seg C [(.iconst (-1), (-1))] (pc' := 32) (L' := [(0, .ref 211), (1, .ref t1), (2, .int a2), (3, .int a3)]) (S' := [.int (-1), .int r5]) (by decide +kernel) rfl ?_
      refine sm_icmpne 45 (off := 13) C (by decide +kernel) (by decide) (fun _ => ?_) (fun _ => ?_)
      · refine sm_seg C [(.aload_n 0, 0), (.aload_n 1, 0), (.iload_n 2, 0), (.iload_n 3, 0)] (pc' := 39) (L' := [(0, .ref 211), (1, .ref t1), (2, .int a2), (3, .int a3)]) (S' := [.int a3, .int a2, .ref t1, .ref 211]) (by decide +kernel) rfl ?_
        refine sm_vcalv [.ref t1, .int a2, .int a3] [] rfl C mw_X0_goHome ml_0_29 rfl (ci := 0) rfl (ltX (by decide +kernel : kdX 211 = 0) (by decide)) (by decide +kernel : kdX 211 = 0) (by decide) ⟨by decide, by decide⟩ (Nat.le_of_ble_eq_true rfl) (by decide +kernel) (c_X0_goHome F t1 h1 a2 a3 τ6) (fun r7 τ8 => ?_)
        refine sm_seg C [(.goto 10, 0)] (pc' := 52) (L' := [(0, .ref 211), (1, .ref t1), (2, .int a2), (3, .int a3)]) (S' := []) (by decide +kernel) rfl ?_
        exact sm_vret C hr (by decide +kernel)
      · refine sm_seg C [(.aload_n 0, 0), (.aload_n 1, 0), (.iload_n 2, 0), (.iload_n 3, 0)] (pc' := 49) (L' := [(0, .ref 211), (1, .ref t1), (2, .int a2), (3, .int a3)]) (S' := [.int a3, .int a2, .ref t1, .ref 211]) (by decide +kernel) rfl ?_
        refine sm_vcalv [.ref t1, .int a2, .int a3] [] rfl C mw_X0_showThing ml_0_123 rfl (ci := 0) rfl (ltX (by decide +kernel : kdX 211 = 0) (by decide)) (by decide +kernel : kdX 211 = 0) (by decide) ⟨by decide, by decide⟩ (Nat.le_of_ble_eq_true rfl) (by decide +kernel) (c_X0_showThing F t1 h1 a2 a3 τ6) (fun r9 τ10 => ?_)
        exact sm_vret C hr (by decide +kernel)
    · refine sm_seg C [(.aload_n 0, 0), (.aload_n 1, 0), (.iload_n 2, 0), (.iload_n 3, 0)] (pc' := 20) (L' := [(0, .ref 211), (1, .ref t1), (2, .int a2), (3, .int a3)]) (S' := [.int a3, .int a2, .ref t1, .ref 211]) (by decide +kernel) rfl ?_
      refine sm_vcalv [.ref t1, .int a2, .int a3] [] rfl C mw_X0_cryOut ml_0_116 rfl (ci := 0) rfl (ltX (by decide +kernel : kdX 211 = 0) (by decide)) (by decide +kernel : kdX 211 = 0) (by decide) ⟨by decide, by decide⟩ (Nat.le_of_ble_eq_true rfl) (by decide +kernel) (c_X0_cryOut F t1 h1 a2 a3 τ4) (fun r11 τ12 => ?_)
      refine sm_seg C [(.goto 29, 0)] (pc' := 52) (L' := [(0, .ref 211), (1, .ref t1), (2, .int a2), (3, .int a3)]) (S' := []) (by decide +kernel) rfl ?_
      exact sm_vret C hr (by decide +kernel)) h
/-! BasketEnvoys_Course.pass -/
def X0_pass_j69 (F : Nat) (self46 : Int32 → Int32 → Tau → Option (Int32 × Tau)) (t1 : Nat) (a2 : Int32) (a3 : Int32) (τ : Tau) : Option (Int32 × Tau) :=
  self46 a2 (a3 + 1) τ
theorem s_X0_pass_j69 (F : Nat) (t1 : Nat) {K : Ctx} (C : Cx K sysX RX0 cX0_pass 4 7) (hr : Rt K none) (h1 : kdX t1 = 8) (self46 : Int32 → Int32 → Tau → Option (Int32 × Tau)) (ih46 : ∀ (a2 : Int32) (a3 : Int32) (τ : Tau), Sm K sysX 4 (Qv K sysX) (self46 a2 a3 τ) 46 [(0, .ref 211), (1, .ref t1), (2, .int a2), (3, .int a3)] [] τ) (a2 : Int32) (a3 : Int32) (τ : Tau) : Sm K sysX 4 (Qv K sysX) (X0_pass_j69 F self46 t1 a2 a3 τ) 69 [(0, .ref 211), (1, .ref t1), (2, .int a2), (3, .int a3)] [] τ := by
  unfold X0_pass_j69
  refine sm_seg C [(.iinc 3 1, 1), (.goto (-26), 0)] (pc' := 46) (L' := [(3, .int (a3 + 1)), (0, .ref 211), (1, .ref t1), (2, .int a2)]) (S' := []) (by decide +kernel) rfl ?_
  exact sm_sub [1, 2, 3, 0] rfl (ih46 a2 (a3 + 1) τ)
def X0_pass_L46 (F : Nat) (t1 : Nat) : Nat → Int32 → Int32 → Tau → Option (Int32 × Tau)
  | 0, _, _, _ => none
  | n + 1, a2, a3, τ =>
    if (τ t1 1) ≤ a3 then (pst τ t1 4 ((τ t1 4) + 1) fun τ2 => some (0, τ2)) else (cal (X8_isAway F t1 a3 τ) fun r3 τ4 => if r3 = 0 then (X0_pass_j69 F (X0_pass_L46 F t1 n) t1 a2 a3 τ4) else (cal (X0_takeTurn F t1 a3 a2 τ4) fun r5 τ6 => X0_pass_j69 F (X0_pass_L46 F t1 n) t1 a2 a3 τ6))
theorem s_X0_pass_L46 (F : Nat) (t1 : Nat) {K : Ctx} (C : Cx K sysX RX0 cX0_pass 4 7) (hr : Rt K none) (h1 : kdX t1 = 8) : ∀ (n : Nat) (a2 : Int32) (a3 : Int32) (τ : Tau), Sm K sysX 4 (Qv K sysX) (X0_pass_L46 F t1 n a2 a3 τ) 46 [(0, .ref 211), (1, .ref t1), (2, .int a2), (3, .int a3)] [] τ := by
  intro n
  induction n with
  | zero => intro a2 a3 τ; exact sm_none
  | succ n ih =>
    intro a2 a3 τ
    rw [X0_pass_L46]
    refine sm_seg C [(.iload_n 3, 0), (.aload_n 1, 0)] (pc' := 48) (L' := [(0, .ref 211), (1, .ref t1), (2, .int a2), (3, .int a3)]) (S' := [.ref t1, .int a3]) (by decide +kernel) rfl ?_
    refine sm_getI 8 1 cls8 C (ltX h1 (by decide)) h1 (obX8 h1) (by decide) (fiX8_1 h1) fl0_64 (by decide +kernel) ?_
    refine sm_icmpge 75 (off := 24) C (by decide +kernel) (by decide) (fun _ => ?_) (fun _ => ?_)
    · refine sm_seg C [(.aload_n 1, 0), (.dup, 0)] (pc' := 77) (L' := [(0, .ref 211), (1, .ref t1), (2, .int a2), (3, .int a3)]) (S' := [.ref t1, .ref t1]) (by decide +kernel) rfl ?_
      refine sm_getI 8 4 cls8 C (ltX h1 (by decide)) h1 (obX8 h1) (by decide) (fiX8_4 h1) fl0_57 (by decide +kernel) ?_
      refine sm_seg C [(.iconst 1, 1), (.iadd, 0)] (pc' := 82) (L' := [(0, .ref 211), (1, .ref t1), (2, .int a2), (3, .int a3)]) (S' := [.int ((τ t1 4) + 1), .ref t1]) (by decide +kernel) rfl ?_
      refine sm_pst 8 4 cls8 C (ltX h1 (by decide)) h1 (obX8 h1) (by decide) (fiX8_4 h1) rfl rfl rfl fl0_57 (by decide +kernel) (fun τ2 => ?_)
      exact sm_vret C hr (by decide +kernel)
    · refine sm_seg C [(.aload_n 1, 0), (.iload_n 3, 0)] (pc' := 56) (L' := [(0, .ref 211), (1, .ref t1), (2, .int a2), (3, .int a3)]) (S' := [.int a3, .ref t1]) (by decide +kernel) rfl ?_
      refine sm_vcal [.int a3] [] rfl C mw_X8_isAway ml_0_67 rfl (ci := 8) rfl (ltX h1 (by decide)) h1 (by decide) ⟨by decide, by decide⟩ (Nat.le_of_ble_eq_true rfl) (by decide +kernel) (c_X8_isAway F t1 h1 a3 τ) (fun r3 τ4 => ?_)
      refine sm_ifeq 69 (off := 10) C (by decide +kernel) (by decide) (fun _ => ?_) (fun _ => ?_)
      · exact sm_sub [0, 1, 2, 3] rfl (s_X0_pass_j69 F t1 C hr h1 (X0_pass_L46 F t1 n) ih a2 a3 τ4)
      · refine sm_seg C [(.aload_n 0, 0), (.aload_n 1, 0), (.iload_n 3, 0), (.iload_n 2, 0)] (pc' := 66) (L' := [(0, .ref 211), (1, .ref t1), (2, .int a2), (3, .int a3)]) (S' := [.int a2, .int a3, .ref t1, .ref 211]) (by decide +kernel) rfl ?_
        refine sm_vcalv [.ref t1, .int a3, .int a2] [] rfl C mw_X0_takeTurn ml_0_71 rfl (ci := 0) rfl (ltX (by decide +kernel : kdX 211 = 0) (by decide)) (by decide +kernel : kdX 211 = 0) (by decide) ⟨by decide, by decide⟩ (Nat.le_of_ble_eq_true rfl) (by decide +kernel) (c_X0_takeTurn F t1 h1 a3 a2 τ4) (fun r5 τ6 => ?_)
        exact sm_sub [0, 1, 2, 3] rfl (s_X0_pass_j69 F t1 C hr h1 (X0_pass_L46 F t1 n) ih a2 a3 τ6)
def X0_pass_j38 (F : Nat) (self2 : Int32 → Int32 → Tau → Option (Int32 × Tau)) (t1 : Nat) (a2 : Int32) (a3 : Int32) (τ : Tau) : Option (Int32 × Tau) :=
  self2 a2 (a3 + 1) τ
theorem s_X0_pass_j38 (F : Nat) (t1 : Nat) {K : Ctx} (C : Cx K sysX RX0 cX0_pass 4 7) (hr : Rt K none) (h1 : kdX t1 = 8) (self2 : Int32 → Int32 → Tau → Option (Int32 × Tau)) (ih2 : ∀ (a2 : Int32) (a3 : Int32) (τ : Tau), Sm K sysX 4 (Qv K sysX) (self2 a2 a3 τ) 2 [(0, .ref 211), (1, .ref t1), (2, .int a2), (3, .int a3)] [] τ) (a2 : Int32) (a3 : Int32) (τ : Tau) : Sm K sysX 4 (Qv K sysX) (X0_pass_j38 F self2 t1 a2 a3 τ) 38 [(0, .ref 211), (1, .ref t1), (2, .int a2), (3, .int a3)] [] τ := by
  unfold X0_pass_j38
  refine sm_seg C [(.iinc 3 1, 1), (.goto (-39), 0)] (pc' := 2) (L' := [(3, .int (a3 + 1)), (0, .ref 211), (1, .ref t1), (2, .int a2)]) (S' := []) (by decide +kernel) rfl ?_
  exact sm_sub [1, 2, 3, 0] rfl (ih2 a2 (a3 + 1) τ)
def X0_pass_L2 (F : Nat) (t1 : Nat) : Nat → Int32 → Int32 → Tau → Option (Int32 × Tau)
  | 0, _, _, _ => none
  | n + 1, a2, a3, τ =>
    ald τ 47 4 2 fun v1 => if v1 ≤ a3 then (X0_pass_L46 F t1 F a2 0 τ) else (cal (X9_courtAt F 1 a3 0 τ) fun r7 τ8 => if r7 = (τ8 t1 4) then (cal (X0_follow F t1 a3 a2 τ8) fun r9 τ10 => X0_pass_j38 F (X0_pass_L2 F t1 n) t1 a2 a3 τ10) else (X0_pass_j38 F (X0_pass_L2 F t1 n) t1 a2 a3 τ8))
theorem s_X0_pass_L2 (F : Nat) (t1 : Nat) {K : Ctx} (C : Cx K sysX RX0 cX0_pass 4 7) (hr : Rt K none) (h1 : kdX t1 = 8) : ∀ (n : Nat) (a2 : Int32) (a3 : Int32) (τ : Tau), Sm K sysX 4 (Qv K sysX) (X0_pass_L2 F t1 n a2 a3 τ) 2 [(0, .ref 211), (1, .ref t1), (2, .int a2), (3, .int a3)] [] τ := by
  intro n
  induction n with
  | zero => intro a2 a3 τ; exact sm_none
  | succ n ih =>
    intro a2 a3 τ
    rw [X0_pass_L2]
    refine sm_seg C [(.iload_n 3, 0), (.aload_n 0, 0)] (pc' := 4) (L' := [(0, .ref 211), (1, .ref t1), (2, .int a2), (3, .int a3)]) (S' := [.ref 211, .int a3]) (by decide +kernel) rfl ?_
    refine sm_getR 0 0 1 cls0 C (ltX (by decide +kernel : kdX 211 = 0) (by decide)) (by decide +kernel : kdX 211 = 0) (obX0 (by decide +kernel : kdX 211 = 0)) (by decide) (frX0_0 (by decide +kernel : kdX 211 = 0)) fl0_15 (by decide +kernel) ?_
    refine sm_getR 9 4 47 cls9 C (ltX (krX0_0 (by decide +kernel : kdX 211 = 0)) (by decide)) (krX0_0 (by decide +kernel : kdX 211 = 0)) (obX9 (krX0_0 (by decide +kernel : kdX 211 = 0))) (by decide) (frX9_4 (krX0_0 (by decide +kernel : kdX 211 = 0))) fl0_50 (by decide +kernel) ?_
    refine sm_seg C [(.iconst 2, 2)] (pc' := 11) (L' := [(0, .ref 211), (1, .ref t1), (2, .int a2), (3, .int a3)]) (S' := [.int 2, .ref 47, .int a3]) (by decide +kernel) rfl ?_
    refine sm_ald 4 C (ltX (krX9_4 (krX0_0 (by decide +kernel : kdX 211 = 0))) (by decide)) (krX9_4 (krX0_0 (by decide +kernel : kdX 211 = 0))) (nrX9_4 (krX0_0 (by decide +kernel : kdX 211 = 0))) (by decide +kernel) (fun v1 => ?_)
    refine sm_icmpge 44 (off := 32) C (by decide +kernel) (by decide) (fun _ => ?_) (fun _ => ?_)
    · refine sm_seg C [(.iconst 0, 0), (.istore_n 3, 0)] (pc' := 46) (L' := [(3, .int 0), (0, .ref 211), (1, .ref t1), (2, .int a2)]) (S' := []) (by decide +kernel) rfl ?_
      exact sm_sub [1, 2, 3, 0] rfl (s_X0_pass_L46 F t1 C hr h1 F a2 0 τ)
    · refine sm_seg C [(.aload_n 0, 0)] (pc' := 16) (L' := [(0, .ref 211), (1, .ref t1), (2, .int a2), (3, .int a3)]) (S' := [.ref 211]) (by decide +kernel) rfl ?_
      refine sm_getR 0 0 1 cls0 C (ltX (by decide +kernel : kdX 211 = 0) (by decide)) (by decide +kernel : kdX 211 = 0) (obX0 (by decide +kernel : kdX 211 = 0)) (by decide) (frX0_0 (by decide +kernel : kdX 211 = 0)) fl0_15 (by decide +kernel) ?_
      refine sm_seg C [(.iload_n 3, 0), (.iconst 0, 0)] (pc' := 21) (L' := [(0, .ref 211), (1, .ref t1), (2, .int a2), (3, .int a3)]) (S' := [.int 0, .int a3, .ref 1]) (by decide +kernel) rfl ?_
      refine sm_vcal [.int a3, .int 0] [] rfl C mw_X9_courtAt ml_0_53 rfl (ci := 9) rfl (ltX (krX0_0 (by decide +kernel : kdX 211 = 0)) (by decide)) (krX0_0 (by decide +kernel : kdX 211 = 0)) (by decide) ⟨by decide, by decide⟩ (Nat.le_of_ble_eq_true rfl) (by decide +kernel) (c_X9_courtAt F 1 (krX0_0 (by decide +kernel : kdX 211 = 0)) a3 0 τ) (fun r7 τ8 => ?_)
      refine sm_seg C [(.aload_n 1, 0)] (pc' := 25) (L' := [(0, .ref 211), (1, .ref t1), (2, .int a2), (3, .int a3)]) (S' := [.ref t1, .int r7]) (by decide +kernel) rfl ?_
      refine sm_getI 8 4 cls8 C (ltX h1 (by decide)) h1 (obX8 h1) (by decide) (fiX8_4 h1) fl0_57 (by decide +kernel) ?_
      refine sm_icmpne 38 (off := 10) C (by decide +kernel) (by decide) (fun _ => ?_) (fun _ => ?_)
      · refine sm_seg C [(.aload_n 0, 0), (.aload_n 1, 0), (.iload_n 3, 0), (.iload_n 2, 0)] (pc' := 35) (L' := [(0, .ref 211), (1, .ref t1), (2, .int a2), (3, .int a3)]) (S' := [.int a2, .int a3, .ref t1, .ref 211]) (by decide +kernel) rfl ?_
        refine sm_vcalv [.ref t1, .int a3, .int a2] [] rfl C mw_X0_follow ml_0_61 rfl (ci := 0) rfl (ltX (by decide +kernel : kdX 211 = 0) (by decide)) (by decide +kernel : kdX 211 = 0) (by decide) ⟨by decide, by decide⟩ (Nat.le_of_ble_eq_true rfl) (by decide +kernel) (c_X0_follow F t1 h1 a3 a2 τ8) (fun r9 τ10 => ?_)
        exact sm_sub [0, 1, 2, 3] rfl (s_X0_pass_j38 F t1 C hr h1 (X0_pass_L2 F t1 n) ih a2 a3 τ10)
      · exact sm_sub [0, 1, 2, 3] rfl (s_X0_pass_j38 F t1 C hr h1 (X0_pass_L2 F t1 n) ih a2 a3 τ8)
def X0_pass (F : Nat) (t1 : Nat) (a2 : Int32) (τ : Tau) : Option (Int32 × Tau) :=
  X0_pass_L2 F t1 F a2 0 τ
set_option maxRecDepth 20000 in
set_option maxHeartbeats 4000000 in
theorem c_X0_pass (F : Nat) (t1 : Nat) (h1 : kdX t1 = 8) (a2 : Int32) (τ : Tau) (r : Int32) (τ' : Tau) (h : X0_pass F t1 a2 τ = some (r, τ')) : MCv sysX yX0_pass cX0_pass 4 7 [.ref 211, .ref t1, .int a2] τ τ' :=
  mcv_of (by decide +kernel) (Nat.le_of_ble_eq_true rfl) (fun K C hr => by
    show Sm K sysX 4 (Qv K sysX) (X0_pass F t1 a2 τ) 0 [(0, .ref 211), (1, .ref t1), (2, .int a2)] [] τ
    unfold X0_pass
    refine sm_seg C [(.iconst 0, 0), (.istore_n 3, 0)] (pc' := 2) (L' := [(3, .int 0), (0, .ref 211), (1, .ref t1), (2, .int a2)]) (S' := []) (by decide +kernel) rfl ?_
    exact sm_sub [1, 2, 3, 0] rfl (s_X0_pass_L2 F t1 C hr h1 F a2 0 τ)) h
/-! BasketEnvoys.days -/
def X10_days_L46 (F : Nat) : Nat → Int32 → Int32 → Int32 → Tau → Option (Int32 × Tau)
  | 0, _, _, _, _ => none
  | n + 1, a1, a2, a3, τ =>
    if a1 ≤ a3 then (cal (X10_sum F 5 τ) fun r5 τ6 => some ((r5 - a2), τ6)) else (cal (X1_keep F 2 τ) fun r7 τ8 => cal (X0_pass F 2 1 τ8) fun r9 τ10 => X10_days_L46 F n a1 a2 (a3 + 1) τ10)
theorem s_X10_days_L46 (F : Nat) {K : Ctx} (C : Cx K sysX RX10 cX10_days 4 8) (hr : Rt K (some .int)) : ∀ (n : Nat) (a1 : Int32) (a2 : Int32) (a3 : Int32) (τ : Tau), Sm K sysX 4 (Qi K sysX) (X10_days_L46 F n a1 a2 a3 τ) 46 [(0, .ref 0), (1, .int a1), (2, .int a2), (3, .int a3)] [] τ := by
  intro n
  induction n with
  | zero => intro a1 a2 a3 τ; exact sm_none
  | succ n ih =>
    intro a1 a2 a3 τ
    rw [X10_days_L46]
    refine sm_seg C [(.iload_n 3, 0), (.iload_n 1, 0)] (pc' := 48) (L' := [(0, .ref 0), (1, .int a1), (2, .int a2), (3, .int a3)]) (S' := [.int a1, .int a3]) (by decide +kernel) rfl ?_
    refine sm_icmpge 86 (off := 38) C (by decide +kernel) (by decide) (fun _ => ?_) (fun _ => ?_)
    · refine sm_seg C [(.aload_n 0, 0)] (pc' := 87) (L' := [(0, .ref 0), (1, .int a1), (2, .int a2), (3, .int a3)]) (S' := [.ref 0]) (by decide +kernel) rfl ?_
      refine sm_getR 10 0 1 cls10 C (ltX (by decide +kernel : kdX 0 = 10) (by decide)) (by decide +kernel : kdX 0 = 10) (obX10 (by decide +kernel : kdX 0 = 10)) (by decide) (frX10_0 (by decide +kernel : kdX 0 = 10)) fl10_12 (by decide +kernel) ?_
      refine sm_getR 9 0 2 cls9 C (ltX (krX10_0 (by decide +kernel : kdX 0 = 10)) (by decide)) (krX10_0 (by decide +kernel : kdX 0 = 10)) (obX9 (krX10_0 (by decide +kernel : kdX 0 = 10))) (by decide) (frX9_0 (krX10_0 (by decide +kernel : kdX 0 = 10))) fl10_60 (by decide +kernel) ?_
      refine sm_getR 8 9 5 cls8 C (ltX (krX9_0 (krX10_0 (by decide +kernel : kdX 0 = 10))) (by decide)) (krX9_0 (krX10_0 (by decide +kernel : kdX 0 = 10))) (obX8 (krX9_0 (krX10_0 (by decide +kernel : kdX 0 = 10)))) (by decide) (frX8_9 (krX9_0 (krX10_0 (by decide +kernel : kdX 0 = 10)))) fl10_105 (by decide +kernel) ?_
      refine sm_scal [.ref 5] [] rfl C mw_X10_sum ml_10_109 rfl ⟨by decide, by decide⟩ (Nat.le_of_ble_eq_true rfl) (by decide +kernel) (c_X10_sum F 5 (krX8_9 (krX9_0 (krX10_0 (by decide +kernel : kdX 0 = 10)))) τ) (fun r5 τ6 => ?_)
      refine sm_seg C [(.iload_n 2, 0), (.isub, 0)] (pc' := 101) (L' := [(0, .ref 0), (1, .int a1), (2, .int a2), (3, .int a3)]) (S' := [.int (r5 - a2)]) (by decide +kernel) rfl ?_
      exact sm_iret C hr rfl (by decide +kernel)
    · refine sm_seg C [(.aload_n 0, 0)] (pc' := 52) (L' := [(0, .ref 0), (1, .int a1), (2, .int a2), (3, .int a3)]) (S' := [.ref 0]) (by decide +kernel) rfl ?_
      refine sm_getR 10 4 116 cls10 C (ltX (by decide +kernel : kdX 0 = 10) (by decide)) (by decide +kernel : kdX 0 = 10) (obX10 (by decide +kernel : kdX 0 = 10)) (by decide) (frX10_4 (by decide +kernel : kdX 0 = 10)) fl10_33 (by decide +kernel) ?_
      refine sm_seg C [(.aload_n 0, 0)] (pc' := 56) (L' := [(0, .ref 0), (1, .int a1), (2, .int a2), (3, .int a3)]) (S' := [.ref 0, .ref 116]) (by decide +kernel) rfl ?_
      refine sm_getR 10 0 1 cls10 C (ltX (by decide +kernel : kdX 0 = 10) (by decide)) (by decide +kernel : kdX 0 = 10) (obX10 (by decide +kernel : kdX 0 = 10)) (by decide) (frX10_0 (by decide +kernel : kdX 0 = 10)) fl10_12 (by decide +kernel) ?_
      refine sm_getR 9 0 2 cls9 C (ltX (krX10_0 (by decide +kernel : kdX 0 = 10)) (by decide)) (krX10_0 (by decide +kernel : kdX 0 = 10)) (obX9 (krX10_0 (by decide +kernel : kdX 0 = 10))) (by decide) (frX9_0 (krX10_0 (by decide +kernel : kdX 0 = 10))) fl10_60 (by decide +kernel) ?_
      refine sm_vcalv [.ref 2] [] rfl C mw_X1_keep ml_10_94 rfl (ci := 1) rfl (ltX (krX10_4 (by decide +kernel : kdX 0 = 10)) (by decide)) (krX10_4 (by decide +kernel : kdX 0 = 10)) (by decide) ⟨by decide, by decide⟩ (Nat.le_of_ble_eq_true rfl) (by decide +kernel) (c_X1_keep F 2 (krX9_0 (krX10_0 (by decide +kernel : kdX 0 = 10))) τ) (fun r7 τ8 => ?_)
      refine sm_seg C [(.aload_n 0, 0)] (pc' := 66) (L' := [(0, .ref 0), (1, .int a1), (2, .int a2), (3, .int a3)]) (S' := [.ref 0]) (by decide +kernel) rfl ?_
      refine sm_getR 10 6 211 cls10 C (ltX (by decide +kernel : kdX 0 = 10) (by decide)) (by decide +kernel : kdX 0 = 10) (obX10 (by decide +kernel : kdX 0 = 10)) (by decide) (frX10_6 (by decide +kernel : kdX 0 = 10)) fl10_49 (by decide +kernel) ?_
      refine sm_seg C [(.aload_n 0, 0)] (pc' := 70) (L' := [(0, .ref 0), (1, .int a1), (2, .int a2), (3, .int a3)]) (S' := [.ref 0, .ref 211]) (by decide +kernel) rfl ?_
      refine sm_getR 10 0 1 cls10 C (ltX (by decide +kernel : kdX 0 = 10) (by decide)) (by decide +kernel : kdX 0 = 10) (obX10 (by decide +kernel : kdX 0 = 10)) (by decide) (frX10_0 (by decide +kernel : kdX 0 = 10)) fl10_12 (by decide +kernel) ?_
      refine sm_getR 9 0 2 cls9 C (ltX (krX10_0 (by decide +kernel : kdX 0 = 10)) (by decide)) (krX10_0 (by decide +kernel : kdX 0 = 10)) (obX9 (krX10_0 (by decide +kernel : kdX 0 = 10))) (by decide) (frX9_0 (krX10_0 (by decide +kernel : kdX 0 = 10))) fl10_60 (by decide +kernel) ?_
      refine sm_seg C [(.iconst 1, 1)] (pc' := 77) (L' := [(0, .ref 0), (1, .int a1), (2, .int a2), (3, .int a3)]) (S' := [.int 1, .ref 2, .ref 211]) (by decide +kernel) rfl ?_
      refine sm_vcalv [.ref 2, .int 1] [] rfl C mw_X0_pass ml_10_113 rfl (ci := 0) rfl (ltX (krX10_6 (by decide +kernel : kdX 0 = 10)) (by decide)) (krX10_6 (by decide +kernel : kdX 0 = 10)) (by decide) ⟨by decide, by decide⟩ (Nat.le_of_ble_eq_true rfl) (by decide +kernel) (c_X0_pass F 2 (krX9_0 (krX10_0 (by decide +kernel : kdX 0 = 10))) 1 τ8) (fun r9 τ10 => ?_)
      refine sm_seg C [(.iinc 3 1, 1), (.goto (-37), 0)] (pc' := 46) (L' := [(3, .int (a3 + 1)), (0, .ref 0), (1, .int a1), (2, .int a2)]) (S' := []) (by decide +kernel) rfl ?_
      exact sm_sub [1, 2, 3, 0] rfl (ih a1 a2 (a3 + 1) τ10)
def X10_days (F : Nat) (a1 : Int32) (τ : Tau) : Option (Int32 × Tau) :=
  cal (X10_within F a1 1 60 τ) fun r1 τ2 => if r1 = 0 then (some ((-1), τ2)) else (if ((τ2 2 4) + a1) ≤ 9999 then (cal (X10_sum F 5 τ2) fun r3 τ4 => X10_days_L46 F F a1 r3 0 τ4) else (some ((-1), τ2)))
set_option maxRecDepth 20000 in
set_option maxHeartbeats 4000000 in
theorem c_X10_days (F : Nat) (a1 : Int32) (τ : Tau) (r : Int32) (τ' : Tau) (h : X10_days F a1 τ = some (r, τ')) : MCi sysX yX10_days cX10_days 4 (some .int) 8 [.ref 0, .int a1] τ r τ' :=
  mci_of (by decide +kernel) (Nat.le_of_ble_eq_true rfl) (fun K C hr => by
    show Sm K sysX 4 (Qi K sysX) (X10_days F a1 τ) 0 [(0, .ref 0), (1, .int a1)] [] τ
    unfold X10_days
    refine sm_seg C [(.iload_n 1, 0), (.iconst 1, 1), (.bipush 60, 60)] (pc' := 4) (L' := [(0, .ref 0), (1, .int a1)]) (S' := [.int 60, .int 1, .int a1]) (by decide +kernel) rfl ?_
    refine sm_scal [.int a1, .int 1, .int 60] [] rfl C mw_X10_within ml_10_70 rfl ⟨by decide, by decide⟩ (Nat.le_of_ble_eq_true rfl) (by decide +kernel) (c_X10_within F a1 1 60 τ) (fun r1 τ2 => ?_)
    refine sm_ifeq 28 (off := 21) C (by decide +kernel) (by decide) (fun _ => ?_) (fun _ => ?_)
    · refine sm_seg C [(.iconst (-1), (-1))] (pc' := 29) (L' := [(0, .ref 0), (1, .int a1)]) (S' := [.int (-1)]) (by decide +kernel) rfl ?_
      exact sm_iret C hr rfl (by decide +kernel)
    · refine sm_seg C [(.aload_n 0, 0)] (pc' := 11) (L' := [(0, .ref 0), (1, .int a1)]) (S' := [.ref 0]) (by decide +kernel) rfl ?_
      refine sm_getR 10 0 1 cls10 C (ltX (by decide +kernel : kdX 0 = 10) (by decide)) (by decide +kernel : kdX 0 = 10) (obX10 (by decide +kernel : kdX 0 = 10)) (by decide) (frX10_0 (by decide +kernel : kdX 0 = 10)) fl10_12 (by decide +kernel) ?_
      refine sm_getR 9 0 2 cls9 C (ltX (krX10_0 (by decide +kernel : kdX 0 = 10)) (by decide)) (krX10_0 (by decide +kernel : kdX 0 = 10)) (obX9 (krX10_0 (by decide +kernel : kdX 0 = 10))) (by decide) (frX9_0 (krX10_0 (by decide +kernel : kdX 0 = 10))) fl10_60 (by decide +kernel) ?_
      refine sm_getI 8 4 cls8 C (ltX (krX9_0 (krX10_0 (by decide +kernel : kdX 0 = 10))) (by decide)) (krX9_0 (krX10_0 (by decide +kernel : kdX 0 = 10))) (obX8 (krX9_0 (krX10_0 (by decide +kernel : kdX 0 = 10)))) (by decide) (fiX8_4 (krX9_0 (krX10_0 (by decide +kernel : kdX 0 = 10)))) fl10_102 (by decide +kernel) ?_
      refine sm_seg C [(.iload_n 1, 0), (.iadd, 0), (.sipush 9999, 9999)] (pc' := 25) (L' := [(0, .ref 0), (1, .int a1)]) (S' := [.int 9999, .int ((τ2 2 4) + a1)]) (by decide +kernel) rfl ?_
      refine sm_icmple 30 (off := 5) C (by decide +kernel) (by decide) (fun _ => ?_) (fun _ => ?_)
      · refine sm_seg C [(.aload_n 0, 0)] (pc' := 31) (L' := [(0, .ref 0), (1, .int a1)]) (S' := [.ref 0]) (by decide +kernel) rfl ?_
        refine sm_getR 10 0 1 cls10 C (ltX (by decide +kernel : kdX 0 = 10) (by decide)) (by decide +kernel : kdX 0 = 10) (obX10 (by decide +kernel : kdX 0 = 10)) (by decide) (frX10_0 (by decide +kernel : kdX 0 = 10)) fl10_12 (by decide +kernel) ?_
        refine sm_getR 9 0 2 cls9 C (ltX (krX10_0 (by decide +kernel : kdX 0 = 10)) (by decide)) (krX10_0 (by decide +kernel : kdX 0 = 10)) (obX9 (krX10_0 (by decide +kernel : kdX 0 = 10))) (by decide) (frX9_0 (krX10_0 (by decide +kernel : kdX 0 = 10))) fl10_60 (by decide +kernel) ?_
        refine sm_getR 8 9 5 cls8 C (ltX (krX9_0 (krX10_0 (by decide +kernel : kdX 0 = 10))) (by decide)) (krX9_0 (krX10_0 (by decide +kernel : kdX 0 = 10))) (obX8 (krX9_0 (krX10_0 (by decide +kernel : kdX 0 = 10)))) (by decide) (frX8_9 (krX9_0 (krX10_0 (by decide +kernel : kdX 0 = 10)))) fl10_105 (by decide +kernel) ?_
        refine sm_scal [.ref 5] [] rfl C mw_X10_sum ml_10_109 rfl ⟨by decide, by decide⟩ (Nat.le_of_ble_eq_true rfl) (by decide +kernel) (c_X10_sum F 5 (krX8_9 (krX9_0 (krX10_0 (by decide +kernel : kdX 0 = 10)))) τ2) (fun r3 τ4 => ?_)
        refine sm_seg C [(.istore_n 2, 0), (.iconst 0, 0), (.istore_n 3, 0)] (pc' := 46) (L' := [(3, .int 0), (2, .int r3), (0, .ref 0), (1, .int a1)]) (S' := []) (by decide +kernel) rfl ?_
        exact sm_sub [2, 3, 1, 0] rfl (s_X10_days_L46 F C hr F a1 r3 0 τ4)
      · refine sm_seg C [(.iconst (-1), (-1))] (pc' := 29) (L' := [(0, .ref 0), (1, .int a1)]) (S' := [.int (-1)]) (by decide +kernel) rfl ?_
        exact sm_iret C hr rfl (by decide +kernel)) h
/-! BasketEnvoys.end -/
def X10_end (F : Nat) (a1 : Int32) (τ : Tau) : Option (Int32 × Tau) :=
  cal (X10_within F a1 0 (τ 197 0) τ) fun r1 τ2 => if r1 = 0 then (some (0, τ2)) else (pst τ2 197 0 a1 fun τ3 => some (1, τ3))
set_option maxRecDepth 20000 in
set_option maxHeartbeats 4000000 in
theorem c_X10_end (F : Nat) (a1 : Int32) (τ : Tau) (r : Int32) (τ' : Tau) (h : X10_end F a1 τ = some (r, τ')) : MCi sysX yX10_end cX10_end 2 (some .boolean) 2 [.ref 0, .int a1] τ r τ' :=
  mci_of (by decide +kernel) (Nat.le_of_ble_eq_true rfl) (fun K C hr => by
    show Sm K sysX 2 (Qi K sysX) (X10_end F a1 τ) 0 [(0, .ref 0), (1, .int a1)] [] τ
    unfold X10_end
    refine sm_seg C [(.iload_n 1, 0), (.iconst 0, 0), (.aload_n 0, 0)] (pc' := 3) (L' := [(0, .ref 0), (1, .int a1)]) (S' := [.ref 0, .int 0, .int a1]) (by decide +kernel) rfl ?_
    refine sm_getR 10 5 196 cls10 C (ltX (by decide +kernel : kdX 0 = 10) (by decide)) (by decide +kernel : kdX 0 = 10) (obX10 (by decide +kernel : kdX 0 = 10)) (by decide) (frX10_5 (by decide +kernel : kdX 0 = 10)) fl10_40 (by decide +kernel) ?_
    refine sm_getR 3 0 197 cls3 C (ltX (krX10_5 (by decide +kernel : kdX 0 = 10)) (by decide)) (krX10_5 (by decide +kernel : kdX 0 = 10)) (obX3 (krX10_5 (by decide +kernel : kdX 0 = 10))) (by decide) (frX3_0 (krX10_5 (by decide +kernel : kdX 0 = 10))) fl10_117 (by decide +kernel) ?_
    refine sm_getI 6 0 cls6 C (ltX (krX3_0 (krX10_5 (by decide +kernel : kdX 0 = 10))) (by decide)) (krX3_0 (krX10_5 (by decide +kernel : kdX 0 = 10))) (obX6 (krX3_0 (krX10_5 (by decide +kernel : kdX 0 = 10)))) (by decide) (fiX6_0 (krX3_0 (krX10_5 (by decide +kernel : kdX 0 = 10)))) fl10_131 (by decide +kernel) ?_
    refine sm_scal [.int a1, .int 0, .int (τ 197 0)] [] rfl C mw_X10_within ml_10_70 rfl ⟨by decide, by decide⟩ (Nat.le_of_ble_eq_true rfl) (by decide +kernel) (c_X10_within F a1 0 (τ 197 0) τ) (fun r1 τ2 => ?_)
    refine sm_ifne 20 (off := 5) C (by decide +kernel) (by decide) (fun _ => ?_) (fun _ => ?_)
    · refine sm_seg C [(.iconst 0, 0)] (pc' := 19) (L' := [(0, .ref 0), (1, .int a1)]) (S' := [.int 0]) (by decide +kernel) rfl ?_
      exact sm_iret C hr rfl (by decide +kernel)
    · refine sm_seg C [(.aload_n 0, 0)] (pc' := 21) (L' := [(0, .ref 0), (1, .int a1)]) (S' := [.ref 0]) (by decide +kernel) rfl ?_
      refine sm_getR 10 5 196 cls10 C (ltX (by decide +kernel : kdX 0 = 10) (by decide)) (by decide +kernel : kdX 0 = 10) (obX10 (by decide +kernel : kdX 0 = 10)) (by decide) (frX10_5 (by decide +kernel : kdX 0 = 10)) fl10_40 (by decide +kernel) ?_
      refine sm_getR 3 0 197 cls3 C (ltX (krX10_5 (by decide +kernel : kdX 0 = 10)) (by decide)) (krX10_5 (by decide +kernel : kdX 0 = 10)) (obX3 (krX10_5 (by decide +kernel : kdX 0 = 10))) (by decide) (frX3_0 (krX10_5 (by decide +kernel : kdX 0 = 10))) fl10_117 (by decide +kernel) ?_
      refine sm_seg C [(.iload_n 1, 0)] (pc' := 28) (L' := [(0, .ref 0), (1, .int a1)]) (S' := [.int a1, .ref 197]) (by decide +kernel) rfl ?_
      refine sm_pst 6 0 cls6 C (ltX (krX3_0 (krX10_5 (by decide +kernel : kdX 0 = 10))) (by decide)) (krX3_0 (krX10_5 (by decide +kernel : kdX 0 = 10))) (obX6 (krX3_0 (krX10_5 (by decide +kernel : kdX 0 = 10)))) (by decide) (fiX6_0 (krX3_0 (krX10_5 (by decide +kernel : kdX 0 = 10)))) rfl rfl rfl fl10_131 (by decide +kernel) (fun τ3 => ?_)
      refine sm_seg C [(.iconst 1, 1)] (pc' := 32) (L' := [(0, .ref 0), (1, .int a1)]) (S' := [.int 1]) (by decide +kernel) rfl ?_
      exact sm_iret C hr rfl (by decide +kernel)) h
/-! BasketEnvoys.fault -/
def X10_fault (F : Nat) (a1 : Int32) (τ : Tau) : Option (Int32 × Tau) :=
  if a1 = 0 then (some ((τ 197 1), τ)) else if a1 = 1 then (some ((τ 197 2), τ)) else (some ((-1), τ))
set_option maxRecDepth 20000 in
set_option maxHeartbeats 4000000 in
theorem c_X10_fault (F : Nat) (a1 : Int32) (τ : Tau) (r : Int32) (τ' : Tau) (h : X10_fault F a1 τ = some (r, τ')) : MCi sysX yX10_fault cX10_fault 2 (some .int) 1 [.ref 0, .int a1] τ r τ' :=
  mci_of (by decide +kernel) (Nat.le_of_ble_eq_true rfl) (fun K C hr => by
    show Sm K sysX 2 (Qi K sysX) (X10_fault F a1 τ) 0 [(0, .ref 0), (1, .int a1)] [] τ
    unfold X10_fault
    refine sm_seg C [(.iload_n 1, 0)] (pc' := 1) (L' := [(0, .ref 0), (1, .int a1)]) (S' := [.int a1]) (by decide +kernel) rfl ?_
    have hd1 : decode cX10_fault 1 = .ok (.lookupswitch 49 #[(0, 27), (1, 38)], 27) := by decide +kernel
    refine sm_ite (fun e => ?_) (fun n1_0 => ?_)
    · refine sm_look (off := 27) 28 C hd1 (by decide) (by rw [e]; decide) (by decide) ?_
      refine sm_seg C [(.aload_n 0, 0)] (pc' := 29) (L' := [(0, .ref 0), (1, .int a1)]) (S' := [.ref 0]) (by decide +kernel) rfl ?_
      refine sm_getR 10 5 196 cls10 C (ltX (by decide +kernel : kdX 0 = 10) (by decide)) (by decide +kernel : kdX 0 = 10) (obX10 (by decide +kernel : kdX 0 = 10)) (by decide) (frX10_5 (by decide +kernel : kdX 0 = 10)) fl10_40 (by decide +kernel) ?_
      refine sm_getR 3 0 197 cls3 C (ltX (krX10_5 (by decide +kernel : kdX 0 = 10)) (by decide)) (krX10_5 (by decide +kernel : kdX 0 = 10)) (obX3 (krX10_5 (by decide +kernel : kdX 0 = 10))) (by decide) (frX3_0 (krX10_5 (by decide +kernel : kdX 0 = 10))) fl10_117 (by decide +kernel) ?_
      refine sm_getI 6 1 cls6 C (ltX (krX3_0 (krX10_5 (by decide +kernel : kdX 0 = 10))) (by decide)) (krX3_0 (krX10_5 (by decide +kernel : kdX 0 = 10))) (obX6 (krX3_0 (krX10_5 (by decide +kernel : kdX 0 = 10)))) (by decide) (fiX6_1 (krX3_0 (krX10_5 (by decide +kernel : kdX 0 = 10)))) fl10_162 (by decide +kernel) ?_
      exact sm_iret C hr rfl (by decide +kernel)
    refine sm_ite (fun e => ?_) (fun n1_1 => ?_)
    · refine sm_look (off := 38) 39 C hd1 (by decide) (by rw [e]; decide) (by decide) ?_
      refine sm_seg C [(.aload_n 0, 0)] (pc' := 40) (L' := [(0, .ref 0), (1, .int a1)]) (S' := [.ref 0]) (by decide +kernel) rfl ?_
      refine sm_getR 10 5 196 cls10 C (ltX (by decide +kernel : kdX 0 = 10) (by decide)) (by decide +kernel : kdX 0 = 10) (obX10 (by decide +kernel : kdX 0 = 10)) (by decide) (frX10_5 (by decide +kernel : kdX 0 = 10)) fl10_40 (by decide +kernel) ?_
      refine sm_getR 3 0 197 cls3 C (ltX (krX10_5 (by decide +kernel : kdX 0 = 10)) (by decide)) (krX10_5 (by decide +kernel : kdX 0 = 10)) (obX3 (krX10_5 (by decide +kernel : kdX 0 = 10))) (by decide) (frX3_0 (krX10_5 (by decide +kernel : kdX 0 = 10))) fl10_117 (by decide +kernel) ?_
      refine sm_getI 6 2 cls6 C (ltX (krX3_0 (krX10_5 (by decide +kernel : kdX 0 = 10))) (by decide)) (krX3_0 (krX10_5 (by decide +kernel : kdX 0 = 10))) (obX6 (krX3_0 (krX10_5 (by decide +kernel : kdX 0 = 10)))) (by decide) (fiX6_2 (krX3_0 (krX10_5 (by decide +kernel : kdX 0 = 10)))) fl10_165 (by decide +kernel) ?_
      exact sm_iret C hr rfl (by decide +kernel)
    refine sm_look (off := 49) 50 C hd1 (by decide) (by show Op.lookupswitch.offset [(0, 27), (1, 38)] 49 _ = _; rw [look_ne (toInt_neZ (z := 0) n1_0 (by decide)), look_ne (toInt_neZ (z := 1) n1_1 (by decide))]; rfl) (by decide) ?_
    refine sm_seg C [(.iconst (-1), (-1))] (pc' := 51) (L' := [(0, .ref 0), (1, .int a1)]) (S' := [.int (-1)]) (by decide +kernel) rfl ?_
    exact sm_iret C hr rfl (by decide +kernel)) h
/-! BasketEnvoys_Tokens.hasRoom -/
def X6_hasRoom (F : Nat) (τ : Tau) : Option (Int32 × Tau) :=
  if 400 < ((τ 197 0) + 20) then (some (0, τ)) else (some (1, τ))
set_option maxRecDepth 20000 in
set_option maxHeartbeats 4000000 in
theorem c_X6_hasRoom (F : Nat) (τ : Tau) (r : Int32) (τ' : Tau) (h : X6_hasRoom F τ = some (r, τ')) : MCi sysX yX6_hasRoom cX6_hasRoom 1 (some .boolean) 1 [.ref 197] τ r τ' :=
  mci_of (by decide +kernel) (Nat.le_of_ble_eq_true rfl) (fun K C hr => by
    show Sm K sysX 1 (Qi K sysX) (X6_hasRoom F τ) 0 [(0, .ref 197)] [] τ
    unfold X6_hasRoom
    refine sm_seg C [(.aload_n 0, 0)] (pc' := 1) (L' := [(0, .ref 197)]) (S' := [.ref 197]) (by decide +kernel) rfl ?_
    refine sm_getI 6 0 cls6 C (ltX (by decide +kernel : kdX 197 = 6) (by decide)) (by decide +kernel : kdX 197 = 6) (obX6 (by decide +kernel : kdX 197 = 6)) (by decide) (fiX6_0 (by decide +kernel : kdX 197 = 6)) fl6_9 (by decide +kernel) ?_
    refine sm_seg C [(.bipush 20, 20), (.iadd, 0), (.sipush 400, 400)] (pc' := 10) (L' := [(0, .ref 197)]) (S' := [.int 400, .int ((τ 197 0) + 20)]) (by decide +kernel) rfl ?_
    refine sm_icmpgt 17 (off := 7) C (by decide +kernel) (by decide) (fun _ => ?_) (fun _ => ?_)
    · refine sm_seg C [(.iconst 0, 0)] (pc' := 18) (L' := [(0, .ref 197)]) (S' := [.int 0]) (by decide +kernel) rfl ?_
      exact sm_iret C hr rfl (by decide +kernel)
    · refine sm_seg C [(.iconst 1, 1), (.goto 4, 0)] (pc' := 18) (L' := [(0, .ref 197)]) (S' := [.int 1]) (by decide +kernel) rfl ?_
      exact sm_iret C hr rfl (by decide +kernel)) h
/-! BasketEnvoys_Tokens.addBytes -/
def X6_addBytes (F : Nat) (a1 : Int32) (τ : Tau) : Option (Int32 × Tau) :=
  if (τ 197 0) < 0 then (some (0, τ)) else (if 400 < ((τ 197 0) + 4) then (some (0, τ)) else (ast τ 198 400 (τ 197 0) (vp_nar .char (chr (ushr a1 24))) fun τ1 => ast τ1 198 400 ((τ1 197 0) + 1) (vp_nar .char (chr ((ushr a1 16) &&& 255))) fun τ2 => ast τ2 198 400 ((τ2 197 0) + 2) (vp_nar .char (chr ((ushr a1 8) &&& 255))) fun τ3 => ast τ3 198 400 ((τ3 197 0) + 3) (vp_nar .char (chr (a1 &&& 255))) fun τ4 => pst τ4 197 0 ((τ4 197 0) + 4) fun τ5 => some (0, τ5)))
set_option maxRecDepth 20000 in
set_option maxHeartbeats 4000000 in
theorem c_X6_addBytes (F : Nat) (a1 : Int32) (τ : Tau) (r : Int32) (τ' : Tau) (h : X6_addBytes F a1 τ = some (r, τ')) : MCv sysX yX6_addBytes cX6_addBytes 2 1 [.ref 197, .int a1] τ τ' :=
  mcv_of (by decide +kernel) (Nat.le_of_ble_eq_true rfl) (fun K C hr => by
    show Sm K sysX 2 (Qv K sysX) (X6_addBytes F a1 τ) 0 [(0, .ref 197), (1, .int a1)] [] τ
    unfold X6_addBytes
    refine sm_seg C [(.aload_n 0, 0)] (pc' := 1) (L' := [(0, .ref 197), (1, .int a1)]) (S' := [.ref 197]) (by decide +kernel) rfl ?_
    refine sm_getI 6 0 cls6 C (ltX (by decide +kernel : kdX 197 = 6) (by decide)) (by decide +kernel : kdX 197 = 6) (obX6 (by decide +kernel : kdX 197 = 6)) (by decide) (fiX6_0 (by decide +kernel : kdX 197 = 6)) fl6_9 (by decide +kernel) ?_
    refine sm_iflt 100 (off := 96) C (by decide +kernel) (by decide) (fun _ => ?_) (fun _ => ?_)
    · exact sm_vret C hr (by decide +kernel)
    · refine sm_seg C [(.aload_n 0, 0)] (pc' := 8) (L' := [(0, .ref 197), (1, .int a1)]) (S' := [.ref 197]) (by decide +kernel) rfl ?_
      refine sm_getI 6 0 cls6 C (ltX (by decide +kernel : kdX 197 = 6) (by decide)) (by decide +kernel : kdX 197 = 6) (obX6 (by decide +kernel : kdX 197 = 6)) (by decide) (fiX6_0 (by decide +kernel : kdX 197 = 6)) fl6_9 (by decide +kernel) ?_
      refine sm_seg C [(.iconst 4, 4), (.iadd, 0), (.sipush 400, 400)] (pc' := 16) (L' := [(0, .ref 197), (1, .int a1)]) (S' := [.int 400, .int ((τ 197 0) + 4)]) (by decide +kernel) rfl ?_
      refine sm_icmpgt 100 (off := 84) C (by decide +kernel) (by decide) (fun _ => ?_) (fun _ => ?_)
      · exact sm_vret C hr (by decide +kernel)
      · refine sm_seg C [(.aload_n 0, 0)] (pc' := 20) (L' := [(0, .ref 197), (1, .int a1)]) (S' := [.ref 197]) (by decide +kernel) rfl ?_
        refine sm_getR 6 8 198 cls6 C (ltX (by decide +kernel : kdX 197 = 6) (by decide)) (by decide +kernel : kdX 197 = 6) (obX6 (by decide +kernel : kdX 197 = 6)) (by decide) (frX6_8 (by decide +kernel : kdX 197 = 6)) fl6_36 (by decide +kernel) ?_
        refine sm_seg C [(.aload_n 0, 0)] (pc' := 24) (L' := [(0, .ref 197), (1, .int a1)]) (S' := [.ref 197, .ref 198]) (by decide +kernel) rfl ?_
        refine sm_getI 6 0 cls6 C (ltX (by decide +kernel : kdX 197 = 6) (by decide)) (by decide +kernel : kdX 197 = 6) (obX6 (by decide +kernel : kdX 197 = 6)) (by decide) (fiX6_0 (by decide +kernel : kdX 197 = 6)) fl6_9 (by decide +kernel) ?_
        refine sm_seg C [(.iload_n 1, 0), (.bipush 24, 24), (.iushr, 0), (.i2c, 0)] (pc' := 32) (L' := [(0, .ref 197), (1, .int a1)]) (S' := [.int (chr (ushr a1 24)), .int (τ 197 0), .ref 198]) (by decide +kernel) rfl ?_
        refine sm_astc 400 C (ltX (krX6_8 (by decide +kernel : kdX 197 = 6)) (by decide)) (krX6_8 (by decide +kernel : kdX 197 = 6)) (nrX6_8 (by decide +kernel : kdX 197 = 6)) (by decide +kernel) (fun τ1 => ?_)
        refine sm_seg C [(.aload_n 0, 0)] (pc' := 34) (L' := [(0, .ref 197), (1, .int a1)]) (S' := [.ref 197]) (by decide +kernel) rfl ?_
        refine sm_getR 6 8 198 cls6 C (ltX (by decide +kernel : kdX 197 = 6) (by decide)) (by decide +kernel : kdX 197 = 6) (obX6 (by decide +kernel : kdX 197 = 6)) (by decide) (frX6_8 (by decide +kernel : kdX 197 = 6)) fl6_36 (by decide +kernel) ?_
        refine sm_seg C [(.aload_n 0, 0)] (pc' := 38) (L' := [(0, .ref 197), (1, .int a1)]) (S' := [.ref 197, .ref 198]) (by decide +kernel) rfl ?_
        refine sm_getI 6 0 cls6 C (ltX (by decide +kernel : kdX 197 = 6) (by decide)) (by decide +kernel : kdX 197 = 6) (obX6 (by decide +kernel : kdX 197 = 6)) (by decide) (fiX6_0 (by decide +kernel : kdX 197 = 6)) fl6_9 (by decide +kernel) ?_
        refine sm_seg C [(.iconst 1, 1), (.iadd, 0), (.iload_n 1, 0), (.bipush 16, 16), (.iushr, 0), (.sipush 255, 255), (.iand, 0), (.i2c, 0)] (pc' := 52) (L' := [(0, .ref 197), (1, .int a1)]) (S' := [.int (chr ((ushr a1 16) &&& 255)), .int ((τ1 197 0) + 1), .ref 198]) (by decide +kernel) rfl ?_
        refine sm_astc 400 C (ltX (krX6_8 (by decide +kernel : kdX 197 = 6)) (by decide)) (krX6_8 (by decide +kernel : kdX 197 = 6)) (nrX6_8 (by decide +kernel : kdX 197 = 6)) (by decide +kernel) (fun τ2 => ?_)
        refine sm_seg C [(.aload_n 0, 0)] (pc' := 54) (L' := [(0, .ref 197), (1, .int a1)]) (S' := [.ref 197]) (by decide +kernel) rfl ?_
        refine sm_getR 6 8 198 cls6 C (ltX (by decide +kernel : kdX 197 = 6) (by decide)) (by decide +kernel : kdX 197 = 6) (obX6 (by decide +kernel : kdX 197 = 6)) (by decide) (frX6_8 (by decide +kernel : kdX 197 = 6)) fl6_36 (by decide +kernel) ?_
        refine sm_seg C [(.aload_n 0, 0)] (pc' := 58) (L' := [(0, .ref 197), (1, .int a1)]) (S' := [.ref 197, .ref 198]) (by decide +kernel) rfl ?_
        refine sm_getI 6 0 cls6 C (ltX (by decide +kernel : kdX 197 = 6) (by decide)) (by decide +kernel : kdX 197 = 6) (obX6 (by decide +kernel : kdX 197 = 6)) (by decide) (fiX6_0 (by decide +kernel : kdX 197 = 6)) fl6_9 (by decide +kernel) ?_
        refine sm_seg C [(.iconst 2, 2), (.iadd, 0), (.iload_n 1, 0), (.bipush 8, 8), (.iushr, 0), (.sipush 255, 255), (.iand, 0), (.i2c, 0)] (pc' := 72) (L' := [(0, .ref 197), (1, .int a1)]) (S' := [.int (chr ((ushr a1 8) &&& 255)), .int ((τ2 197 0) + 2), .ref 198]) (by decide +kernel) rfl ?_
        refine sm_astc 400 C (ltX (krX6_8 (by decide +kernel : kdX 197 = 6)) (by decide)) (krX6_8 (by decide +kernel : kdX 197 = 6)) (nrX6_8 (by decide +kernel : kdX 197 = 6)) (by decide +kernel) (fun τ3 => ?_)
        refine sm_seg C [(.aload_n 0, 0)] (pc' := 74) (L' := [(0, .ref 197), (1, .int a1)]) (S' := [.ref 197]) (by decide +kernel) rfl ?_
        refine sm_getR 6 8 198 cls6 C (ltX (by decide +kernel : kdX 197 = 6) (by decide)) (by decide +kernel : kdX 197 = 6) (obX6 (by decide +kernel : kdX 197 = 6)) (by decide) (frX6_8 (by decide +kernel : kdX 197 = 6)) fl6_36 (by decide +kernel) ?_
        refine sm_seg C [(.aload_n 0, 0)] (pc' := 78) (L' := [(0, .ref 197), (1, .int a1)]) (S' := [.ref 197, .ref 198]) (by decide +kernel) rfl ?_
        refine sm_getI 6 0 cls6 C (ltX (by decide +kernel : kdX 197 = 6) (by decide)) (by decide +kernel : kdX 197 = 6) (obX6 (by decide +kernel : kdX 197 = 6)) (by decide) (fiX6_0 (by decide +kernel : kdX 197 = 6)) fl6_9 (by decide +kernel) ?_
        refine sm_seg C [(.iconst 3, 3), (.iadd, 0), (.iload_n 1, 0), (.sipush 255, 255), (.iand, 0), (.i2c, 0)] (pc' := 89) (L' := [(0, .ref 197), (1, .int a1)]) (S' := [.int (chr (a1 &&& 255)), .int ((τ3 197 0) + 3), .ref 198]) (by decide +kernel) rfl ?_
        refine sm_astc 400 C (ltX (krX6_8 (by decide +kernel : kdX 197 = 6)) (by decide)) (krX6_8 (by decide +kernel : kdX 197 = 6)) (nrX6_8 (by decide +kernel : kdX 197 = 6)) (by decide +kernel) (fun τ4 => ?_)
        refine sm_seg C [(.aload_n 0, 0), (.dup, 0)] (pc' := 92) (L' := [(0, .ref 197), (1, .int a1)]) (S' := [.ref 197, .ref 197]) (by decide +kernel) rfl ?_
        refine sm_getI 6 0 cls6 C (ltX (by decide +kernel : kdX 197 = 6) (by decide)) (by decide +kernel : kdX 197 = 6) (obX6 (by decide +kernel : kdX 197 = 6)) (by decide) (fiX6_0 (by decide +kernel : kdX 197 = 6)) fl6_9 (by decide +kernel) ?_
        refine sm_seg C [(.iconst 4, 4), (.iadd, 0)] (pc' := 97) (L' := [(0, .ref 197), (1, .int a1)]) (S' := [.int ((τ4 197 0) + 4), .ref 197]) (by decide +kernel) rfl ?_
        refine sm_pst 6 0 cls6 C (ltX (by decide +kernel : kdX 197 = 6) (by decide)) (by decide +kernel : kdX 197 = 6) (obX6 (by decide +kernel : kdX 197 = 6)) (by decide) (fiX6_0 (by decide +kernel : kdX 197 = 6)) rfl rfl rfl fl6_9 (by decide +kernel) (fun τ5 => ?_)
        exact sm_vret C hr (by decide +kernel)) h
/-! BasketEnvoys.feed -/
def X10_feed (F : Nat) (a1 : Int32) (a2 : Int32) (a3 : Int32) (a4 : Int32) (a5 : Int32) (τ : Tau) : Option (Int32 × Tau) :=
  cal (X6_hasRoom F τ) fun r1 τ2 => if r1 = 0 then (some ((-1), τ2)) else (cal (X6_addBytes F a1 τ2) fun r3 τ4 => cal (X6_addBytes F a2 τ4) fun r5 τ6 => cal (X6_addBytes F a3 τ6) fun r7 τ8 => cal (X6_addBytes F a4 τ8) fun r9 τ10 => cal (X6_addBytes F a5 τ10) fun r11 τ12 => some ((τ12 197 0), τ12))
set_option maxRecDepth 20000 in
set_option maxHeartbeats 4000000 in
theorem c_X10_feed (F : Nat) (a1 : Int32) (a2 : Int32) (a3 : Int32) (a4 : Int32) (a5 : Int32) (τ : Tau) (r : Int32) (τ' : Tau) (h : X10_feed F a1 a2 a3 a4 a5 τ = some (r, τ')) : MCi sysX yX10_feed cX10_feed 6 (some .int) 2 [.ref 0, .int a1, .int a2, .int a3, .int a4, .int a5] τ r τ' :=
  mci_of (by decide +kernel) (Nat.le_of_ble_eq_true rfl) (fun K C hr => by
    show Sm K sysX 6 (Qi K sysX) (X10_feed F a1 a2 a3 a4 a5 τ) 0 [(0, .ref 0), (1, .int a1), (2, .int a2), (3, .int a3), (4, .int a4), (5, .int a5)] [] τ
    unfold X10_feed
    refine sm_seg C [(.aload_n 0, 0)] (pc' := 1) (L' := [(0, .ref 0), (1, .int a1), (2, .int a2), (3, .int a3), (4, .int a4), (5, .int a5)]) (S' := [.ref 0]) (by decide +kernel) rfl ?_
    refine sm_getR 10 5 196 cls10 C (ltX (by decide +kernel : kdX 0 = 10) (by decide)) (by decide +kernel : kdX 0 = 10) (obX10 (by decide +kernel : kdX 0 = 10)) (by decide) (frX10_5 (by decide +kernel : kdX 0 = 10)) fl10_40 (by decide +kernel) ?_
    refine sm_getR 3 0 197 cls3 C (ltX (krX10_5 (by decide +kernel : kdX 0 = 10)) (by decide)) (krX10_5 (by decide +kernel : kdX 0 = 10)) (obX3 (krX10_5 (by decide +kernel : kdX 0 = 10))) (by decide) (frX3_0 (krX10_5 (by decide +kernel : kdX 0 = 10))) fl10_117 (by decide +kernel) ?_
    refine sm_vcal [] [] rfl C mw_X6_hasRoom ml_10_121 rfl (ci := 6) rfl (ltX (krX3_0 (krX10_5 (by decide +kernel : kdX 0 = 10))) (by decide)) (krX3_0 (krX10_5 (by decide +kernel : kdX 0 = 10))) (by decide) ⟨by decide, by decide⟩ (Nat.le_of_ble_eq_true rfl) (by decide +kernel) (c_X6_hasRoom F τ) (fun r1 τ2 => ?_)
    refine sm_ifne 15 (off := 5) C (by decide +kernel) (by decide) (fun _ => ?_) (fun _ => ?_)
    · refine sm_seg C [(.iconst (-1), (-1))] (pc' := 14) (L' := [(0, .ref 0), (1, .int a1), (2, .int a2), (3, .int a3), (4, .int a4), (5, .int a5)]) (S' := [.int (-1)]) (by decide +kernel) rfl ?_
      exact sm_iret C hr rfl (by decide +kernel)
    · refine sm_seg C [(.aload_n 0, 0)] (pc' := 16) (L' := [(0, .ref 0), (1, .int a1), (2, .int a2), (3, .int a3), (4, .int a4), (5, .int a5)]) (S' := [.ref 0]) (by decide +kernel) rfl ?_
      refine sm_getR 10 5 196 cls10 C (ltX (by decide +kernel : kdX 0 = 10) (by decide)) (by decide +kernel : kdX 0 = 10) (obX10 (by decide +kernel : kdX 0 = 10)) (by decide) (frX10_5 (by decide +kernel : kdX 0 = 10)) fl10_40 (by decide +kernel) ?_
      refine sm_getR 3 0 197 cls3 C (ltX (krX10_5 (by decide +kernel : kdX 0 = 10)) (by decide)) (krX10_5 (by decide +kernel : kdX 0 = 10)) (obX3 (krX10_5 (by decide +kernel : kdX 0 = 10))) (by decide) (frX3_0 (krX10_5 (by decide +kernel : kdX 0 = 10))) fl10_117 (by decide +kernel) ?_
      refine sm_seg C [(.iload_n 1, 0)] (pc' := 23) (L' := [(0, .ref 0), (1, .int a1), (2, .int a2), (3, .int a3), (4, .int a4), (5, .int a5)]) (S' := [.int a1, .ref 197]) (by decide +kernel) rfl ?_
      refine sm_vcalv [.int a1] [] rfl C mw_X6_addBytes ml_10_127 rfl (ci := 6) rfl (ltX (krX3_0 (krX10_5 (by decide +kernel : kdX 0 = 10))) (by decide)) (krX3_0 (krX10_5 (by decide +kernel : kdX 0 = 10))) (by decide) ⟨by decide, by decide⟩ (Nat.le_of_ble_eq_true rfl) (by decide +kernel) (c_X6_addBytes F a1 τ2) (fun r3 τ4 => ?_)
      refine sm_seg C [(.aload_n 0, 0)] (pc' := 27) (L' := [(0, .ref 0), (1, .int a1), (2, .int a2), (3, .int a3), (4, .int a4), (5, .int a5)]) (S' := [.ref 0]) (by decide +kernel) rfl ?_
      refine sm_getR 10 5 196 cls10 C (ltX (by decide +kernel : kdX 0 = 10) (by decide)) (by decide +kernel : kdX 0 = 10) (obX10 (by decide +kernel : kdX 0 = 10)) (by decide) (frX10_5 (by decide +kernel : kdX 0 = 10)) fl10_40 (by decide +kernel) ?_
      refine sm_getR 3 0 197 cls3 C (ltX (krX10_5 (by decide +kernel : kdX 0 = 10)) (by decide)) (krX10_5 (by decide +kernel : kdX 0 = 10)) (obX3 (krX10_5 (by decide +kernel : kdX 0 = 10))) (by decide) (frX3_0 (krX10_5 (by decide +kernel : kdX 0 = 10))) fl10_117 (by decide +kernel) ?_
      refine sm_seg C [(.iload_n 2, 0)] (pc' := 34) (L' := [(0, .ref 0), (1, .int a1), (2, .int a2), (3, .int a3), (4, .int a4), (5, .int a5)]) (S' := [.int a2, .ref 197]) (by decide +kernel) rfl ?_
      refine sm_vcalv [.int a2] [] rfl C mw_X6_addBytes ml_10_127 rfl (ci := 6) rfl (ltX (krX3_0 (krX10_5 (by decide +kernel : kdX 0 = 10))) (by decide)) (krX3_0 (krX10_5 (by decide +kernel : kdX 0 = 10))) (by decide) ⟨by decide, by decide⟩ (Nat.le_of_ble_eq_true rfl) (by decide +kernel) (c_X6_addBytes F a2 τ4) (fun r5 τ6 => ?_)
      refine sm_seg C [(.aload_n 0, 0)] (pc' := 38) (L' := [(0, .ref 0), (1, .int a1), (2, .int a2), (3, .int a3), (4, .int a4), (5, .int a5)]) (S' := [.ref 0]) (by decide +kernel) rfl ?_
      refine sm_getR 10 5 196 cls10 C (ltX (by decide +kernel : kdX 0 = 10) (by decide)) (by decide +kernel : kdX 0 = 10) (obX10 (by decide +kernel : kdX 0 = 10)) (by decide) (frX10_5 (by decide +kernel : kdX 0 = 10)) fl10_40 (by decide +kernel) ?_
      refine sm_getR 3 0 197 cls3 C (ltX (krX10_5 (by decide +kernel : kdX 0 = 10)) (by decide)) (krX10_5 (by decide +kernel : kdX 0 = 10)) (obX3 (krX10_5 (by decide +kernel : kdX 0 = 10))) (by decide) (frX3_0 (krX10_5 (by decide +kernel : kdX 0 = 10))) fl10_117 (by decide +kernel) ?_
      refine sm_seg C [(.iload_n 3, 0)] (pc' := 45) (L' := [(0, .ref 0), (1, .int a1), (2, .int a2), (3, .int a3), (4, .int a4), (5, .int a5)]) (S' := [.int a3, .ref 197]) (by decide +kernel) rfl ?_
      refine sm_vcalv [.int a3] [] rfl C mw_X6_addBytes ml_10_127 rfl (ci := 6) rfl (ltX (krX3_0 (krX10_5 (by decide +kernel : kdX 0 = 10))) (by decide)) (krX3_0 (krX10_5 (by decide +kernel : kdX 0 = 10))) (by decide) ⟨by decide, by decide⟩ (Nat.le_of_ble_eq_true rfl) (by decide +kernel) (c_X6_addBytes F a3 τ6) (fun r7 τ8 => ?_)
      refine sm_seg C [(.aload_n 0, 0)] (pc' := 49) (L' := [(0, .ref 0), (1, .int a1), (2, .int a2), (3, .int a3), (4, .int a4), (5, .int a5)]) (S' := [.ref 0]) (by decide +kernel) rfl ?_
      refine sm_getR 10 5 196 cls10 C (ltX (by decide +kernel : kdX 0 = 10) (by decide)) (by decide +kernel : kdX 0 = 10) (obX10 (by decide +kernel : kdX 0 = 10)) (by decide) (frX10_5 (by decide +kernel : kdX 0 = 10)) fl10_40 (by decide +kernel) ?_
      refine sm_getR 3 0 197 cls3 C (ltX (krX10_5 (by decide +kernel : kdX 0 = 10)) (by decide)) (krX10_5 (by decide +kernel : kdX 0 = 10)) (obX3 (krX10_5 (by decide +kernel : kdX 0 = 10))) (by decide) (frX3_0 (krX10_5 (by decide +kernel : kdX 0 = 10))) fl10_117 (by decide +kernel) ?_
      refine sm_seg C [(.iload 4, 0)] (pc' := 57) (L' := [(0, .ref 0), (1, .int a1), (2, .int a2), (3, .int a3), (4, .int a4), (5, .int a5)]) (S' := [.int a4, .ref 197]) (by decide +kernel) rfl ?_
      refine sm_vcalv [.int a4] [] rfl C mw_X6_addBytes ml_10_127 rfl (ci := 6) rfl (ltX (krX3_0 (krX10_5 (by decide +kernel : kdX 0 = 10))) (by decide)) (krX3_0 (krX10_5 (by decide +kernel : kdX 0 = 10))) (by decide) ⟨by decide, by decide⟩ (Nat.le_of_ble_eq_true rfl) (by decide +kernel) (c_X6_addBytes F a4 τ8) (fun r9 τ10 => ?_)
      refine sm_seg C [(.aload_n 0, 0)] (pc' := 61) (L' := [(0, .ref 0), (1, .int a1), (2, .int a2), (3, .int a3), (4, .int a4), (5, .int a5)]) (S' := [.ref 0]) (by decide +kernel) rfl ?_
      refine sm_getR 10 5 196 cls10 C (ltX (by decide +kernel : kdX 0 = 10) (by decide)) (by decide +kernel : kdX 0 = 10) (obX10 (by decide +kernel : kdX 0 = 10)) (by decide) (frX10_5 (by decide +kernel : kdX 0 = 10)) fl10_40 (by decide +kernel) ?_
      refine sm_getR 3 0 197 cls3 C (ltX (krX10_5 (by decide +kernel : kdX 0 = 10)) (by decide)) (krX10_5 (by decide +kernel : kdX 0 = 10)) (obX3 (krX10_5 (by decide +kernel : kdX 0 = 10))) (by decide) (frX3_0 (krX10_5 (by decide +kernel : kdX 0 = 10))) fl10_117 (by decide +kernel) ?_
      refine sm_seg C [(.iload 5, 0)] (pc' := 69) (L' := [(0, .ref 0), (1, .int a1), (2, .int a2), (3, .int a3), (4, .int a4), (5, .int a5)]) (S' := [.int a5, .ref 197]) (by decide +kernel) rfl ?_
      refine sm_vcalv [.int a5] [] rfl C mw_X6_addBytes ml_10_127 rfl (ci := 6) rfl (ltX (krX3_0 (krX10_5 (by decide +kernel : kdX 0 = 10))) (by decide)) (krX3_0 (krX10_5 (by decide +kernel : kdX 0 = 10))) (by decide) ⟨by decide, by decide⟩ (Nat.le_of_ble_eq_true rfl) (by decide +kernel) (c_X6_addBytes F a5 τ10) (fun r11 τ12 => ?_)
      refine sm_seg C [(.aload_n 0, 0)] (pc' := 73) (L' := [(0, .ref 0), (1, .int a1), (2, .int a2), (3, .int a3), (4, .int a4), (5, .int a5)]) (S' := [.ref 0]) (by decide +kernel) rfl ?_
      refine sm_getR 10 5 196 cls10 C (ltX (by decide +kernel : kdX 0 = 10) (by decide)) (by decide +kernel : kdX 0 = 10) (obX10 (by decide +kernel : kdX 0 = 10)) (by decide) (frX10_5 (by decide +kernel : kdX 0 = 10)) fl10_40 (by decide +kernel) ?_
      refine sm_getR 3 0 197 cls3 C (ltX (krX10_5 (by decide +kernel : kdX 0 = 10)) (by decide)) (krX10_5 (by decide +kernel : kdX 0 = 10)) (obX3 (krX10_5 (by decide +kernel : kdX 0 = 10))) (by decide) (frX3_0 (krX10_5 (by decide +kernel : kdX 0 = 10))) fl10_117 (by decide +kernel) ?_
      refine sm_getI 6 0 cls6 C (ltX (krX3_0 (krX10_5 (by decide +kernel : kdX 0 = 10))) (by decide)) (krX3_0 (krX10_5 (by decide +kernel : kdX 0 = 10))) (obX6 (krX3_0 (krX10_5 (by decide +kernel : kdX 0 = 10)))) (by decide) (fiX6_0 (krX3_0 (krX10_5 (by decide +kernel : kdX 0 = 10)))) fl10_131 (by decide +kernel) ?_
      exact sm_iret C hr rfl (by decide +kernel)) h
/-! BasketEnvoys.goes -/
def X10_goes_L37 (F : Nat) : Nat → Int32 → Int32 → Int32 → Tau → Option (Int32 × Tau)
  | 0, _, _, _, _ => none
  | n + 1, a1, a2, a3, τ =>
    if a1 ≤ a3 then (if a2 = 0 then (cal (X10_sum F 106 τ) fun r7 τ8 => some (r7, τ8)) else if a2 = 1 then (cal (X10_sum F 107 τ) fun r9 τ10 => some (r9, τ10)) else if a2 = 2 then (some ((τ 103 2), τ)) else (cal (X10_sum F 104 τ) fun r11 τ12 => some (r11, τ12))) else (cal (X0_pass F 103 0 τ) fun r13 τ14 => X10_goes_L37 F n a1 a2 (a3 + 1) τ14)
theorem s_X10_goes_L37 (F : Nat) {K : Ctx} (C : Cx K sysX RX10 cX10_goes 4 8) (hr : Rt K (some .int)) : ∀ (n : Nat) (a1 : Int32) (a2 : Int32) (a3 : Int32) (τ : Tau), Sm K sysX 4 (Qi K sysX) (X10_goes_L37 F n a1 a2 a3 τ) 37 [(0, .ref 0), (1, .int a1), (2, .int a2), (3, .int a3)] [] τ := by
  intro n
  induction n with
  | zero => intro a1 a2 a3 τ; exact sm_none
  | succ n ih =>
    intro a1 a2 a3 τ
    rw [X10_goes_L37]
    refine sm_seg C [(.iload_n 3, 0), (.iload_n 1, 0)] (pc' := 39) (L' := [(0, .ref 0), (1, .int a1), (2, .int a2), (3, .int a3)]) (S' := [.int a1, .int a3]) (by decide +kernel) rfl ?_
    refine sm_icmpge 60 (off := 21) C (by decide +kernel) (by decide) (fun _ => ?_) (fun _ => ?_)
    · refine sm_seg C [(.iload_n 2, 0)] (pc' := 61) (L' := [(0, .ref 0), (1, .int a1), (2, .int a2), (3, .int a3)]) (S' := [.int a2]) (by decide +kernel) rfl ?_
      have hd61 : decode cX10_goes 61 = .ok (.tableswitch 57 0 2 #[27, 38, 49], 27) := by decide +kernel
      refine sm_ite (fun e => ?_) (fun n61_0 => ?_)
      · refine sm_tabIn (off := 27) 88 C hd61 (by rw [e]; decide) (by rw [e]; decide) (by rw [e]; decide) (by decide) ?_
        refine sm_seg C [(.aload_n 0, 0)] (pc' := 89) (L' := [(0, .ref 0), (1, .int a1), (2, .int a2), (3, .int a3)]) (S' := [.ref 0]) (by decide +kernel) rfl ?_
        refine sm_getR 10 3 103 cls10 C (ltX (by decide +kernel : kdX 0 = 10) (by decide)) (by decide +kernel : kdX 0 = 10) (obX10 (by decide +kernel : kdX 0 = 10)) (by decide) (frX10_3 (by decide +kernel : kdX 0 = 10)) fl10_26 (by decide +kernel) ?_
        refine sm_getR 8 9 106 cls8 C (ltX (krX10_3 (by decide +kernel : kdX 0 = 10)) (by decide)) (krX10_3 (by decide +kernel : kdX 0 = 10)) (obX8 (krX10_3 (by decide +kernel : kdX 0 = 10))) (by decide) (frX8_9 (krX10_3 (by decide +kernel : kdX 0 = 10))) fl10_105 (by decide +kernel) ?_
        refine sm_scal [.ref 106] [] rfl C mw_X10_sum ml_10_109 rfl ⟨by decide, by decide⟩ (Nat.le_of_ble_eq_true rfl) (by decide +kernel) (c_X10_sum F 106 (krX8_9 (krX10_3 (by decide +kernel : kdX 0 = 10))) τ) (fun r7 τ8 => ?_)
        exact sm_iret C hr rfl (by decide +kernel)
      refine sm_ite (fun e => ?_) (fun n61_1 => ?_)
      · refine sm_tabIn (off := 38) 99 C hd61 (by rw [e]; decide) (by rw [e]; decide) (by rw [e]; decide) (by decide) ?_
        refine sm_seg C [(.aload_n 0, 0)] (pc' := 100) (L' := [(0, .ref 0), (1, .int a1), (2, .int a2), (3, .int a3)]) (S' := [.ref 0]) (by decide +kernel) rfl ?_
        refine sm_getR 10 3 103 cls10 C (ltX (by decide +kernel : kdX 0 = 10) (by decide)) (by decide +kernel : kdX 0 = 10) (obX10 (by decide +kernel : kdX 0 = 10)) (by decide) (frX10_3 (by decide +kernel : kdX 0 = 10)) fl10_26 (by decide +kernel) ?_
        refine sm_getR 8 10 107 cls8 C (ltX (krX10_3 (by decide +kernel : kdX 0 = 10)) (by decide)) (krX10_3 (by decide +kernel : kdX 0 = 10)) (obX8 (krX10_3 (by decide +kernel : kdX 0 = 10))) (by decide) (frX8_10 (krX10_3 (by decide +kernel : kdX 0 = 10))) fl10_213 (by decide +kernel) ?_
        refine sm_scal [.ref 107] [] rfl C mw_X10_sum ml_10_109 rfl ⟨by decide, by decide⟩ (Nat.le_of_ble_eq_true rfl) (by decide +kernel) (c_X10_sum F 107 (krX8_10 (krX10_3 (by decide +kernel : kdX 0 = 10))) τ) (fun r9 τ10 => ?_)
        exact sm_iret C hr rfl (by decide +kernel)
      refine sm_ite (fun e => ?_) (fun n61_2 => ?_)
      · refine sm_tabIn (off := 49) 110 C hd61 (by rw [e]; decide) (by rw [e]; decide) (by rw [e]; decide) (by decide) ?_
        refine sm_seg C [(.aload_n 0, 0)] (pc' := 111) (L' := [(0, .ref 0), (1, .int a1), (2, .int a2), (3, .int a3)]) (S' := [.ref 0]) (by decide +kernel) rfl ?_
        refine sm_getR 10 3 103 cls10 C (ltX (by decide +kernel : kdX 0 = 10) (by decide)) (by decide +kernel : kdX 0 = 10) (obX10 (by decide +kernel : kdX 0 = 10)) (by decide) (frX10_3 (by decide +kernel : kdX 0 = 10)) fl10_26 (by decide +kernel) ?_
        refine sm_getI 8 2 cls8 C (ltX (krX10_3 (by decide +kernel : kdX 0 = 10)) (by decide)) (krX10_3 (by decide +kernel : kdX 0 = 10)) (obX8 (krX10_3 (by decide +kernel : kdX 0 = 10))) (by decide) (fiX8_2 (krX10_3 (by decide +kernel : kdX 0 = 10))) fl10_240 (by decide +kernel) ?_
        exact sm_iret C hr rfl (by decide +kernel)
      refine sm_tabOut 118 C hd61 (by have q0 := toInt_neZ (z := 0) n61_0 (by decide); have q1 := toInt_neZ (z := 1) n61_1 (by decide); have q2 := toInt_neZ (z := 2) n61_2 (by decide); omega) (by decide) ?_
      refine sm_seg C [(.aload_n 0, 0)] (pc' := 119) (L' := [(0, .ref 0), (1, .int a1), (2, .int a2), (3, .int a3)]) (S' := [.ref 0]) (by decide +kernel) rfl ?_
      refine sm_getR 10 3 103 cls10 C (ltX (by decide +kernel : kdX 0 = 10) (by decide)) (by decide +kernel : kdX 0 = 10) (obX10 (by decide +kernel : kdX 0 = 10)) (by decide) (frX10_3 (by decide +kernel : kdX 0 = 10)) fl10_26 (by decide +kernel) ?_
      refine sm_getR 8 7 104 cls8 C (ltX (krX10_3 (by decide +kernel : kdX 0 = 10)) (by decide)) (krX10_3 (by decide +kernel : kdX 0 = 10)) (obX8 (krX10_3 (by decide +kernel : kdX 0 = 10))) (by decide) (frX8_7 (krX10_3 (by decide +kernel : kdX 0 = 10))) fl10_207 (by decide +kernel) ?_
      refine sm_scal [.ref 104] [] rfl C mw_X10_sum ml_10_109 rfl ⟨by decide, by decide⟩ (Nat.le_of_ble_eq_true rfl) (by decide +kernel) (c_X10_sum F 104 (krX8_7 (krX10_3 (by decide +kernel : kdX 0 = 10))) τ) (fun r11 τ12 => ?_)
      exact sm_iret C hr rfl (by decide +kernel)
    · refine sm_seg C [(.aload_n 0, 0)] (pc' := 43) (L' := [(0, .ref 0), (1, .int a1), (2, .int a2), (3, .int a3)]) (S' := [.ref 0]) (by decide +kernel) rfl ?_
      refine sm_getR 10 6 211 cls10 C (ltX (by decide +kernel : kdX 0 = 10) (by decide)) (by decide +kernel : kdX 0 = 10) (obX10 (by decide +kernel : kdX 0 = 10)) (by decide) (frX10_6 (by decide +kernel : kdX 0 = 10)) fl10_49 (by decide +kernel) ?_
      refine sm_seg C [(.aload_n 0, 0)] (pc' := 47) (L' := [(0, .ref 0), (1, .int a1), (2, .int a2), (3, .int a3)]) (S' := [.ref 0, .ref 211]) (by decide +kernel) rfl ?_
      refine sm_getR 10 3 103 cls10 C (ltX (by decide +kernel : kdX 0 = 10) (by decide)) (by decide +kernel : kdX 0 = 10) (obX10 (by decide +kernel : kdX 0 = 10)) (by decide) (frX10_3 (by decide +kernel : kdX 0 = 10)) fl10_26 (by decide +kernel) ?_
      refine sm_seg C [(.iconst 0, 0)] (pc' := 51) (L' := [(0, .ref 0), (1, .int a1), (2, .int a2), (3, .int a3)]) (S' := [.int 0, .ref 103, .ref 211]) (by decide +kernel) rfl ?_
      refine sm_vcalv [.ref 103, .int 0] [] rfl C mw_X0_pass ml_10_113 rfl (ci := 0) rfl (ltX (krX10_6 (by decide +kernel : kdX 0 = 10)) (by decide)) (krX10_6 (by decide +kernel : kdX 0 = 10)) (by decide) ⟨by decide, by decide⟩ (Nat.le_of_ble_eq_true rfl) (by decide +kernel) (c_X0_pass F 103 (krX10_3 (by decide +kernel : kdX 0 = 10)) 0 τ) (fun r13 τ14 => ?_)
      refine sm_seg C [(.iinc 3 1, 1), (.goto (-20), 0)] (pc' := 37) (L' := [(3, .int (a3 + 1)), (0, .ref 0), (1, .int a1), (2, .int a2)]) (S' := []) (by decide +kernel) rfl ?_
      exact sm_sub [1, 2, 3, 0] rfl (ih a1 a2 (a3 + 1) τ14)
def X10_goes (F : Nat) (a1 : Int32) (a2 : Int32) (τ : Tau) : Option (Int32 × Tau) :=
  cal (X10_within F a1 1 60 τ) fun r1 τ2 => if r1 = 0 then (some ((-1), τ2)) else (cal (X10_within F a2 0 3 τ2) fun r3 τ4 => if r3 = 0 then (some ((-1), τ4)) else (cal (X8_copyFrom F 103 2 τ4) fun r5 τ6 => X10_goes_L37 F F a1 a2 0 τ6))
set_option maxRecDepth 20000 in
set_option maxHeartbeats 4000000 in
theorem c_X10_goes (F : Nat) (a1 : Int32) (a2 : Int32) (τ : Tau) (r : Int32) (τ' : Tau) (h : X10_goes F a1 a2 τ = some (r, τ')) : MCi sysX yX10_goes cX10_goes 4 (some .int) 8 [.ref 0, .int a1, .int a2] τ r τ' :=
  mci_of (by decide +kernel) (Nat.le_of_ble_eq_true rfl) (fun K C hr => by
    show Sm K sysX 4 (Qi K sysX) (X10_goes F a1 a2 τ) 0 [(0, .ref 0), (1, .int a1), (2, .int a2)] [] τ
    unfold X10_goes
    refine sm_seg C [(.iload_n 1, 0), (.iconst 1, 1), (.bipush 60, 60)] (pc' := 4) (L' := [(0, .ref 0), (1, .int a1), (2, .int a2)]) (S' := [.int 60, .int 1, .int a1]) (by decide +kernel) rfl ?_
    refine sm_scal [.int a1, .int 1, .int 60] [] rfl C mw_X10_within ml_10_70 rfl ⟨by decide, by decide⟩ (Nat.le_of_ble_eq_true rfl) (by decide +kernel) (c_X10_within F a1 1 60 τ) (fun r1 τ2 => ?_)
    refine sm_ifeq 19 (off := 12) C (by decide +kernel) (by decide) (fun _ => ?_) (fun _ => ?_)
    · refine sm_seg C [(.iconst (-1), (-1))] (pc' := 20) (L' := [(0, .ref 0), (1, .int a1), (2, .int a2)]) (S' := [.int (-1)]) (by decide +kernel) rfl ?_
      exact sm_iret C hr rfl (by decide +kernel)
    · refine sm_seg C [(.iload_n 2, 0), (.iconst 0, 0), (.iconst 3, 3)] (pc' := 13) (L' := [(0, .ref 0), (1, .int a1), (2, .int a2)]) (S' := [.int 3, .int 0, .int a2]) (by decide +kernel) rfl ?_
      refine sm_scal [.int a2, .int 0, .int 3] [] rfl C mw_X10_within ml_10_70 rfl ⟨by decide, by decide⟩ (Nat.le_of_ble_eq_true rfl) (by decide +kernel) (c_X10_within F a2 0 3 τ2) (fun r3 τ4 => ?_)
      refine sm_ifne 21 (off := 5) C (by decide +kernel) (by decide) (fun _ => ?_) (fun _ => ?_)
      · refine sm_seg C [(.iconst (-1), (-1))] (pc' := 20) (L' := [(0, .ref 0), (1, .int a1), (2, .int a2)]) (S' := [.int (-1)]) (by decide +kernel) rfl ?_
        exact sm_iret C hr rfl (by decide +kernel)
      · refine sm_seg C [(.aload_n 0, 0)] (pc' := 22) (L' := [(0, .ref 0), (1, .int a1), (2, .int a2)]) (S' := [.ref 0]) (by decide +kernel) rfl ?_
        refine sm_getR 10 3 103 cls10 C (ltX (by decide +kernel : kdX 0 = 10) (by decide)) (by decide +kernel : kdX 0 = 10) (obX10 (by decide +kernel : kdX 0 = 10)) (by decide) (frX10_3 (by decide +kernel : kdX 0 = 10)) fl10_26 (by decide +kernel) ?_
        refine sm_seg C [(.aload_n 0, 0)] (pc' := 26) (L' := [(0, .ref 0), (1, .int a1), (2, .int a2)]) (S' := [.ref 0, .ref 103]) (by decide +kernel) rfl ?_
        refine sm_getR 10 0 1 cls10 C (ltX (by decide +kernel : kdX 0 = 10) (by decide)) (by decide +kernel : kdX 0 = 10) (obX10 (by decide +kernel : kdX 0 = 10)) (by decide) (frX10_0 (by decide +kernel : kdX 0 = 10)) fl10_12 (by decide +kernel) ?_
        refine sm_getR 9 0 2 cls9 C (ltX (krX10_0 (by decide +kernel : kdX 0 = 10)) (by decide)) (krX10_0 (by decide +kernel : kdX 0 = 10)) (obX9 (krX10_0 (by decide +kernel : kdX 0 = 10))) (by decide) (frX9_0 (krX10_0 (by decide +kernel : kdX 0 = 10))) fl10_60 (by decide +kernel) ?_
        refine sm_vcalv [.ref 2] [] rfl C mw_X8_copyFrom ml_10_238 rfl (ci := 8) rfl (ltX (krX10_3 (by decide +kernel : kdX 0 = 10)) (by decide)) (krX10_3 (by decide +kernel : kdX 0 = 10)) (by decide) ⟨by decide, by decide⟩ (Nat.le_of_ble_eq_true rfl) (by decide +kernel) (c_X8_copyFrom F 103 2 (krX10_3 (by decide +kernel : kdX 0 = 10)) (krX9_0 (krX10_0 (by decide +kernel : kdX 0 = 10))) τ4) (fun r5 τ6 => ?_)
        refine sm_seg C [(.iconst 0, 0), (.istore_n 3, 0)] (pc' := 37) (L' := [(3, .int 0), (0, .ref 0), (1, .int a1), (2, .int a2)]) (S' := []) (by decide +kernel) rfl ?_
        exact sm_sub [1, 2, 3, 0] rfl (s_X10_goes_L37 F C hr F a1 a2 0 τ6)) h
/-! BasketEnvoys.hat -/
def X10_hat (F : Nat) (a1 : Int32) (a2 : Int32) (τ : Tau) : Option (Int32 × Tau) :=
  cal (X10_within F a2 0 255 τ) fun r1 τ2 => cal (X10_put F 38 a1 a2 r1 τ2) fun r3 τ4 => some (vp_nar .boolean r3, τ4)
set_option maxRecDepth 20000 in
set_option maxHeartbeats 4000000 in
theorem c_X10_hat (F : Nat) (a1 : Int32) (a2 : Int32) (τ : Tau) (r : Int32) (τ' : Tau) (h : X10_hat F a1 a2 τ = some (r, τ')) : MCi sysX yX10_hat cX10_hat 3 (some .boolean) 2 [.ref 0, .int a1, .int a2] τ r τ' :=
  mci_of (by decide +kernel) (Nat.le_of_ble_eq_true rfl) (fun K C hr => by
    show Sm K sysX 3 (Qi K sysX) (X10_hat F a1 a2 τ) 0 [(0, .ref 0), (1, .int a1), (2, .int a2)] [] τ
    unfold X10_hat
    refine sm_seg C [(.aload_n 0, 0)] (pc' := 1) (L' := [(0, .ref 0), (1, .int a1), (2, .int a2)]) (S' := [.ref 0]) (by decide +kernel) rfl ?_
    refine sm_getR 10 0 1 cls10 C (ltX (by decide +kernel : kdX 0 = 10) (by decide)) (by decide +kernel : kdX 0 = 10) (obX10 (by decide +kernel : kdX 0 = 10)) (by decide) (frX10_0 (by decide +kernel : kdX 0 = 10)) fl10_12 (by decide +kernel) ?_
    refine sm_getR 9 1 15 cls9 C (ltX (krX10_0 (by decide +kernel : kdX 0 = 10)) (by decide)) (krX10_0 (by decide +kernel : kdX 0 = 10)) (obX9 (krX10_0 (by decide +kernel : kdX 0 = 10))) (by decide) (frX9_1 (krX10_0 (by decide +kernel : kdX 0 = 10))) fl10_243 (by decide +kernel) ?_
    refine sm_getR 7 13 38 cls7 C (ltX (krX9_1 (krX10_0 (by decide +kernel : kdX 0 = 10))) (by decide)) (krX9_1 (krX10_0 (by decide +kernel : kdX 0 = 10))) (obX7 (krX9_1 (krX10_0 (by decide +kernel : kdX 0 = 10)))) (by decide) (frX7_13 (krX9_1 (krX10_0 (by decide +kernel : kdX 0 = 10)))) fl10_357 (by decide +kernel) ?_
    refine sm_seg C [(.iload_n 1, 0), (.iload_n 2, 0), (.iload_n 2, 0), (.iconst 0, 0), (.sipush 255, 255)] (pc' := 17) (L' := [(0, .ref 0), (1, .int a1), (2, .int a2)]) (S' := [.int 255, .int 0, .int a2, .int a2, .int a1, .ref 38]) (by decide +kernel) rfl ?_
    refine sm_scal [.int a2, .int 0, .int 255] [.int a2, .int a1, .ref 38] rfl C mw_X10_within ml_10_70 rfl ⟨by decide, by decide⟩ (Nat.le_of_ble_eq_true rfl) (by decide +kernel) (c_X10_within F a2 0 255 τ) (fun r1 τ2 => ?_)
    refine sm_scal [.ref 38, .int a1, .int a2, .int r1] [] rfl C mw_X10_put ml_10_264 rfl ⟨by decide, by decide⟩ (Nat.le_of_ble_eq_true rfl) (by decide +kernel) (c_X10_put F 38 (krX7_13 (krX9_1 (krX10_0 (by decide +kernel : kdX 0 = 10)))) a1 a2 r1 τ2) (fun r3 τ4 => ?_)
    exact sm_iret C hr nar_boolean (by decide +kernel)) h
/-! java/lang/Integer.bitCount -/
def X_Integer_bitCount__I_I (F : Nat) (a0 : Int32) (τ : Tau) : Option (Int32 × Tau) :=
  some (((((((((a0 - ((ushr a0 1) &&& 1431655765)) &&& 858993459) + ((ushr (a0 - ((ushr a0 1) &&& 1431655765)) 2) &&& 858993459)) + (ushr (((a0 - ((ushr a0 1) &&& 1431655765)) &&& 858993459) + ((ushr (a0 - ((ushr a0 1) &&& 1431655765)) 2) &&& 858993459)) 4)) &&& 252645135) + (ushr (((((a0 - ((ushr a0 1) &&& 1431655765)) &&& 858993459) + ((ushr (a0 - ((ushr a0 1) &&& 1431655765)) 2) &&& 858993459)) + (ushr (((a0 - ((ushr a0 1) &&& 1431655765)) &&& 858993459) + ((ushr (a0 - ((ushr a0 1) &&& 1431655765)) 2) &&& 858993459)) 4)) &&& 252645135) 8)) + (ushr ((((((a0 - ((ushr a0 1) &&& 1431655765)) &&& 858993459) + ((ushr (a0 - ((ushr a0 1) &&& 1431655765)) 2) &&& 858993459)) + (ushr (((a0 - ((ushr a0 1) &&& 1431655765)) &&& 858993459) + ((ushr (a0 - ((ushr a0 1) &&& 1431655765)) 2) &&& 858993459)) 4)) &&& 252645135) + (ushr (((((a0 - ((ushr a0 1) &&& 1431655765)) &&& 858993459) + ((ushr (a0 - ((ushr a0 1) &&& 1431655765)) 2) &&& 858993459)) + (ushr (((a0 - ((ushr a0 1) &&& 1431655765)) &&& 858993459) + ((ushr (a0 - ((ushr a0 1) &&& 1431655765)) 2) &&& 858993459)) 4)) &&& 252645135) 8)) 16)) &&& 63), τ)
set_option maxRecDepth 20000 in
set_option maxHeartbeats 4000000 in
theorem c_X_Integer_bitCount__I_I (F : Nat) (a0 : Int32) (τ : Tau) (r : Int32) (τ' : Tau) (h : X_Integer_bitCount__I_I F a0 τ = some (r, τ')) : MCi sysX ⟨"java/lang/Integer", "bitCount", "(I)I"⟩ prog_15_method_49_code 1 (some .int) 1 [.int a0] τ r τ' :=
  mci_of (by decide +kernel) (Nat.le_of_ble_eq_true rfl) (fun K C hr => by
    show Sm K sysX 1 (Qi K sysX) (X_Integer_bitCount__I_I F a0 τ) 0 [(0, .int a0)] [] τ
    unfold X_Integer_bitCount__I_I
    refine sm_seg C [(.iload_n 0, 0), (.iload_n 0, 0), (.iconst 1, 1), (.iushr, 0)] (pc' := 4) (L' := [(0, .int a0)]) (S' := [.int (ushr a0 1), .int a0]) (by decide +kernel) rfl ?_
    refine sm_ldcw C cn_Integer_265 (by decide +kernel) ?_
    refine sm_seg C [(.iand, 0), (.isub, 0), (.istore_n 0, 0), (.iload_n 0, 0)] (pc' := 11) (L' := [(0, .int (a0 - ((ushr a0 1) &&& 1431655765)))]) (S' := [.int (a0 - ((ushr a0 1) &&& 1431655765))]) (by decide +kernel) rfl ?_
    refine sm_ldcw C cn_Integer_266 (by decide +kernel) ?_
    refine sm_seg C [(.iand, 0), (.iload_n 0, 0), (.iconst 2, 2), (.iushr, 0)] (pc' := 18) (L' := [(0, .int (a0 - ((ushr a0 1) &&& 1431655765)))]) (S' := [.int (ushr (a0 - ((ushr a0 1) &&& 1431655765)) 2), .int ((a0 - ((ushr a0 1) &&& 1431655765)) &&& 858993459)]) (by decide +kernel) rfl ?_
    refine sm_ldcw C cn_Integer_266 (by decide +kernel) ?_
    refine sm_seg C [(.iand, 0), (.iadd, 0), (.istore_n 0, 0), (.iload_n 0, 0), (.iload_n 0, 0), (.iconst 4, 4), (.iushr, 0), (.iadd, 0)] (pc' := 29) (L' := [(0, .int (((a0 - ((ushr a0 1) &&& 1431655765)) &&& 858993459) + ((ushr (a0 - ((ushr a0 1) &&& 1431655765)) 2) &&& 858993459)))]) (S' := [.int ((((a0 - ((ushr a0 1) &&& 1431655765)) &&& 858993459) + ((ushr (a0 - ((ushr a0 1) &&& 1431655765)) 2) &&& 858993459)) + (ushr (((a0 - ((ushr a0 1) &&& 1431655765)) &&& 858993459) + ((ushr (a0 - ((ushr a0 1) &&& 1431655765)) 2) &&& 858993459)) 4))]) (by decide +kernel) rfl ?_
    refine sm_ldcw C cn_Integer_267 (by decide +kernel) ?_
    refine sm_seg C [(.iand, 0), (.istore_n 0, 0), (.iload_n 0, 0), (.iload_n 0, 0), (.bipush 8, 8), (.iushr, 0), (.iadd, 0), (.istore_n 0, 0), (.iload_n 0, 0), (.iload_n 0, 0), (.bipush 16, 16), (.iushr, 0), (.iadd, 0), (.istore_n 0, 0), (.iload_n 0, 0), (.bipush 63, 63), (.iand, 0)] (pc' := 52) (L' := [(0, .int (((((((a0 - ((ushr a0 1) &&& 1431655765)) &&& 858993459) + ((ushr (a0 - ((ushr a0 1) &&& 1431655765)) 2) &&& 858993459)) + (ushr (((a0 - ((ushr a0 1) &&& 1431655765)) &&& 858993459) + ((ushr (a0 - ((ushr a0 1) &&& 1431655765)) 2) &&& 858993459)) 4)) &&& 252645135) + (ushr (((((a0 - ((ushr a0 1) &&& 1431655765)) &&& 858993459) + ((ushr (a0 - ((ushr a0 1) &&& 1431655765)) 2) &&& 858993459)) + (ushr (((a0 - ((ushr a0 1) &&& 1431655765)) &&& 858993459) + ((ushr (a0 - ((ushr a0 1) &&& 1431655765)) 2) &&& 858993459)) 4)) &&& 252645135) 8)) + (ushr ((((((a0 - ((ushr a0 1) &&& 1431655765)) &&& 858993459) + ((ushr (a0 - ((ushr a0 1) &&& 1431655765)) 2) &&& 858993459)) + (ushr (((a0 - ((ushr a0 1) &&& 1431655765)) &&& 858993459) + ((ushr (a0 - ((ushr a0 1) &&& 1431655765)) 2) &&& 858993459)) 4)) &&& 252645135) + (ushr (((((a0 - ((ushr a0 1) &&& 1431655765)) &&& 858993459) + ((ushr (a0 - ((ushr a0 1) &&& 1431655765)) 2) &&& 858993459)) + (ushr (((a0 - ((ushr a0 1) &&& 1431655765)) &&& 858993459) + ((ushr (a0 - ((ushr a0 1) &&& 1431655765)) 2) &&& 858993459)) 4)) &&& 252645135) 8)) 16)))]) (S' := [.int ((((((((a0 - ((ushr a0 1) &&& 1431655765)) &&& 858993459) + ((ushr (a0 - ((ushr a0 1) &&& 1431655765)) 2) &&& 858993459)) + (ushr (((a0 - ((ushr a0 1) &&& 1431655765)) &&& 858993459) + ((ushr (a0 - ((ushr a0 1) &&& 1431655765)) 2) &&& 858993459)) 4)) &&& 252645135) + (ushr (((((a0 - ((ushr a0 1) &&& 1431655765)) &&& 858993459) + ((ushr (a0 - ((ushr a0 1) &&& 1431655765)) 2) &&& 858993459)) + (ushr (((a0 - ((ushr a0 1) &&& 1431655765)) &&& 858993459) + ((ushr (a0 - ((ushr a0 1) &&& 1431655765)) 2) &&& 858993459)) 4)) &&& 252645135) 8)) + (ushr ((((((a0 - ((ushr a0 1) &&& 1431655765)) &&& 858993459) + ((ushr (a0 - ((ushr a0 1) &&& 1431655765)) 2) &&& 858993459)) + (ushr (((a0 - ((ushr a0 1) &&& 1431655765)) &&& 858993459) + ((ushr (a0 - ((ushr a0 1) &&& 1431655765)) 2) &&& 858993459)) 4)) &&& 252645135) + (ushr (((((a0 - ((ushr a0 1) &&& 1431655765)) &&& 858993459) + ((ushr (a0 - ((ushr a0 1) &&& 1431655765)) 2) &&& 858993459)) + (ushr (((a0 - ((ushr a0 1) &&& 1431655765)) &&& 858993459) + ((ushr (a0 - ((ushr a0 1) &&& 1431655765)) 2) &&& 858993459)) 4)) &&& 252645135) 8)) 16)) &&& 63)]) (by decide +kernel) rfl ?_
    exact sm_iret C hr rfl (by decide +kernel)) h
/-! BasketEnvoys_Riddles.waysOfHats -/
def X4_waysOfHats_j85 (F : Nat) (self19 : Int32 → Int32 → Int32 → Tau → Option (Int32 × Tau)) (self50 : Int32 → Int32 → Int32 → Int32 → Int32 → Int32 → Tau → Option (Int32 × Tau)) (a1 : Int32) (a2 : Int32) (a3 : Int32) (a4 : Int32) (a6 : Int32) (z0 : Int32) (z1 : Int32) (τ : Tau) : Option (Int32 × Tau) :=
  self50 a1 a2 a3 a4 (z1 + z0) (a6 + 1) τ
theorem s_X4_waysOfHats_j85 (F : Nat) {K : Ctx} (C : Cx K sysX RX4 cX4_waysOfHats 7 2) (hr : Rt K (some .int)) (self19 : Int32 → Int32 → Int32 → Tau → Option (Int32 × Tau)) (self50 : Int32 → Int32 → Int32 → Int32 → Int32 → Int32 → Tau → Option (Int32 × Tau)) (ih19 : ∀ (a1 : Int32) (a2 : Int32) (a3 : Int32) (τ : Tau), Sm K sysX 7 (Qi K sysX) (self19 a1 a2 a3 τ) 19 [(0, .ref 213), (1, .int a1), (2, .int a2), (3, .int a3)] [] τ) (ih50 : ∀ (a1 : Int32) (a2 : Int32) (a3 : Int32) (a4 : Int32) (a5 : Int32) (a6 : Int32) (τ : Tau), Sm K sysX 7 (Qi K sysX) (self50 a1 a2 a3 a4 a5 a6 τ) 50 [(0, .ref 213), (1, .int a1), (2, .int a2), (3, .int a3), (4, .int a4), (5, .int a5), (6, .int a6)] [] τ) (a1 : Int32) (a2 : Int32) (a3 : Int32) (a4 : Int32) (a6 : Int32) (z0 : Int32) (z1 : Int32) (τ : Tau) : Sm K sysX 7 (Qi K sysX) (X4_waysOfHats_j85 F self19 self50 a1 a2 a3 a4 a6 z0 z1 τ) 85 [(0, .ref 213), (1, .int a1), (2, .int a2), (3, .int a3), (4, .int a4), (6, .int a6)] [.int z0, .int z1] τ := by
  unfold X4_waysOfHats_j85
  refine sm_seg C [(.iadd, 0), (.istore 5, 0), (.iinc 6 1, 1), (.goto (-41), 0)] (pc' := 50) (L' := [(6, .int (a6 + 1)), (5, .int (z1 + z0)), (0, .ref 213), (1, .int a1), (2, .int a2), (3, .int a3), (4, .int a4)]) (S' := []) (by decide +kernel) rfl ?_
  exact sm_sub [2, 3, 4, 5, 6, 1, 0] rfl (ih50 a1 a2 a3 a4 (z1 + z0) (a6 + 1) τ)
def X4_waysOfHats_L50 (F : Nat) (self19 : Int32 → Int32 → Int32 → Tau → Option (Int32 × Tau)) : Nat → Int32 → Int32 → Int32 → Int32 → Int32 → Int32 → Tau → Option (Int32 × Tau)
  | 0, _, _, _, _, _, _, _ => none
  | n + 1, a1, a2, a3, a4, a5, a6, τ =>
    if a1 ≤ a6 then (cal (X10_put F 214 a3 a5 1 τ) fun r9 τ10 => self19 a1 a2 (a3 + 1) τ10) else (if ((shr a4 a6) &&& 1) = 0 then (X4_waysOfHats_j85 F self19 (X4_waysOfHats_L50 F self19 n) a1 a2 a3 a4 a6 0 a5 τ) else (cal (X10_entry F 214 (a3 ^^^ (shl 1 a6)) τ) fun r11 τ12 => X4_waysOfHats_j85 F self19 (X4_waysOfHats_L50 F self19 n) a1 a2 a3 a4 a6 r11 a5 τ12))
theorem s_X4_waysOfHats_L50 (F : Nat) {K : Ctx} (C : Cx K sysX RX4 cX4_waysOfHats 7 2) (hr : Rt K (some .int)) (self19 : Int32 → Int32 → Int32 → Tau → Option (Int32 × Tau)) (ih19 : ∀ (a1 : Int32) (a2 : Int32) (a3 : Int32) (τ : Tau), Sm K sysX 7 (Qi K sysX) (self19 a1 a2 a3 τ) 19 [(0, .ref 213), (1, .int a1), (2, .int a2), (3, .int a3)] [] τ) : ∀ (n : Nat) (a1 : Int32) (a2 : Int32) (a3 : Int32) (a4 : Int32) (a5 : Int32) (a6 : Int32) (τ : Tau), Sm K sysX 7 (Qi K sysX) (X4_waysOfHats_L50 F self19 n a1 a2 a3 a4 a5 a6 τ) 50 [(0, .ref 213), (1, .int a1), (2, .int a2), (3, .int a3), (4, .int a4), (5, .int a5), (6, .int a6)] [] τ := by
  intro n
  induction n with
  | zero => intro a1 a2 a3 a4 a5 a6 τ; exact sm_none
  | succ n ih =>
    intro a1 a2 a3 a4 a5 a6 τ
    rw [X4_waysOfHats_L50]
    refine sm_seg C [(.iload 6, 0), (.iload_n 1, 0)] (pc' := 53) (L' := [(0, .ref 213), (1, .int a1), (2, .int a2), (3, .int a3), (4, .int a4), (5, .int a5), (6, .int a6)]) (S' := [.int a1, .int a6]) (by decide +kernel) rfl ?_
    refine sm_icmpge 94 (off := 41) C (by decide +kernel) (by decide) (fun _ => ?_) (fun _ => ?_)
    · refine sm_seg C [(.aload_n 0, 0)] (pc' := 95) (L' := [(0, .ref 213), (1, .int a1), (2, .int a2), (3, .int a3), (4, .int a4), (5, .int a5), (6, .int a6)]) (S' := [.ref 213]) (by decide +kernel) rfl ?_
      refine sm_getR 4 2 214 cls4 C (ltX (by decide +kernel : kdX 213 = 4) (by decide)) (by decide +kernel : kdX 213 = 4) (obX4 (by decide +kernel : kdX 213 = 4)) (by decide) (frX4_2 (by decide +kernel : kdX 213 = 4)) fl4_9 (by decide +kernel) ?_
      refine sm_seg C [(.iload_n 3, 0), (.iload 5, 0), (.iconst 1, 1)] (pc' := 102) (L' := [(0, .ref 213), (1, .int a1), (2, .int a2), (3, .int a3), (4, .int a4), (5, .int a5), (6, .int a6)]) (S' := [.int 1, .int a5, .int a3, .ref 214]) (by decide +kernel) rfl ?_
      refine sm_ncal "BasketEnvoys" [.ref 214, .int a3, .int a5, .int 1] [] rfl C mw_X10_put ml_4_101 rfl ⟨by decide, by decide⟩ (Nat.le_of_ble_eq_true rfl) (by decide +kernel) (c_X10_put F 214 (krX4_2 (by decide +kernel : kdX 213 = 4)) a3 a5 1 τ) (fun r9 τ10 => ?_)
      refine sm_seg C [(.pop, 0), (.iinc 3 1, 1), (.goto (-90), 0)] (pc' := 19) (L' := [(3, .int (a3 + 1)), (0, .ref 213), (1, .int a1), (2, .int a2), (4, .int a4), (5, .int a5), (6, .int a6)]) (S' := []) (by decide +kernel) rfl ?_
      exact sm_sub [1, 2, 3, 0] rfl (ih19 a1 a2 (a3 + 1) τ10)
    · refine sm_seg C [(.iload 5, 0), (.iload 4, 0), (.iload 6, 0), (.ishr, 0), (.iconst 1, 1), (.iand, 0)] (pc' := 65) (L' := [(0, .ref 213), (1, .int a1), (2, .int a2), (3, .int a3), (4, .int a4), (5, .int a5), (6, .int a6)]) (S' := [.int ((shr a4 a6) &&& 1), .int a5]) (by decide +kernel) rfl ?_
      refine sm_ifeq 84 (off := 19) C (by decide +kernel) (by decide) (fun _ => ?_) (fun _ => ?_)
      · refine sm_seg C [(.iconst 0, 0)] (pc' := 85) (L' := [(0, .ref 213), (1, .int a1), (2, .int a2), (3, .int a3), (4, .int a4), (5, .int a5), (6, .int a6)]) (S' := [.int 0, .int a5]) (by decide +kernel) rfl ?_
        exact sm_sub [0, 1, 2, 3, 4, 6] rfl (s_X4_waysOfHats_j85 F C hr self19 (X4_waysOfHats_L50 F self19 n) ih19 ih a1 a2 a3 a4 a6 0 a5 τ)
      · refine sm_seg C [(.aload_n 0, 0)] (pc' := 69) (L' := [(0, .ref 213), (1, .int a1), (2, .int a2), (3, .int a3), (4, .int a4), (5, .int a5), (6, .int a6)]) (S' := [.ref 213, .int a5]) (by decide +kernel) rfl ?_
        refine sm_getR 4 2 214 cls4 C (ltX (by decide +kernel : kdX 213 = 4) (by decide)) (by decide +kernel : kdX 213 = 4) (obX4 (by decide +kernel : kdX 213 = 4)) (by decide) (frX4_2 (by decide +kernel : kdX 213 = 4)) fl4_9 (by decide +kernel) ?_
        refine sm_seg C [(.iload_n 3, 0), (.iconst 1, 1), (.iload 6, 0), (.ishl, 0), (.ixor, 0)] (pc' := 78) (L' := [(0, .ref 213), (1, .int a1), (2, .int a2), (3, .int a3), (4, .int a4), (5, .int a5), (6, .int a6)]) (S' := [.int (a3 ^^^ (shl 1 a6)), .ref 214, .int a5]) (by decide +kernel) rfl ?_
        refine sm_ncal "BasketEnvoys" [.ref 214, .int (a3 ^^^ (shl 1 a6))] [.int a5] rfl C mw_X10_entry ml_4_108 rfl ⟨by decide, by decide⟩ (Nat.le_of_ble_eq_true rfl) (by decide +kernel) (c_X10_entry F 214 (krX4_2 (by decide +kernel : kdX 213 = 4)) (a3 ^^^ (shl 1 a6)) τ) (fun r11 τ12 => ?_)
        refine sm_seg C [(.goto 4, 0)] (pc' := 85) (L' := [(0, .ref 213), (1, .int a1), (2, .int a2), (3, .int a3), (4, .int a4), (5, .int a5), (6, .int a6)]) (S' := [.int r11, .int a5]) (by decide +kernel) rfl ?_
        exact sm_sub [0, 1, 2, 3, 4, 6] rfl (s_X4_waysOfHats_j85 F C hr self19 (X4_waysOfHats_L50 F self19 n) ih19 ih a1 a2 a3 a4 a6 r11 a5 τ12)
def X4_waysOfHats_L19 (F : Nat) : Nat → Int32 → Int32 → Int32 → Tau → Option (Int32 × Tau)
  | 0, _, _, _, _ => none
  | n + 1, a1, a2, a3, τ =>
    if a2 < a3 then (cal (X10_entry F 214 a2 τ) fun r3 τ4 => some (r3, τ4)) else (cal (X_Integer_bitCount__I_I F a3 τ) fun r5 τ6 => cal (X10_entry F 38 (r5 - 1) τ6) fun r7 τ8 => X4_waysOfHats_L50 F (X4_waysOfHats_L19 F n) F a1 a2 a3 (a3 &&& r7) 0 0 τ8)
theorem s_X4_waysOfHats_L19 (F : Nat) {K : Ctx} (C : Cx K sysX RX4 cX4_waysOfHats 7 2) (hr : Rt K (some .int)) : ∀ (n : Nat) (a1 : Int32) (a2 : Int32) (a3 : Int32) (τ : Tau), Sm K sysX 7 (Qi K sysX) (X4_waysOfHats_L19 F n a1 a2 a3 τ) 19 [(0, .ref 213), (1, .int a1), (2, .int a2), (3, .int a3)] [] τ := by
  intro n
  induction n with
  | zero => intro a1 a2 a3 τ; exact sm_none
  | succ n ih =>
    intro a1 a2 a3 τ
    rw [X4_waysOfHats_L19]
    refine sm_seg C [(.iload_n 3, 0), (.iload_n 2, 0)] (pc' := 21) (L' := [(0, .ref 213), (1, .int a1), (2, .int a2), (3, .int a3)]) (S' := [.int a2, .int a3]) (by decide +kernel) rfl ?_
    refine sm_icmpgt 112 (off := 91) C (by decide +kernel) (by decide) (fun _ => ?_) (fun _ => ?_)
    · refine sm_seg C [(.aload_n 0, 0)] (pc' := 113) (L' := [(0, .ref 213), (1, .int a1), (2, .int a2), (3, .int a3)]) (S' := [.ref 213]) (by decide +kernel) rfl ?_
      refine sm_getR 4 2 214 cls4 C (ltX (by decide +kernel : kdX 213 = 4) (by decide)) (by decide +kernel : kdX 213 = 4) (obX4 (by decide +kernel : kdX 213 = 4)) (by decide) (frX4_2 (by decide +kernel : kdX 213 = 4)) fl4_9 (by decide +kernel) ?_
      refine sm_seg C [(.iload_n 2, 0)] (pc' := 117) (L' := [(0, .ref 213), (1, .int a1), (2, .int a2), (3, .int a3)]) (S' := [.int a2, .ref 214]) (by decide +kernel) rfl ?_
      refine sm_ncal "BasketEnvoys" [.ref 214, .int a2] [] rfl C mw_X10_entry ml_4_108 rfl ⟨by decide, by decide⟩ (Nat.le_of_ble_eq_true rfl) (by decide +kernel) (c_X10_entry F 214 (krX4_2 (by decide +kernel : kdX 213 = 4)) a2 τ) (fun r3 τ4 => ?_)
      exact sm_iret C hr rfl (by decide +kernel)
    · refine sm_seg C [(.iload_n 3, 0), (.aload_n 0, 0)] (pc' := 26) (L' := [(0, .ref 213), (1, .int a1), (2, .int a2), (3, .int a3)]) (S' := [.ref 213, .int a3]) (by decide +kernel) rfl ?_
      refine sm_getR 4 1 15 cls4 C (ltX (by decide +kernel : kdX 213 = 4) (by decide)) (by decide +kernel : kdX 213 = 4) (obX4 (by decide +kernel : kdX 213 = 4)) (by decide) (frX4_1 (by decide +kernel : kdX 213 = 4)) fl4_51 (by decide +kernel) ?_
      refine sm_getR 7 13 38 cls7 C (ltX (krX4_1 (by decide +kernel : kdX 213 = 4)) (by decide)) (krX4_1 (by decide +kernel : kdX 213 = 4)) (obX7 (krX4_1 (by decide +kernel : kdX 213 = 4))) (by decide) (frX7_13 (krX4_1 (by decide +kernel : kdX 213 = 4))) fl4_164 (by decide +kernel) ?_
      refine sm_seg C [(.iload_n 3, 0)] (pc' := 33) (L' := [(0, .ref 213), (1, .int a1), (2, .int a2), (3, .int a3)]) (S' := [.int a3, .ref 38, .int a3]) (by decide +kernel) rfl ?_
      refine sm_scal [.int a3] [.ref 38, .int a3] rfl C mw_Integer_bitCount__I_I ml_4_141 rfl ⟨by decide, by decide⟩ (Nat.le_of_ble_eq_true rfl) (by decide +kernel) (c_X_Integer_bitCount__I_I F a3 τ) (fun r5 τ6 => ?_)
      refine sm_seg C [(.iconst 1, 1), (.isub, 0)] (pc' := 38) (L' := [(0, .ref 213), (1, .int a1), (2, .int a2), (3, .int a3)]) (S' := [.int (r5 - 1), .ref 38, .int a3]) (by decide +kernel) rfl ?_
      refine sm_ncal "BasketEnvoys" [.ref 38, .int (r5 - 1)] [.int a3] rfl C mw_X10_entry ml_4_108 rfl ⟨by decide, by decide⟩ (Nat.le_of_ble_eq_true rfl) (by decide +kernel) (c_X10_entry F 38 (krX7_13 (krX4_1 (by decide +kernel : kdX 213 = 4))) (r5 - 1) τ6) (fun r7 τ8 => ?_)
      refine sm_seg C [(.iand, 0), (.istore 4, 0), (.iconst 0, 0), (.istore 5, 0), (.iconst 0, 0), (.istore 6, 0)] (pc' := 50) (L' := [(6, .int 0), (5, .int 0), (4, .int (a3 &&& r7)), (0, .ref 213), (1, .int a1), (2, .int a2), (3, .int a3)]) (S' := []) (by decide +kernel) rfl ?_
      exact sm_sub [3, 4, 5, 6, 2, 1, 0] rfl (s_X4_waysOfHats_L50 F C hr (X4_waysOfHats_L19 F n) ih F a1 a2 a3 (a3 &&& r7) 0 0 τ8)
def X4_waysOfHats (F : Nat) (a1 : Int32) (τ : Tau) : Option (Int32 × Tau) :=
  cal (X10_put F 214 0 1 1 τ) fun r1 τ2 => X4_waysOfHats_L19 F F a1 ((shl 1 a1) - 1) 1 τ2
set_option maxRecDepth 20000 in
set_option maxHeartbeats 4000000 in
theorem c_X4_waysOfHats (F : Nat) (a1 : Int32) (τ : Tau) (r : Int32) (τ' : Tau) (h : X4_waysOfHats F a1 τ = some (r, τ')) : MCi sysX yX4_waysOfHats cX4_waysOfHats 7 (some .int) 2 [.ref 213, .int a1] τ r τ' :=
  mci_of (by decide +kernel) (Nat.le_of_ble_eq_true rfl) (fun K C hr => by
    show Sm K sysX 7 (Qi K sysX) (X4_waysOfHats F a1 τ) 0 [(0, .ref 213), (1, .int a1)] [] τ
    unfold X4_waysOfHats
    refine sm_seg C [(.iconst 1, 1), (.iload_n 1, 0), (.ishl, 0), (.iconst 1, 1), (.isub, 0), (.istore_n 2, 0), (.aload_n 0, 0)] (pc' := 7) (L' := [(2, .int ((shl 1 a1) - 1)), (0, .ref 213), (1, .int a1)]) (S' := [.ref 213]) (by decide +kernel) rfl ?_
    refine sm_getR 4 2 214 cls4 C (ltX (by decide +kernel : kdX 213 = 4) (by decide)) (by decide +kernel : kdX 213 = 4) (obX4 (by decide +kernel : kdX 213 = 4)) (by decide) (frX4_2 (by decide +kernel : kdX 213 = 4)) fl4_9 (by decide +kernel) ?_
    refine sm_seg C [(.iconst 0, 0), (.iconst 1, 1), (.iconst 1, 1)] (pc' := 13) (L' := [(2, .int ((shl 1 a1) - 1)), (0, .ref 213), (1, .int a1)]) (S' := [.int 1, .int 1, .int 0, .ref 214]) (by decide +kernel) rfl ?_
    refine sm_ncal "BasketEnvoys" [.ref 214, .int 0, .int 1, .int 1] [] rfl C mw_X10_put ml_4_101 rfl ⟨by decide, by decide⟩ (Nat.le_of_ble_eq_true rfl) (by decide +kernel) (c_X10_put F 214 (krX4_2 (by decide +kernel : kdX 213 = 4)) 0 1 1 τ) (fun r1 τ2 => ?_)
    refine sm_seg C [(.pop, 0), (.iconst 1, 1), (.istore_n 3, 0)] (pc' := 19) (L' := [(3, .int 1), (2, .int ((shl 1 a1) - 1)), (0, .ref 213), (1, .int a1)]) (S' := []) (by decide +kernel) rfl ?_
    exact sm_sub [2, 3, 1, 0] rfl (s_X4_waysOfHats_L19 F C hr F a1 ((shl 1 a1) - 1) 1 τ2)) h
/-! BasketEnvoys.hats -/
def X10_hats (F : Nat) (a1 : Int32) (τ : Tau) : Option (Int32 × Tau) :=
  cal (X10_within F a1 1 8 τ) fun r1 τ2 => if r1 = 0 then (some ((-1), τ2)) else (cal (X4_waysOfHats F a1 τ2) fun r3 τ4 => some (r3, τ4))
set_option maxRecDepth 20000 in
set_option maxHeartbeats 4000000 in
theorem c_X10_hats (F : Nat) (a1 : Int32) (τ : Tau) (r : Int32) (τ' : Tau) (h : X10_hats F a1 τ = some (r, τ')) : MCi sysX yX10_hats cX10_hats 2 (some .int) 3 [.ref 0, .int a1] τ r τ' :=
  mci_of (by decide +kernel) (Nat.le_of_ble_eq_true rfl) (fun K C hr => by
    show Sm K sysX 2 (Qi K sysX) (X10_hats F a1 τ) 0 [(0, .ref 0), (1, .int a1)] [] τ
    unfold X10_hats
    refine sm_seg C [(.iload_n 1, 0), (.iconst 1, 1), (.bipush 8, 8)] (pc' := 4) (L' := [(0, .ref 0), (1, .int a1)]) (S' := [.int 8, .int 1, .int a1]) (by decide +kernel) rfl ?_
    refine sm_scal [.int a1, .int 1, .int 8] [] rfl C mw_X10_within ml_10_70 rfl ⟨by decide, by decide⟩ (Nat.le_of_ble_eq_true rfl) (by decide +kernel) (c_X10_within F a1 1 8 τ) (fun r1 τ2 => ?_)
    refine sm_ifeq 21 (off := 14) C (by decide +kernel) (by decide) (fun _ => ?_) (fun _ => ?_)
    · refine sm_seg C [(.iconst (-1), (-1))] (pc' := 22) (L' := [(0, .ref 0), (1, .int a1)]) (S' := [.int (-1)]) (by decide +kernel) rfl ?_
      exact sm_iret C hr rfl (by decide +kernel)
    · refine sm_seg C [(.aload_n 0, 0)] (pc' := 11) (L' := [(0, .ref 0), (1, .int a1)]) (S' := [.ref 0]) (by decide +kernel) rfl ?_
      refine sm_getR 10 7 213 cls10 C (ltX (by decide +kernel : kdX 0 = 10) (by decide)) (by decide +kernel : kdX 0 = 10) (obX10 (by decide +kernel : kdX 0 = 10)) (by decide) (frX10_7 (by decide +kernel : kdX 0 = 10)) fl10_56 (by decide +kernel) ?_
      refine sm_seg C [(.iload_n 1, 0)] (pc' := 15) (L' := [(0, .ref 0), (1, .int a1)]) (S' := [.int a1, .ref 213]) (by decide +kernel) rfl ?_
      refine sm_vcal [.int a1] [] rfl C mw_X4_waysOfHats ml_10_360 rfl (ci := 4) rfl (ltX (krX10_7 (by decide +kernel : kdX 0 = 10)) (by decide)) (krX10_7 (by decide +kernel : kdX 0 = 10)) (by decide) ⟨by decide, by decide⟩ (Nat.le_of_ble_eq_true rfl) (by decide +kernel) (c_X4_waysOfHats F a1 τ2) (fun r3 τ4 => ?_)
      refine sm_seg C [(.goto 4, 0)] (pc' := 22) (L' := [(0, .ref 0), (1, .int a1)]) (S' := [.int r3]) (by decide +kernel) rfl ?_
      exact sm_iret C hr rfl (by decide +kernel)) h
/-! BasketEnvoys_Riddles.thingsThatSay -/
def X4_thingsThatSay_j32 (F : Nat) (self5 : Int32 → Int32 → Int32 → Int32 → Tau → Option (Int32 × Tau)) (a1 : Int32) (a2 : Int32) (a4 : Int32) (z0 : Int32) (z1 : Int32) (τ : Tau) : Option (Int32 × Tau) :=
  self5 a1 a2 (z1 + z0) (a4 + 1) τ
theorem s_X4_thingsThatSay_j32 (F : Nat) {K : Ctx} (C : Cx K sysX RX4 cX4_thingsThatSay 5 3) (hr : Rt K (some .int)) (self5 : Int32 → Int32 → Int32 → Int32 → Tau → Option (Int32 × Tau)) (ih5 : ∀ (a1 : Int32) (a2 : Int32) (a3 : Int32) (a4 : Int32) (τ : Tau), Sm K sysX 5 (Qi K sysX) (self5 a1 a2 a3 a4 τ) 5 [(0, .ref 213), (1, .int a1), (2, .int a2), (3, .int a3), (4, .int a4)] [] τ) (a1 : Int32) (a2 : Int32) (a4 : Int32) (z0 : Int32) (z1 : Int32) (τ : Tau) : Sm K sysX 5 (Qi K sysX) (X4_thingsThatSay_j32 F self5 a1 a2 a4 z0 z1 τ) 32 [(0, .ref 213), (1, .int a1), (2, .int a2), (4, .int a4)] [.int z0, .int z1] τ := by
  unfold X4_thingsThatSay_j32
  refine sm_seg C [(.iadd, 0), (.istore_n 3, 0), (.iinc 4 1, 1), (.goto (-32), 0)] (pc' := 5) (L' := [(4, .int (a4 + 1)), (3, .int (z1 + z0)), (0, .ref 213), (1, .int a1), (2, .int a2)]) (S' := []) (by decide +kernel) rfl ?_
  exact sm_sub [2, 3, 4, 1, 0] rfl (ih5 a1 a2 (z1 + z0) (a4 + 1) τ)
def X4_thingsThatSay_L5 (F : Nat) : Nat → Int32 → Int32 → Int32 → Int32 → Tau → Option (Int32 × Tau)
  | 0, _, _, _, _, _ => none
  | n + 1, a1, a2, a3, a4, τ =>
    if 12 ≤ a4 then (some (a3, τ)) else (cal (X9_saysTo F 1 a1 a4 τ) fun r1 τ2 => if r1 = a2 then (X4_thingsThatSay_j32 F (X4_thingsThatSay_L5 F n) a1 a2 a4 1 a3 τ2) else (X4_thingsThatSay_j32 F (X4_thingsThatSay_L5 F n) a1 a2 a4 0 a3 τ2))
theorem s_X4_thingsThatSay_L5 (F : Nat) {K : Ctx} (C : Cx K sysX RX4 cX4_thingsThatSay 5 3) (hr : Rt K (some .int)) : ∀ (n : Nat) (a1 : Int32) (a2 : Int32) (a3 : Int32) (a4 : Int32) (τ : Tau), Sm K sysX 5 (Qi K sysX) (X4_thingsThatSay_L5 F n a1 a2 a3 a4 τ) 5 [(0, .ref 213), (1, .int a1), (2, .int a2), (3, .int a3), (4, .int a4)] [] τ := by
  intro n
  induction n with
  | zero => intro a1 a2 a3 a4 τ; exact sm_none
  | succ n ih =>
    intro a1 a2 a3 a4 τ
    rw [X4_thingsThatSay_L5]
    refine sm_seg C [(.iload 4, 0), (.bipush 12, 12)] (pc' := 9) (L' := [(0, .ref 213), (1, .int a1), (2, .int a2), (3, .int a3), (4, .int a4)]) (S' := [.int 12, .int a4]) (by decide +kernel) rfl ?_
    refine sm_icmpge 40 (off := 31) C (by decide +kernel) (by decide) (fun _ => ?_) (fun _ => ?_)
    · refine sm_seg C [(.iload_n 3, 0)] (pc' := 41) (L' := [(0, .ref 213), (1, .int a1), (2, .int a2), (3, .int a3), (4, .int a4)]) (S' := [.int a3]) (by decide +kernel) rfl ?_
      exact sm_iret C hr rfl (by decide +kernel)
    · refine sm_seg C [(.iload_n 3, 0), (.aload_n 0, 0)] (pc' := 14) (L' := [(0, .ref 213), (1, .int a1), (2, .int a2), (3, .int a3), (4, .int a4)]) (S' := [.ref 213, .int a3]) (by decide +kernel) rfl ?_
      refine sm_getR 4 0 1 cls4 C (ltX (by decide +kernel : kdX 213 = 4) (by decide)) (by decide +kernel : kdX 213 = 4) (obX4 (by decide +kernel : kdX 213 = 4)) (by decide) (frX4_0 (by decide +kernel : kdX 213 = 4)) fl4_41 (by decide +kernel) ?_
      refine sm_seg C [(.iload_n 1, 0), (.iload 4, 0)] (pc' := 20) (L' := [(0, .ref 213), (1, .int a1), (2, .int a2), (3, .int a3), (4, .int a4)]) (S' := [.int a4, .int a1, .ref 1, .int a3]) (by decide +kernel) rfl ?_
      refine sm_vcal [.int a1, .int a4] [.int a3] rfl C mw_X9_saysTo ml_4_77 rfl (ci := 9) rfl (ltX (krX4_0 (by decide +kernel : kdX 213 = 4)) (by decide)) (krX4_0 (by decide +kernel : kdX 213 = 4)) (by decide) ⟨by decide, by decide⟩ (Nat.le_of_ble_eq_true rfl) (by decide +kernel) (c_X9_saysTo F 1 (krX4_0 (by decide +kernel : kdX 213 = 4)) a1 a4 τ) (fun r1 τ2 => ?_)
      refine sm_seg C [(.iload_n 2, 0)] (pc' := 24) (L' := [(0, .ref 213), (1, .int a1), (2, .int a2), (3, .int a3), (4, .int a4)]) (S' := [.int a2, .int r1, .int a3]) (by decide +kernel) rfl ?_
      refine sm_icmpne 31 (off := 7) C (by decide +kernel) (by decide) (fun _ => ?_) (fun _ => ?_)
      · refine sm_seg C [(.iconst 1, 1), (.goto 4, 0)] (pc' := 32) (L' := [(0, .ref 213), (1, .int a1), (2, .int a2), (3, .int a3), (4, .int a4)]) (S' := [.int 1, .int a3]) (by decide +kernel) rfl ?_
        exact sm_sub [0, 1, 2, 4] rfl (s_X4_thingsThatSay_j32 F C hr (X4_thingsThatSay_L5 F n) ih a1 a2 a4 1 a3 τ2)
      · refine sm_seg C [(.iconst 0, 0)] (pc' := 32) (L' := [(0, .ref 213), (1, .int a1), (2, .int a2), (3, .int a3), (4, .int a4)]) (S' := [.int 0, .int a3]) (by decide +kernel) rfl ?_
        exact sm_sub [0, 1, 2, 4] rfl (s_X4_thingsThatSay_j32 F C hr (X4_thingsThatSay_L5 F n) ih a1 a2 a4 0 a3 τ2)
def X4_thingsThatSay (F : Nat) (a1 : Int32) (a2 : Int32) (τ : Tau) : Option (Int32 × Tau) :=
  X4_thingsThatSay_L5 F F a1 a2 0 0 τ
set_option maxRecDepth 20000 in
set_option maxHeartbeats 4000000 in
theorem c_X4_thingsThatSay (F : Nat) (a1 : Int32) (a2 : Int32) (τ : Tau) (r : Int32) (τ' : Tau) (h : X4_thingsThatSay F a1 a2 τ = some (r, τ')) : MCi sysX yX4_thingsThatSay cX4_thingsThatSay 5 (some .int) 3 [.ref 213, .int a1, .int a2] τ r τ' :=
  mci_of (by decide +kernel) (Nat.le_of_ble_eq_true rfl) (fun K C hr => by
    show Sm K sysX 5 (Qi K sysX) (X4_thingsThatSay F a1 a2 τ) 0 [(0, .ref 213), (1, .int a1), (2, .int a2)] [] τ
    unfold X4_thingsThatSay
    refine sm_seg C [(.iconst 0, 0), (.istore_n 3, 0), (.iconst 0, 0), (.istore 4, 0)] (pc' := 5) (L' := [(4, .int 0), (3, .int 0), (0, .ref 213), (1, .int a1), (2, .int a2)]) (S' := []) (by decide +kernel) rfl ?_
    exact sm_sub [2, 3, 4, 1, 0] rfl (s_X4_thingsThatSay_L5 F C hr F a1 a2 0 0 τ)) h
/-! BasketEnvoys_Riddles.rowsHeard -/
def X4_rowsHeard_j53 (F : Nat) (self5 : Int32 → Int64 → Int32 → Tau → Option (Int32 × Tau)) (a1 : Int32) (l2 : Int64) (a4 : Int32) (z0 : Int32) (τ : Tau) : Option (Int32 × Tau) :=
  self5 a1 (lrmd (l2 * ((z0).toInt64)) (1000000007 : Int64)) (a4 + 1) τ
theorem s_X4_rowsHeard_j53 (F : Nat) {K : Ctx} (C : Cx K sysX RX4 cX4_rowsHeard 7 4) (hr : Rt K (some .int)) (self5 : Int32 → Int64 → Int32 → Tau → Option (Int32 × Tau)) (ih5 : ∀ (a1 : Int32) (l2 : Int64) (a4 : Int32) (τ : Tau), Sm K sysX 7 (Qi K sysX) (self5 a1 l2 a4 τ) 5 [(0, .ref 213), (1, .int a1), (2, .long l2), (4, .int a4)] [] τ) (a1 : Int32) (l2 : Int64) (a4 : Int32) (z0 : Int32) (τ : Tau) : Sm K sysX 7 (Qi K sysX) (X4_rowsHeard_j53 F self5 a1 l2 a4 z0 τ) 53 [(0, .ref 213), (1, .int a1), (2, .long l2), (4, .int a4)] [.int z0] τ := by
  unfold X4_rowsHeard_j53
  refine sm_seg C [(.istore 6, 0), (.lload_n 2, 0), (.iload 6, 0), (.i2l, 0), (.lmul, 0)] (pc' := 60) (L' := [(6, .int z0), (0, .ref 213), (1, .int a1), (2, .long l2), (4, .int a4)]) (S' := [.long (l2 * ((z0).toInt64))]) (by decide +kernel) rfl ?_
  refine sm_ldc2 C cn_4_93 (by decide +kernel) ?_
  refine sm_lrem C (by decide +kernel) (by decide) ?_
  refine sm_seg C [(.lstore_n 2, 0), (.iinc 4 1, 1), (.goto (-63), 0)] (pc' := 5) (L' := [(4, .int (a4 + 1)), (2, .long (lrmd (l2 * ((z0).toInt64)) (1000000007 : Int64))), (6, .int z0), (0, .ref 213), (1, .int a1)]) (S' := []) (by decide +kernel) rfl ?_
  exact sm_sub [3, 4, 1, 0] rfl (ih5 a1 (lrmd (l2 * ((z0).toInt64)) (1000000007 : Int64)) (a4 + 1) τ)
def X4_rowsHeard_L5 (F : Nat) : Nat → Int32 → Int64 → Int32 → Tau → Option (Int32 × Tau)
  | 0, _, _, _, _ => none
  | n + 1, a1, l2, a4, τ =>
    if (τ 18 0) ≤ a4 then (some ((l2.toInt32), τ)) else (cal (X5_get F 18 a4 τ) fun r1 τ2 => if r1 = (-2) then (X4_rowsHeard_j53 F (X4_rowsHeard_L5 F n) a1 l2 a4 12 τ2) else (cal (X4_thingsThatSay F a1 r1 τ2) fun r3 τ4 => X4_rowsHeard_j53 F (X4_rowsHeard_L5 F n) a1 l2 a4 r3 τ4))
theorem s_X4_rowsHeard_L5 (F : Nat) {K : Ctx} (C : Cx K sysX RX4 cX4_rowsHeard 7 4) (hr : Rt K (some .int)) : ∀ (n : Nat) (a1 : Int32) (l2 : Int64) (a4 : Int32) (τ : Tau), Sm K sysX 7 (Qi K sysX) (X4_rowsHeard_L5 F n a1 l2 a4 τ) 5 [(0, .ref 213), (1, .int a1), (2, .long l2), (4, .int a4)] [] τ := by
  intro n
  induction n with
  | zero => intro a1 l2 a4 τ; exact sm_none
  | succ n ih =>
    intro a1 l2 a4 τ
    rw [X4_rowsHeard_L5]
    refine sm_seg C [(.iload 4, 0), (.aload_n 0, 0)] (pc' := 8) (L' := [(0, .ref 213), (1, .int a1), (2, .long l2), (4, .int a4)]) (S' := [.ref 213, .int a4]) (by decide +kernel) rfl ?_
    refine sm_getR 4 1 15 cls4 C (ltX (by decide +kernel : kdX 213 = 4) (by decide)) (by decide +kernel : kdX 213 = 4) (obX4 (by decide +kernel : kdX 213 = 4)) (by decide) (frX4_1 (by decide +kernel : kdX 213 = 4)) fl4_51 (by decide +kernel) ?_
    refine sm_getR 7 1 18 cls7 C (ltX (krX4_1 (by decide +kernel : kdX 213 = 4)) (by decide)) (krX4_1 (by decide +kernel : kdX 213 = 4)) (obX7 (krX4_1 (by decide +kernel : kdX 213 = 4))) (by decide) (frX7_1 (krX4_1 (by decide +kernel : kdX 213 = 4))) fl4_95 (by decide +kernel) ?_
    refine sm_getI 5 0 cls5 C (ltX (krX7_1 (krX4_1 (by decide +kernel : kdX 213 = 4))) (by decide)) (krX7_1 (krX4_1 (by decide +kernel : kdX 213 = 4))) (obX5 (krX7_1 (krX4_1 (by decide +kernel : kdX 213 = 4)))) (by decide) (fiX5_0 (krX7_1 (krX4_1 (by decide +kernel : kdX 213 = 4)))) fl4_68 (by decide +kernel) ?_
    refine sm_icmpge 71 (off := 54) C (by decide +kernel) (by decide) (fun _ => ?_) (fun _ => ?_)
    · refine sm_seg C [(.lload_n 2, 0), (.l2i, 0)] (pc' := 73) (L' := [(0, .ref 213), (1, .int a1), (2, .long l2), (4, .int a4)]) (S' := [.int (l2.toInt32)]) (by decide +kernel) rfl ?_
      exact sm_iret C hr rfl (by decide +kernel)
    · refine sm_seg C [(.aload_n 0, 0)] (pc' := 21) (L' := [(0, .ref 213), (1, .int a1), (2, .long l2), (4, .int a4)]) (S' := [.ref 213]) (by decide +kernel) rfl ?_
      refine sm_getR 4 1 15 cls4 C (ltX (by decide +kernel : kdX 213 = 4) (by decide)) (by decide +kernel : kdX 213 = 4) (obX4 (by decide +kernel : kdX 213 = 4)) (by decide) (frX4_1 (by decide +kernel : kdX 213 = 4)) fl4_51 (by decide +kernel) ?_
      refine sm_getR 7 1 18 cls7 C (ltX (krX4_1 (by decide +kernel : kdX 213 = 4)) (by decide)) (krX4_1 (by decide +kernel : kdX 213 = 4)) (obX7 (krX4_1 (by decide +kernel : kdX 213 = 4))) (by decide) (frX7_1 (krX4_1 (by decide +kernel : kdX 213 = 4))) fl4_95 (by decide +kernel) ?_
      refine sm_seg C [(.iload 4, 0)] (pc' := 29) (L' := [(0, .ref 213), (1, .int a1), (2, .long l2), (4, .int a4)]) (S' := [.int a4, .ref 18]) (by decide +kernel) rfl ?_
      refine sm_vcal [.int a4] [] rfl C mw_X5_get ml_4_73 rfl (ci := 5) rfl (ltX (krX7_1 (krX4_1 (by decide +kernel : kdX 213 = 4))) (by decide)) (krX7_1 (krX4_1 (by decide +kernel : kdX 213 = 4))) (by decide) ⟨by decide, by decide⟩ (Nat.le_of_ble_eq_true rfl) (by decide +kernel) (c_X5_get F 18 (krX7_1 (krX4_1 (by decide +kernel : kdX 213 = 4))) a4 τ) (fun r1 τ2 => ?_)
      refine sm_seg C [(.istore 5, 0), (.iload 5, 0), (.bipush (-2), (-2))] (pc' := 38) (L' := [(5, .int r1), (0, .ref 213), (1, .int a1), (2, .long l2), (4, .int a4)]) (S' := [.int (-2), .int r1]) (by decide +kernel) rfl ?_
      refine sm_icmpne 46 (off := 8) C (by decide +kernel) (by decide) (fun _ => ?_) (fun _ => ?_)
      · refine sm_seg C [(.bipush 12, 12), (.goto 10, 0)] (pc' := 53) (L' := [(5, .int r1), (0, .ref 213), (1, .int a1), (2, .long l2), (4, .int a4)]) (S' := [.int 12]) (by decide +kernel) rfl ?_
        exact sm_sub [1, 2, 3, 4] rfl (s_X4_rowsHeard_j53 F C hr (X4_rowsHeard_L5 F n) ih a1 l2 a4 12 τ2)
      · refine sm_seg C [(.aload_n 0, 0), (.iload_n 1, 0), (.iload 5, 0)] (pc' := 50) (L' := [(5, .int r1), (0, .ref 213), (1, .int a1), (2, .long l2), (4, .int a4)]) (S' := [.int r1, .int a1, .ref 213]) (by decide +kernel) rfl ?_
        refine sm_vcal [.int a1, .int r1] [] rfl C mw_X4_thingsThatSay ml_4_90 rfl (ci := 4) rfl (ltX (by decide +kernel : kdX 213 = 4) (by decide)) (by decide +kernel : kdX 213 = 4) (by decide) ⟨by decide, by decide⟩ (Nat.le_of_ble_eq_true rfl) (by decide +kernel) (c_X4_thingsThatSay F a1 r1 τ2) (fun r3 τ4 => ?_)
        exact sm_sub [1, 2, 3, 4] rfl (s_X4_rowsHeard_j53 F C hr (X4_rowsHeard_L5 F n) ih a1 l2 a4 r3 τ4)
def X4_rowsHeard (F : Nat) (a1 : Int32) (τ : Tau) : Option (Int32 × Tau) :=
  X4_rowsHeard_L5 F F a1 (1 : Int64) 0 τ
set_option maxRecDepth 20000 in
set_option maxHeartbeats 4000000 in
theorem c_X4_rowsHeard (F : Nat) (a1 : Int32) (τ : Tau) (r : Int32) (τ' : Tau) (h : X4_rowsHeard F a1 τ = some (r, τ')) : MCi sysX yX4_rowsHeard cX4_rowsHeard 7 (some .int) 4 [.ref 213, .int a1] τ r τ' :=
  mci_of (by decide +kernel) (Nat.le_of_ble_eq_true rfl) (fun K C hr => by
    show Sm K sysX 7 (Qi K sysX) (X4_rowsHeard F a1 τ) 0 [(0, .ref 213), (1, .int a1)] [] τ
    unfold X4_rowsHeard
    refine sm_seg C [(.lconst 1, 0), (.lstore_n 2, 0), (.iconst 0, 0), (.istore 4, 0)] (pc' := 5) (L' := [(4, .int 0), (2, .long (1 : Int64)), (0, .ref 213), (1, .int a1)]) (S' := []) (by decide +kernel) rfl ?_
    exact sm_sub [2, 3, 1, 0] rfl (s_X4_rowsHeard_L5 F C hr F a1 (1 : Int64) 0 τ)) h
/-! BasketEnvoys_Riddles.isHeardSo -/
def X4_isHeardSo_j84 (F : Nat) (self27 : Int32 → Int32 → Tau → Option (Int32 × Tau)) (a1 : Int32) (a2 : Int32) (τ : Tau) : Option (Int32 × Tau) :=
  self27 a1 (a2 + 1) τ
theorem s_X4_isHeardSo_j84 (F : Nat) {K : Ctx} (C : Cx K sysX RX4 cX4_isHeardSo 4 3) (hr : Rt K (some .boolean)) (self27 : Int32 → Int32 → Tau → Option (Int32 × Tau)) (ih27 : ∀ (a1 : Int32) (a2 : Int32) (τ : Tau), Sm K sysX 4 (Qi K sysX) (self27 a1 a2 τ) 27 [(0, .ref 213), (1, .int a1), (2, .int a2)] [] τ) (a1 : Int32) (a2 : Int32) (τ : Tau) : Sm K sysX 4 (Qi K sysX) (X4_isHeardSo_j84 F self27 a1 a2 τ) 84 [(0, .ref 213), (1, .int a1), (2, .int a2)] [] τ := by
  unfold X4_isHeardSo_j84
  refine sm_seg C [(.iinc 2 1, 1), (.goto (-60), 0)] (pc' := 27) (L' := [(2, .int (a2 + 1)), (0, .ref 213), (1, .int a1)]) (S' := []) (by decide +kernel) rfl ?_
  exact sm_sub [1, 2, 0] rfl (ih27 a1 (a2 + 1) τ)
def X4_isHeardSo_L27 (F : Nat) : Nat → Int32 → Int32 → Tau → Option (Int32 × Tau)
  | 0, _, _, _ => none
  | n + 1, a1, a2, τ =>
    if (τ 16 0) ≤ a2 then (some (1, τ)) else (cal (X5_get F 18 a2 τ) fun r1 τ2 => if r1 = (-2) then (X4_isHeardSo_j84 F (X4_isHeardSo_L27 F n) a1 a2 τ2) else (cal (X5_get F 16 a2 τ2) fun r3 τ4 => cal (X9_saysTo F 1 a1 r3 τ4) fun r5 τ6 => if r5 = r1 then (X4_isHeardSo_j84 F (X4_isHeardSo_L27 F n) a1 a2 τ6) else (some (0, τ6))))
theorem s_X4_isHeardSo_L27 (F : Nat) {K : Ctx} (C : Cx K sysX RX4 cX4_isHeardSo 4 3) (hr : Rt K (some .boolean)) : ∀ (n : Nat) (a1 : Int32) (a2 : Int32) (τ : Tau), Sm K sysX 4 (Qi K sysX) (X4_isHeardSo_L27 F n a1 a2 τ) 27 [(0, .ref 213), (1, .int a1), (2, .int a2)] [] τ := by
  intro n
  induction n with
  | zero => intro a1 a2 τ; exact sm_none
  | succ n ih =>
    intro a1 a2 τ
    rw [X4_isHeardSo_L27]
    refine sm_seg C [(.iload_n 2, 0), (.aload_n 0, 0)] (pc' := 29) (L' := [(0, .ref 213), (1, .int a1), (2, .int a2)]) (S' := [.ref 213, .int a2]) (by decide +kernel) rfl ?_
    refine sm_getR 4 1 15 cls4 C (ltX (by decide +kernel : kdX 213 = 4) (by decide)) (by decide +kernel : kdX 213 = 4) (obX4 (by decide +kernel : kdX 213 = 4)) (by decide) (frX4_1 (by decide +kernel : kdX 213 = 4)) fl4_51 (by decide +kernel) ?_
    refine sm_getR 7 0 16 cls7 C (ltX (krX4_1 (by decide +kernel : kdX 213 = 4)) (by decide)) (krX4_1 (by decide +kernel : kdX 213 = 4)) (obX7 (krX4_1 (by decide +kernel : kdX 213 = 4))) (by decide) (frX7_0 (krX4_1 (by decide +kernel : kdX 213 = 4))) fl4_62 (by decide +kernel) ?_
    refine sm_getI 5 0 cls5 C (ltX (krX7_0 (krX4_1 (by decide +kernel : kdX 213 = 4))) (by decide)) (krX7_0 (krX4_1 (by decide +kernel : kdX 213 = 4))) (obX5 (krX7_0 (krX4_1 (by decide +kernel : kdX 213 = 4)))) (by decide) (fiX5_0 (krX7_0 (krX4_1 (by decide +kernel : kdX 213 = 4)))) fl4_68 (by decide +kernel) ?_
    refine sm_icmpge 90 (off := 52) C (by decide +kernel) (by decide) (fun _ => ?_) (fun _ => ?_)
    · refine sm_seg C [(.iconst 1, 1)] (pc' := 91) (L' := [(0, .ref 213), (1, .int a1), (2, .int a2)]) (S' := [.int 1]) (by decide +kernel) rfl ?_
      exact sm_iret C hr rfl (by decide +kernel)
    · refine sm_seg C [(.aload_n 0, 0)] (pc' := 42) (L' := [(0, .ref 213), (1, .int a1), (2, .int a2)]) (S' := [.ref 213]) (by decide +kernel) rfl ?_
      refine sm_getR 4 1 15 cls4 C (ltX (by decide +kernel : kdX 213 = 4) (by decide)) (by decide +kernel : kdX 213 = 4) (obX4 (by decide +kernel : kdX 213 = 4)) (by decide) (frX4_1 (by decide +kernel : kdX 213 = 4)) fl4_51 (by decide +kernel) ?_
      refine sm_getR 7 1 18 cls7 C (ltX (krX4_1 (by decide +kernel : kdX 213 = 4)) (by decide)) (krX4_1 (by decide +kernel : kdX 213 = 4)) (obX7 (krX4_1 (by decide +kernel : kdX 213 = 4))) (by decide) (frX7_1 (krX4_1 (by decide +kernel : kdX 213 = 4))) fl4_95 (by decide +kernel) ?_
      refine sm_seg C [(.iload_n 2, 0)] (pc' := 49) (L' := [(0, .ref 213), (1, .int a1), (2, .int a2)]) (S' := [.int a2, .ref 18]) (by decide +kernel) rfl ?_
      refine sm_vcal [.int a2] [] rfl C mw_X5_get ml_4_73 rfl (ci := 5) rfl (ltX (krX7_1 (krX4_1 (by decide +kernel : kdX 213 = 4))) (by decide)) (krX7_1 (krX4_1 (by decide +kernel : kdX 213 = 4))) (by decide) ⟨by decide, by decide⟩ (Nat.le_of_ble_eq_true rfl) (by decide +kernel) (c_X5_get F 18 (krX7_1 (krX4_1 (by decide +kernel : kdX 213 = 4))) a2 τ) (fun r1 τ2 => ?_)
      refine sm_seg C [(.istore_n 3, 0), (.iload_n 3, 0), (.bipush (-2), (-2))] (pc' := 56) (L' := [(3, .int r1), (0, .ref 213), (1, .int a1), (2, .int a2)]) (S' := [.int (-2), .int r1]) (by decide +kernel) rfl ?_
      refine sm_icmpeq 84 (off := 28) C (by decide +kernel) (by decide) (fun _ => ?_) (fun _ => ?_)
      · exact sm_sub [1, 2, 3] rfl (s_X4_isHeardSo_j84 F C hr (X4_isHeardSo_L27 F n) ih a1 a2 τ2)
      · refine sm_seg C [(.aload_n 0, 0)] (pc' := 60) (L' := [(3, .int r1), (0, .ref 213), (1, .int a1), (2, .int a2)]) (S' := [.ref 213]) (by decide +kernel) rfl ?_
        refine sm_getR 4 0 1 cls4 C (ltX (by decide +kernel : kdX 213 = 4) (by decide)) (by decide +kernel : kdX 213 = 4) (obX4 (by decide +kernel : kdX 213 = 4)) (by decide) (frX4_0 (by decide +kernel : kdX 213 = 4)) fl4_41 (by decide +kernel) ?_
        refine sm_seg C [(.iload_n 1, 0), (.aload_n 0, 0)] (pc' := 65) (L' := [(3, .int r1), (0, .ref 213), (1, .int a1), (2, .int a2)]) (S' := [.ref 213, .int a1, .ref 1]) (by decide +kernel) rfl ?_
        refine sm_getR 4 1 15 cls4 C (ltX (by decide +kernel : kdX 213 = 4) (by decide)) (by decide +kernel : kdX 213 = 4) (obX4 (by decide +kernel : kdX 213 = 4)) (by decide) (frX4_1 (by decide +kernel : kdX 213 = 4)) fl4_51 (by decide +kernel) ?_
        refine sm_getR 7 0 16 cls7 C (ltX (krX4_1 (by decide +kernel : kdX 213 = 4)) (by decide)) (krX4_1 (by decide +kernel : kdX 213 = 4)) (obX7 (krX4_1 (by decide +kernel : kdX 213 = 4))) (by decide) (frX7_0 (krX4_1 (by decide +kernel : kdX 213 = 4))) fl4_62 (by decide +kernel) ?_
        refine sm_seg C [(.iload_n 2, 0)] (pc' := 72) (L' := [(3, .int r1), (0, .ref 213), (1, .int a1), (2, .int a2)]) (S' := [.int a2, .ref 16, .int a1, .ref 1]) (by decide +kernel) rfl ?_
        refine sm_vcal [.int a2] [.int a1, .ref 1] rfl C mw_X5_get ml_4_73 rfl (ci := 5) rfl (ltX (krX7_0 (krX4_1 (by decide +kernel : kdX 213 = 4))) (by decide)) (krX7_0 (krX4_1 (by decide +kernel : kdX 213 = 4))) (by decide) ⟨by decide, by decide⟩ (Nat.le_of_ble_eq_true rfl) (by decide +kernel) (c_X5_get F 16 (krX7_0 (krX4_1 (by decide +kernel : kdX 213 = 4))) a2 τ2) (fun r3 τ4 => ?_)
        refine sm_vcal [.int a1, .int r3] [] rfl C mw_X9_saysTo ml_4_77 rfl (ci := 9) rfl (ltX (krX4_0 (by decide +kernel : kdX 213 = 4)) (by decide)) (krX4_0 (by decide +kernel : kdX 213 = 4)) (by decide) ⟨by decide, by decide⟩ (Nat.le_of_ble_eq_true rfl) (by decide +kernel) (c_X9_saysTo F 1 (krX4_0 (by decide +kernel : kdX 213 = 4)) a1 r3 τ4) (fun r5 τ6 => ?_)
        refine sm_seg C [(.iload_n 3, 0)] (pc' := 79) (L' := [(3, .int r1), (0, .ref 213), (1, .int a1), (2, .int a2)]) (S' := [.int r1, .int r5]) (by decide +kernel) rfl ?_
        refine sm_icmpeq 84 (off := 5) C (by decide +kernel) (by decide) (fun _ => ?_) (fun _ => ?_)
        · exact sm_sub [1, 2, 3] rfl (s_X4_isHeardSo_j84 F C hr (X4_isHeardSo_L27 F n) ih a1 a2 τ6)
        · refine sm_seg C [(.iconst 0, 0)] (pc' := 83) (L' := [(3, .int r1), (0, .ref 213), (1, .int a1), (2, .int a2)]) (S' := [.int 0]) (by decide +kernel) rfl ?_
          exact sm_iret C hr rfl (by decide +kernel)
def X4_isHeardSo (F : Nat) (a1 : Int32) (τ : Tau) : Option (Int32 × Tau) :=
  if (τ 16 0) = (τ 18 0) then (X4_isHeardSo_L27 F F a1 0 τ) else (some (0, τ))
set_option maxRecDepth 20000 in
set_option maxHeartbeats 4000000 in
theorem c_X4_isHeardSo (F : Nat) (a1 : Int32) (τ : Tau) (r : Int32) (τ' : Tau) (h : X4_isHeardSo F a1 τ = some (r, τ')) : MCi sysX yX4_isHeardSo cX4_isHeardSo 4 (some .boolean) 3 [.ref 213, .int a1] τ r τ' :=
  mci_of (by decide +kernel) (Nat.le_of_ble_eq_true rfl) (fun K C hr => by
    show Sm K sysX 4 (Qi K sysX) (X4_isHeardSo F a1 τ) 0 [(0, .ref 213), (1, .int a1)] [] τ
    unfold X4_isHeardSo
    refine sm_seg C [(.aload_n 0, 0)] (pc' := 1) (L' := [(0, .ref 213), (1, .int a1)]) (S' := [.ref 213]) (by decide +kernel) rfl ?_
    refine sm_getR 4 1 15 cls4 C (ltX (by decide +kernel : kdX 213 = 4) (by decide)) (by decide +kernel : kdX 213 = 4) (obX4 (by decide +kernel : kdX 213 = 4)) (by decide) (frX4_1 (by decide +kernel : kdX 213 = 4)) fl4_51 (by decide +kernel) ?_
    refine sm_getR 7 0 16 cls7 C (ltX (krX4_1 (by decide +kernel : kdX 213 = 4)) (by decide)) (krX4_1 (by decide +kernel : kdX 213 = 4)) (obX7 (krX4_1 (by decide +kernel : kdX 213 = 4))) (by decide) (frX7_0 (krX4_1 (by decide +kernel : kdX 213 = 4))) fl4_62 (by decide +kernel) ?_
    refine sm_getI 5 0 cls5 C (ltX (krX7_0 (krX4_1 (by decide +kernel : kdX 213 = 4))) (by decide)) (krX7_0 (krX4_1 (by decide +kernel : kdX 213 = 4))) (obX5 (krX7_0 (krX4_1 (by decide +kernel : kdX 213 = 4)))) (by decide) (fiX5_0 (krX7_0 (krX4_1 (by decide +kernel : kdX 213 = 4)))) fl4_68 (by decide +kernel) ?_
    refine sm_seg C [(.aload_n 0, 0)] (pc' := 11) (L' := [(0, .ref 213), (1, .int a1)]) (S' := [.ref 213, .int (τ 16 0)]) (by decide +kernel) rfl ?_
    refine sm_getR 4 1 15 cls4 C (ltX (by decide +kernel : kdX 213 = 4) (by decide)) (by decide +kernel : kdX 213 = 4) (obX4 (by decide +kernel : kdX 213 = 4)) (by decide) (frX4_1 (by decide +kernel : kdX 213 = 4)) fl4_51 (by decide +kernel) ?_
    refine sm_getR 7 1 18 cls7 C (ltX (krX4_1 (by decide +kernel : kdX 213 = 4)) (by decide)) (krX4_1 (by decide +kernel : kdX 213 = 4)) (obX7 (krX4_1 (by decide +kernel : kdX 213 = 4))) (by decide) (frX7_1 (krX4_1 (by decide +kernel : kdX 213 = 4))) fl4_95 (by decide +kernel) ?_
    refine sm_getI 5 0 cls5 C (ltX (krX7_1 (krX4_1 (by decide +kernel : kdX 213 = 4))) (by decide)) (krX7_1 (krX4_1 (by decide +kernel : kdX 213 = 4))) (obX5 (krX7_1 (krX4_1 (by decide +kernel : kdX 213 = 4)))) (by decide) (fiX5_0 (krX7_1 (krX4_1 (by decide +kernel : kdX 213 = 4)))) fl4_68 (by decide +kernel) ?_
    refine sm_icmpeq 25 (off := 5) C (by decide +kernel) (by decide) (fun _ => ?_) (fun _ => ?_)
    · refine sm_seg C [(.iconst 0, 0), (.istore_n 2, 0)] (pc' := 27) (L' := [(2, .int 0), (0, .ref 213), (1, .int a1)]) (S' := []) (by decide +kernel) rfl ?_
      exact sm_sub [1, 2, 0] rfl (s_X4_isHeardSo_L27 F C hr F a1 0 τ)
    · refine sm_seg C [(.iconst 0, 0)] (pc' := 24) (L' := [(0, .ref 213), (1, .int a1)]) (S' := [.int 0]) (by decide +kernel) rfl ?_
      exact sm_iret C hr rfl (by decide +kernel)) h
/-! BasketEnvoys.heard -/
def X10_heard (F : Nat) (a1 : Int32) (a2 : Int32) (τ : Tau) : Option (Int32 × Tau) :=
  cal (X8_hasPower F 2 a1 τ) fun r1 τ2 => if r1 = 0 then (some ((-1), τ2)) else (if a2 = 0 then (cal (X4_rowsHeard F a1 τ2) fun r3 τ4 => some (r3, τ4)) else if a2 = 1 then (cal (X4_isHeardSo F a1 τ2) fun r5 τ6 => if r5 = 0 then (some (0, τ6)) else (some (1, τ6))) else (some ((-1), τ2)))
set_option maxRecDepth 20000 in
set_option maxHeartbeats 4000000 in
theorem c_X10_heard (F : Nat) (a1 : Int32) (a2 : Int32) (τ : Tau) (r : Int32) (τ' : Tau) (h : X10_heard F a1 a2 τ = some (r, τ')) : MCi sysX yX10_heard cX10_heard 3 (some .int) 5 [.ref 0, .int a1, .int a2] τ r τ' :=
  mci_of (by decide +kernel) (Nat.le_of_ble_eq_true rfl) (fun K C hr => by
    show Sm K sysX 3 (Qi K sysX) (X10_heard F a1 a2 τ) 0 [(0, .ref 0), (1, .int a1), (2, .int a2)] [] τ
    unfold X10_heard
    refine sm_seg C [(.aload_n 0, 0)] (pc' := 1) (L' := [(0, .ref 0), (1, .int a1), (2, .int a2)]) (S' := [.ref 0]) (by decide +kernel) rfl ?_
    refine sm_getR 10 0 1 cls10 C (ltX (by decide +kernel : kdX 0 = 10) (by decide)) (by decide +kernel : kdX 0 = 10) (obX10 (by decide +kernel : kdX 0 = 10)) (by decide) (frX10_0 (by decide +kernel : kdX 0 = 10)) fl10_12 (by decide +kernel) ?_
    refine sm_getR 9 0 2 cls9 C (ltX (krX10_0 (by decide +kernel : kdX 0 = 10)) (by decide)) (krX10_0 (by decide +kernel : kdX 0 = 10)) (obX9 (krX10_0 (by decide +kernel : kdX 0 = 10))) (by decide) (frX9_0 (krX10_0 (by decide +kernel : kdX 0 = 10))) fl10_60 (by decide +kernel) ?_
    refine sm_seg C [(.iload_n 1, 0)] (pc' := 8) (L' := [(0, .ref 0), (1, .int a1), (2, .int a2)]) (S' := [.int a1, .ref 2]) (by decide +kernel) rfl ?_
    refine sm_vcal [.int a1] [] rfl C mw_X8_hasPower ml_10_204 rfl (ci := 8) rfl (ltX (krX9_0 (krX10_0 (by decide +kernel : kdX 0 = 10))) (by decide)) (krX9_0 (krX10_0 (by decide +kernel : kdX 0 = 10))) (by decide) ⟨by decide, by decide⟩ (Nat.le_of_ble_eq_true rfl) (by decide +kernel) (c_X8_hasPower F 2 (krX9_0 (krX10_0 (by decide +kernel : kdX 0 = 10))) a1 τ) (fun r1 τ2 => ?_)
    refine sm_ifne 16 (off := 5) C (by decide +kernel) (by decide) (fun _ => ?_) (fun _ => ?_)
    · refine sm_seg C [(.iconst (-1), (-1))] (pc' := 15) (L' := [(0, .ref 0), (1, .int a1), (2, .int a2)]) (S' := [.int (-1)]) (by decide +kernel) rfl ?_
      exact sm_iret C hr rfl (by decide +kernel)
    · refine sm_seg C [(.iload_n 2, 0)] (pc' := 17) (L' := [(0, .ref 0), (1, .int a1), (2, .int a2)]) (S' := [.int a2]) (by decide +kernel) rfl ?_
      have hd17 : decode cX10_heard 17 = .ok (.lookupswitch 53 #[(0, 27), (1, 36)], 27) := by decide +kernel
      refine sm_ite (fun e => ?_) (fun n17_0 => ?_)
      · refine sm_look (off := 27) 44 C hd17 (by decide) (by rw [e]; decide) (by decide) ?_
        refine sm_seg C [(.aload_n 0, 0)] (pc' := 45) (L' := [(0, .ref 0), (1, .int a1), (2, .int a2)]) (S' := [.ref 0]) (by decide +kernel) rfl ?_
        refine sm_getR 10 7 213 cls10 C (ltX (by decide +kernel : kdX 0 = 10) (by decide)) (by decide +kernel : kdX 0 = 10) (obX10 (by decide +kernel : kdX 0 = 10)) (by decide) (frX10_7 (by decide +kernel : kdX 0 = 10)) fl10_56 (by decide +kernel) ?_
        refine sm_seg C [(.iload_n 1, 0)] (pc' := 49) (L' := [(0, .ref 0), (1, .int a1), (2, .int a2)]) (S' := [.int a1, .ref 213]) (by decide +kernel) rfl ?_
        refine sm_vcal [.int a1] [] rfl C mw_X4_rowsHeard ml_10_277 rfl (ci := 4) rfl (ltX (krX10_7 (by decide +kernel : kdX 0 = 10)) (by decide)) (krX10_7 (by decide +kernel : kdX 0 = 10)) (by decide) ⟨by decide, by decide⟩ (Nat.le_of_ble_eq_true rfl) (by decide +kernel) (c_X4_rowsHeard F a1 τ2) (fun r3 τ4 => ?_)
        exact sm_iret C hr rfl (by decide +kernel)
      refine sm_ite (fun e => ?_) (fun n17_1 => ?_)
      · refine sm_look (off := 36) 53 C hd17 (by decide) (by rw [e]; decide) (by decide) ?_
        refine sm_seg C [(.aload_n 0, 0)] (pc' := 54) (L' := [(0, .ref 0), (1, .int a1), (2, .int a2)]) (S' := [.ref 0]) (by decide +kernel) rfl ?_
        refine sm_getR 10 7 213 cls10 C (ltX (by decide +kernel : kdX 0 = 10) (by decide)) (by decide +kernel : kdX 0 = 10) (obX10 (by decide +kernel : kdX 0 = 10)) (by decide) (frX10_7 (by decide +kernel : kdX 0 = 10)) fl10_56 (by decide +kernel) ?_
        refine sm_seg C [(.iload_n 1, 0)] (pc' := 58) (L' := [(0, .ref 0), (1, .int a1), (2, .int a2)]) (S' := [.int a1, .ref 213]) (by decide +kernel) rfl ?_
        refine sm_vcal [.int a1] [] rfl C mw_X4_isHeardSo ml_10_280 rfl (ci := 4) rfl (ltX (krX10_7 (by decide +kernel : kdX 0 = 10)) (by decide)) (krX10_7 (by decide +kernel : kdX 0 = 10)) (by decide) ⟨by decide, by decide⟩ (Nat.le_of_ble_eq_true rfl) (by decide +kernel) (c_X4_isHeardSo F a1 τ2) (fun r5 τ6 => ?_)
        refine sm_ifeq 68 (off := 7) C (by decide +kernel) (by decide) (fun _ => ?_) (fun _ => ?_)
        · refine sm_seg C [(.iconst 0, 0)] (pc' := 69) (L' := [(0, .ref 0), (1, .int a1), (2, .int a2)]) (S' := [.int 0]) (by decide +kernel) rfl ?_
          exact sm_iret C hr rfl (by decide +kernel)
        · refine sm_seg C [(.iconst 1, 1), (.goto 4, 0)] (pc' := 69) (L' := [(0, .ref 0), (1, .int a1), (2, .int a2)]) (S' := [.int 1]) (by decide +kernel) rfl ?_
          exact sm_iret C hr rfl (by decide +kernel)
      refine sm_look (off := 53) 70 C hd17 (by decide) (by show Op.lookupswitch.offset [(0, 27), (1, 36)] 53 _ = _; rw [look_ne (toInt_neZ (z := 0) n17_0 (by decide)), look_ne (toInt_neZ (z := 1) n17_1 (by decide))]; rfl) (by decide) ?_
      refine sm_seg C [(.iconst (-1), (-1))] (pc' := 71) (L' := [(0, .ref 0), (1, .int a1), (2, .int a2)]) (S' := [.int (-1)]) (by decide +kernel) rfl ?_
      exact sm_iret C hr rfl (by decide +kernel)) h
/-! BasketEnvoys.hears -/
def X10_hears_j21 (F : Nat) (a1 : Int32) (z0 : Int32) (τ : Tau) : Option (Int32 × Tau) :=
  cal (X5_tell F 18 a1 z0 τ) fun r1 τ2 => some (r1, τ2)
theorem s_X10_hears_j21 (F : Nat) {K : Ctx} (C : Cx K sysX RX10 cX10_hears 3 3) (hr : Rt K (some .int)) (a1 : Int32) (z0 : Int32) (τ : Tau) : Sm K sysX 3 (Qi K sysX) (X10_hears_j21 F a1 z0 τ) 21 [(0, .ref 0), (1, .int a1)] [.int z0] τ := by
  unfold X10_hears_j21
  refine sm_seg C [(.istore_n 2, 0), (.aload_n 0, 0)] (pc' := 23) (L' := [(2, .int z0), (0, .ref 0), (1, .int a1)]) (S' := [.ref 0]) (by decide +kernel) rfl ?_
  refine sm_getR 10 0 1 cls10 C (ltX (by decide +kernel : kdX 0 = 10) (by decide)) (by decide +kernel : kdX 0 = 10) (obX10 (by decide +kernel : kdX 0 = 10)) (by decide) (frX10_0 (by decide +kernel : kdX 0 = 10)) fl10_12 (by decide +kernel) ?_
  refine sm_getR 9 1 15 cls9 C (ltX (krX10_0 (by decide +kernel : kdX 0 = 10)) (by decide)) (krX10_0 (by decide +kernel : kdX 0 = 10)) (obX9 (krX10_0 (by decide +kernel : kdX 0 = 10))) (by decide) (frX9_1 (krX10_0 (by decide +kernel : kdX 0 = 10))) fl10_243 (by decide +kernel) ?_
  refine sm_getR 7 1 18 cls7 C (ltX (krX9_1 (krX10_0 (by decide +kernel : kdX 0 = 10))) (by decide)) (krX9_1 (krX10_0 (by decide +kernel : kdX 0 = 10))) (obX7 (krX9_1 (krX10_0 (by decide +kernel : kdX 0 = 10)))) (by decide) (frX7_1 (krX9_1 (krX10_0 (by decide +kernel : kdX 0 = 10)))) fl10_274 (by decide +kernel) ?_
  refine sm_seg C [(.iload_n 1, 0), (.iload_n 2, 0)] (pc' := 34) (L' := [(2, .int z0), (0, .ref 0), (1, .int a1)]) (S' := [.int z0, .int a1, .ref 18]) (by decide +kernel) rfl ?_
  refine sm_vcal [.int a1, .int z0] [] rfl C mw_X5_tell ml_10_253 rfl (ci := 5) rfl (ltX (krX7_1 (krX9_1 (krX10_0 (by decide +kernel : kdX 0 = 10)))) (by decide)) (krX7_1 (krX9_1 (krX10_0 (by decide +kernel : kdX 0 = 10)))) (by decide) ⟨by decide, by decide⟩ (Nat.le_of_ble_eq_true rfl) (by decide +kernel) (c_X5_tell F 18 (krX7_1 (krX9_1 (krX10_0 (by decide +kernel : kdX 0 = 10)))) a1 z0 τ) (fun r1 τ2 => ?_)
  exact sm_iret C hr rfl (by decide +kernel)
def X10_hears_j16 (F : Nat) (a1 : Int32) (τ : Tau) : Option (Int32 × Tau) :=
  X10_hears_j21 F a1 1 τ
theorem s_X10_hears_j16 (F : Nat) {K : Ctx} (C : Cx K sysX RX10 cX10_hears 3 3) (hr : Rt K (some .int)) (a1 : Int32) (τ : Tau) : Sm K sysX 3 (Qi K sysX) (X10_hears_j16 F a1 τ) 16 [(0, .ref 0), (1, .int a1)] [] τ := by
  unfold X10_hears_j16
  refine sm_seg C [(.iconst 1, 1), (.goto 4, 0)] (pc' := 21) (L' := [(0, .ref 0), (1, .int a1)]) (S' := [.int 1]) (by decide +kernel) rfl ?_
  exact sm_sub [0, 1] rfl (s_X10_hears_j21 F C hr a1 1 τ)
def X10_hears (F : Nat) (a1 : Int32) (τ : Tau) : Option (Int32 × Tau) :=
  if a1 = (-2) then (X10_hears_j16 F a1 τ) else (cal (X10_within F a1 0 15 τ) fun r3 τ4 => if r3 = 0 then (X10_hears_j21 F a1 0 τ4) else (X10_hears_j16 F a1 τ4))
set_option maxRecDepth 20000 in
set_option maxHeartbeats 4000000 in
theorem c_X10_hears (F : Nat) (a1 : Int32) (τ : Tau) (r : Int32) (τ' : Tau) (h : X10_hears F a1 τ = some (r, τ')) : MCi sysX yX10_hears cX10_hears 3 (some .int) 3 [.ref 0, .int a1] τ r τ' :=
  mci_of (by decide +kernel) (Nat.le_of_ble_eq_true rfl) (fun K C hr => by
    show Sm K sysX 3 (Qi K sysX) (X10_hears F a1 τ) 0 [(0, .ref 0), (1, .int a1)] [] τ
    unfold X10_hears
    refine sm_seg C [(.iload_n 1, 0), (.bipush (-2), (-2))] (pc' := 3) (L' := [(0, .ref 0), (1, .int a1)]) (S' := [.int (-2), .int a1]) (by decide +kernel) rfl ?_
    refine sm_icmpeq 16 (off := 13) C (by decide +kernel) (by decide) (fun _ => ?_) (fun _ => ?_)
    · exact sm_sub [0, 1] rfl (s_X10_hears_j16 F C hr a1 τ)
    · refine sm_seg C [(.iload_n 1, 0), (.iconst 0, 0), (.bipush 15, 15)] (pc' := 10) (L' := [(0, .ref 0), (1, .int a1)]) (S' := [.int 15, .int 0, .int a1]) (by decide +kernel) rfl ?_
      refine sm_scal [.int a1, .int 0, .int 15] [] rfl C mw_X10_within ml_10_70 rfl ⟨by decide, by decide⟩ (Nat.le_of_ble_eq_true rfl) (by decide +kernel) (c_X10_within F a1 0 15 τ) (fun r3 τ4 => ?_)
      refine sm_ifeq 20 (off := 7) C (by decide +kernel) (by decide) (fun _ => ?_) (fun _ => ?_)
      · refine sm_seg C [(.iconst 0, 0)] (pc' := 21) (L' := [(0, .ref 0), (1, .int a1)]) (S' := [.int 0]) (by decide +kernel) rfl ?_
        exact sm_sub [0, 1] rfl (s_X10_hears_j21 F C hr a1 0 τ4)
      · exact sm_sub [0, 1] rfl (s_X10_hears_j16 F C hr a1 τ4)) h
/-! BasketEnvoys_Row.copyFrom -/
def X5_copyFrom (F : Nat) (t0 : Nat) (t1 : Nat) (τ : Tau) : Option (Int32 × Tau) :=
  pst τ t0 0 (τ t1 0) fun τ1 => cal (X10_copy F (t1 + 1) (t0 + 1) τ1) fun r2 τ3 => some (0, τ3)
set_option maxRecDepth 20000 in
set_option maxHeartbeats 4000000 in
theorem c_X5_copyFrom (F : Nat) (t0 : Nat) (t1 : Nat) (h0 : kdX t0 = 5) (h1 : kdX t1 = 5) (τ : Tau) (r : Int32) (τ' : Tau) (h : X5_copyFrom F t0 t1 τ = some (r, τ')) : MCv sysX yX5_copyFrom cX5_copyFrom 2 2 [.ref t0, .ref t1] τ τ' :=
  mcv_of (by decide +kernel) (Nat.le_of_ble_eq_true rfl) (fun K C hr => by
    show Sm K sysX 2 (Qv K sysX) (X5_copyFrom F t0 t1 τ) 0 [(0, .ref t0), (1, .ref t1)] [] τ
    unfold X5_copyFrom
    refine sm_seg C [(.aload_n 0, 0), (.aload_n 1, 0)] (pc' := 2) (L' := [(0, .ref t0), (1, .ref t1)]) (S' := [.ref t1, .ref t0]) (by decide +kernel) rfl ?_
    refine sm_getI 5 0 cls5 C (ltX h1 (by decide)) h1 (obX5 h1) (by decide) (fiX5_0 h1) fl5_9 (by decide +kernel) ?_
    refine sm_pst 5 0 cls5 C (ltX h0 (by decide)) h0 (obX5 h0) (by decide) (fiX5_0 h0) rfl rfl rfl fl5_9 (by decide +kernel) (fun τ1 => ?_)
    refine sm_seg C [(.aload_n 1, 0)] (pc' := 9) (L' := [(0, .ref t0), (1, .ref t1)]) (S' := [.ref t1]) (by decide +kernel) rfl ?_
    refine sm_getR 5 1 (t1 + 1) cls5 C (ltX h1 (by decide)) h1 (obX5 h1) (by decide) (frX5_1 h1) fl5_21 (by decide +kernel) ?_
    refine sm_seg C [(.aload_n 0, 0)] (pc' := 13) (L' := [(0, .ref t0), (1, .ref t1)]) (S' := [.ref t0, .ref (t1 + 1)]) (by decide +kernel) rfl ?_
    refine sm_getR 5 1 (t0 + 1) cls5 C (ltX h0 (by decide)) h0 (obX5 h0) (by decide) (frX5_1 h0) fl5_21 (by decide +kernel) ?_
    refine sm_ncalv "BasketEnvoys" [.ref (t1 + 1), .ref (t0 + 1)] [] rfl C mw_X10_copy ml_5_33 rfl ⟨by decide, by decide⟩ (Nat.le_of_ble_eq_true rfl) (by decide +kernel) (c_X10_copy F (t1 + 1) (t0 + 1) (krX5_1 h1) (krX5_1 h0) τ1) (fun r2 τ3 => ?_)
    exact sm_vret C hr (by decide +kernel)) h
/-! BasketEnvoys_Told.copyFrom -/
def X7_copyFrom (F : Nat) (t0 : Nat) (t1 : Nat) (τ : Tau) : Option (Int32 × Tau) :=
  cal (X5_copyFrom F (t0 + 1) (t1 + 1) τ) fun r1 τ2 => cal (X5_copyFrom F (t0 + 3) (t1 + 3) τ2) fun r3 τ4 => cal (X5_copyFrom F (t0 + 5) (t1 + 5) τ4) fun r5 τ6 => cal (X5_copyFrom F (t0 + 7) (t1 + 7) τ6) fun r7 τ8 => cal (X5_copyFrom F (t0 + 9) (t1 + 9) τ8) fun r9 τ10 => cal (X5_copyFrom F (t0 + 11) (t1 + 11) τ10) fun r11 τ12 => cal (X5_copyFrom F (t0 + 13) (t1 + 13) τ12) fun r13 τ14 => cal (X5_copyFrom F (t0 + 15) (t1 + 15) τ14) fun r15 τ16 => cal (X5_copyFrom F (t0 + 17) (t1 + 17) τ16) fun r17 τ18 => cal (X10_copy F (t1 + 19) (t0 + 19) τ18) fun r19 τ20 => cal (X10_copy F (t1 + 20) (t0 + 20) τ20) fun r21 τ22 => cal (X10_copy F (t1 + 21) (t0 + 21) τ22) fun r23 τ24 => cal (X10_copy F (t1 + 22) (t0 + 22) τ24) fun r25 τ26 => cal (X10_copy F (t1 + 23) (t0 + 23) τ26) fun r27 τ28 => some (0, τ28)
set_option maxRecDepth 20000 in
set_option maxHeartbeats 4000000 in
theorem c_X7_copyFrom (F : Nat) (t0 : Nat) (t1 : Nat) (h0 : kdX t0 = 7) (h1 : kdX t1 = 7) (τ : Tau) (r : Int32) (τ' : Tau) (h : X7_copyFrom F t0 t1 τ = some (r, τ')) : MCv sysX yX7_copyFrom cX7_copyFrom 2 3 [.ref t0, .ref t1] τ τ' :=
  mcv_of (by decide +kernel) (Nat.le_of_ble_eq_true rfl) (fun K C hr => by
    show Sm K sysX 2 (Qv K sysX) (X7_copyFrom F t0 t1 τ) 0 [(0, .ref t0), (1, .ref t1)] [] τ
    unfold X7_copyFrom
    refine sm_seg C [(.aload_n 0, 0)] (pc' := 1) (L' := [(0, .ref t0), (1, .ref t1)]) (S' := [.ref t0]) (by decide +kernel) rfl ?_
    refine sm_getR 7 0 (t0 + 1) cls7 C (ltX h0 (by decide)) h0 (obX7 h0) (by decide) (frX7_0 h0) fl7_14 (by decide +kernel) ?_
    refine sm_seg C [(.aload_n 1, 0)] (pc' := 5) (L' := [(0, .ref t0), (1, .ref t1)]) (S' := [.ref t1, .ref (t0 + 1)]) (by decide +kernel) rfl ?_
    refine sm_getR 7 0 (t1 + 1) cls7 C (ltX h1 (by decide)) h1 (obX7 h1) (by decide) (frX7_0 h1) fl7_14 (by decide +kernel) ?_
    refine sm_vcalv [.ref (t1 + 1)] [] rfl C mw_X5_copyFrom ml_7_60 rfl (ci := 5) rfl (ltX (krX7_0 h0) (by decide)) (krX7_0 h0) (by decide) ⟨by decide, by decide⟩ (Nat.le_of_ble_eq_true rfl) (by decide +kernel) (c_X5_copyFrom F (t0 + 1) (t1 + 1) (krX7_0 h0) (krX7_0 h1) τ) (fun r1 τ2 => ?_)
    refine sm_seg C [(.aload_n 0, 0)] (pc' := 12) (L' := [(0, .ref t0), (1, .ref t1)]) (S' := [.ref t0]) (by decide +kernel) rfl ?_
    refine sm_getR 7 1 (t0 + 3) cls7 C (ltX h0 (by decide)) h0 (obX7 h0) (by decide) (frX7_1 h0) fl7_20 (by decide +kernel) ?_
    refine sm_seg C [(.aload_n 1, 0)] (pc' := 16) (L' := [(0, .ref t0), (1, .ref t1)]) (S' := [.ref t1, .ref (t0 + 3)]) (by decide +kernel) rfl ?_
    refine sm_getR 7 1 (t1 + 3) cls7 C (ltX h1 (by decide)) h1 (obX7 h1) (by decide) (frX7_1 h1) fl7_20 (by decide +kernel) ?_
    refine sm_vcalv [.ref (t1 + 3)] [] rfl C mw_X5_copyFrom ml_7_60 rfl (ci := 5) rfl (ltX (krX7_1 h0) (by decide)) (krX7_1 h0) (by decide) ⟨by decide, by decide⟩ (Nat.le_of_ble_eq_true rfl) (by decide +kernel) (c_X5_copyFrom F (t0 + 3) (t1 + 3) (krX7_1 h0) (krX7_1 h1) τ2) (fun r3 τ4 => ?_)
    refine sm_seg C [(.aload_n 0, 0)] (pc' := 23) (L' := [(0, .ref t0), (1, .ref t1)]) (S' := [.ref t0]) (by decide +kernel) rfl ?_
    refine sm_getR 7 2 (t0 + 5) cls7 C (ltX h0 (by decide)) h0 (obX7 h0) (by decide) (frX7_2 h0) fl7_23 (by decide +kernel) ?_
    refine sm_seg C [(.aload_n 1, 0)] (pc' := 27) (L' := [(0, .ref t0), (1, .ref t1)]) (S' := [.ref t1, .ref (t0 + 5)]) (by decide +kernel) rfl ?_
    refine sm_getR 7 2 (t1 + 5) cls7 C (ltX h1 (by decide)) h1 (obX7 h1) (by decide) (frX7_2 h1) fl7_23 (by decide +kernel) ?_
    refine sm_vcalv [.ref (t1 + 5)] [] rfl C mw_X5_copyFrom ml_7_60 rfl (ci := 5) rfl (ltX (krX7_2 h0) (by decide)) (krX7_2 h0) (by decide) ⟨by decide, by decide⟩ (Nat.le_of_ble_eq_true rfl) (by decide +kernel) (c_X5_copyFrom F (t0 + 5) (t1 + 5) (krX7_2 h0) (krX7_2 h1) τ4) (fun r5 τ6 => ?_)
    refine sm_seg C [(.aload_n 0, 0)] (pc' := 34) (L' := [(0, .ref t0), (1, .ref t1)]) (S' := [.ref t0]) (by decide +kernel) rfl ?_
    refine sm_getR 7 3 (t0 + 7) cls7 C (ltX h0 (by decide)) h0 (obX7 h0) (by decide) (frX7_3 h0) fl7_26 (by decide +kernel) ?_
    refine sm_seg C [(.aload_n 1, 0)] (pc' := 38) (L' := [(0, .ref t0), (1, .ref t1)]) (S' := [.ref t1, .ref (t0 + 7)]) (by decide +kernel) rfl ?_
    refine sm_getR 7 3 (t1 + 7) cls7 C (ltX h1 (by decide)) h1 (obX7 h1) (by decide) (frX7_3 h1) fl7_26 (by decide +kernel) ?_
    refine sm_vcalv [.ref (t1 + 7)] [] rfl C mw_X5_copyFrom ml_7_60 rfl (ci := 5) rfl (ltX (krX7_3 h0) (by decide)) (krX7_3 h0) (by decide) ⟨by decide, by decide⟩ (Nat.le_of_ble_eq_true rfl) (by decide +kernel) (c_X5_copyFrom F (t0 + 7) (t1 + 7) (krX7_3 h0) (krX7_3 h1) τ6) (fun r7 τ8 => ?_)
    refine sm_seg C [(.aload_n 0, 0)] (pc' := 45) (L' := [(0, .ref t0), (1, .ref t1)]) (S' := [.ref t0]) (by decide +kernel) rfl ?_
    refine sm_getR 7 4 (t0 + 9) cls7 C (ltX h0 (by decide)) h0 (obX7 h0) (by decide) (frX7_4 h0) fl7_29 (by decide +kernel) ?_
    refine sm_seg C [(.aload_n 1, 0)] (pc' := 49) (L' := [(0, .ref t0), (1, .ref t1)]) (S' := [.ref t1, .ref (t0 + 9)]) (by decide +kernel) rfl ?_
    refine sm_getR 7 4 (t1 + 9) cls7 C (ltX h1 (by decide)) h1 (obX7 h1) (by decide) (frX7_4 h1) fl7_29 (by decide +kernel) ?_
    refine sm_vcalv [.ref (t1 + 9)] [] rfl C mw_X5_copyFrom ml_7_60 rfl (ci := 5) rfl (ltX (krX7_4 h0) (by decide)) (krX7_4 h0) (by decide) ⟨by decide, by decide⟩ (Nat.le_of_ble_eq_true rfl) (by decide +kernel) (c_X5_copyFrom F (t0 + 9) (t1 + 9) (krX7_4 h0) (krX7_4 h1) τ8) (fun r9 τ10 => ?_)
    refine sm_seg C [(.aload_n 0, 0)] (pc' := 56) (L' := [(0, .ref t0), (1, .ref t1)]) (S' := [.ref t0]) (by decide +kernel) rfl ?_
    refine sm_getR 7 5 (t0 + 11) cls7 C (ltX h0 (by decide)) h0 (obX7 h0) (by decide) (frX7_5 h0) fl7_32 (by decide +kernel) ?_
    refine sm_seg C [(.aload_n 1, 0)] (pc' := 60) (L' := [(0, .ref t0), (1, .ref t1)]) (S' := [.ref t1, .ref (t0 + 11)]) (by decide +kernel) rfl ?_
    refine sm_getR 7 5 (t1 + 11) cls7 C (ltX h1 (by decide)) h1 (obX7 h1) (by decide) (frX7_5 h1) fl7_32 (by decide +kernel) ?_
    refine sm_vcalv [.ref (t1 + 11)] [] rfl C mw_X5_copyFrom ml_7_60 rfl (ci := 5) rfl (ltX (krX7_5 h0) (by decide)) (krX7_5 h0) (by decide) ⟨by decide, by decide⟩ (Nat.le_of_ble_eq_true rfl) (by decide +kernel) (c_X5_copyFrom F (t0 + 11) (t1 + 11) (krX7_5 h0) (krX7_5 h1) τ10) (fun r11 τ12 => ?_)
    refine sm_seg C [(.aload_n 0, 0)] (pc' := 67) (L' := [(0, .ref t0), (1, .ref t1)]) (S' := [.ref t0]) (by decide +kernel) rfl ?_
    refine sm_getR 7 6 (t0 + 13) cls7 C (ltX h0 (by decide)) h0 (obX7 h0) (by decide) (frX7_6 h0) fl7_35 (by decide +kernel) ?_
    refine sm_seg C [(.aload_n 1, 0)] (pc' := 71) (L' := [(0, .ref t0), (1, .ref t1)]) (S' := [.ref t1, .ref (t0 + 13)]) (by decide +kernel) rfl ?_
    refine sm_getR 7 6 (t1 + 13) cls7 C (ltX h1 (by decide)) h1 (obX7 h1) (by decide) (frX7_6 h1) fl7_35 (by decide +kernel) ?_
    refine sm_vcalv [.ref (t1 + 13)] [] rfl C mw_X5_copyFrom ml_7_60 rfl (ci := 5) rfl (ltX (krX7_6 h0) (by decide)) (krX7_6 h0) (by decide) ⟨by decide, by decide⟩ (Nat.le_of_ble_eq_true rfl) (by decide +kernel) (c_X5_copyFrom F (t0 + 13) (t1 + 13) (krX7_6 h0) (krX7_6 h1) τ12) (fun r13 τ14 => ?_)
    refine sm_seg C [(.aload_n 0, 0)] (pc' := 78) (L' := [(0, .ref t0), (1, .ref t1)]) (S' := [.ref t0]) (by decide +kernel) rfl ?_
    refine sm_getR 7 7 (t0 + 15) cls7 C (ltX h0 (by decide)) h0 (obX7 h0) (by decide) (frX7_7 h0) fl7_38 (by decide +kernel) ?_
    refine sm_seg C [(.aload_n 1, 0)] (pc' := 82) (L' := [(0, .ref t0), (1, .ref t1)]) (S' := [.ref t1, .ref (t0 + 15)]) (by decide +kernel) rfl ?_
    refine sm_getR 7 7 (t1 + 15) cls7 C (ltX h1 (by decide)) h1 (obX7 h1) (by decide) (frX7_7 h1) fl7_38 (by decide +kernel) ?_
    refine sm_vcalv [.ref (t1 + 15)] [] rfl C mw_X5_copyFrom ml_7_60 rfl (ci := 5) rfl (ltX (krX7_7 h0) (by decide)) (krX7_7 h0) (by decide) ⟨by decide, by decide⟩ (Nat.le_of_ble_eq_true rfl) (by decide +kernel) (c_X5_copyFrom F (t0 + 15) (t1 + 15) (krX7_7 h0) (krX7_7 h1) τ14) (fun r15 τ16 => ?_)
    refine sm_seg C [(.aload_n 0, 0)] (pc' := 89) (L' := [(0, .ref t0), (1, .ref t1)]) (S' := [.ref t0]) (by decide +kernel) rfl ?_
    refine sm_getR 7 8 (t0 + 17) cls7 C (ltX h0 (by decide)) h0 (obX7 h0) (by decide) (frX7_8 h0) fl7_41 (by decide +kernel) ?_
    refine sm_seg C [(.aload_n 1, 0)] (pc' := 93) (L' := [(0, .ref t0), (1, .ref t1)]) (S' := [.ref t1, .ref (t0 + 17)]) (by decide +kernel) rfl ?_
    refine sm_getR 7 8 (t1 + 17) cls7 C (ltX h1 (by decide)) h1 (obX7 h1) (by decide) (frX7_8 h1) fl7_41 (by decide +kernel) ?_
    refine sm_vcalv [.ref (t1 + 17)] [] rfl C mw_X5_copyFrom ml_7_60 rfl (ci := 5) rfl (ltX (krX7_8 h0) (by decide)) (krX7_8 h0) (by decide) ⟨by decide, by decide⟩ (Nat.le_of_ble_eq_true rfl) (by decide +kernel) (c_X5_copyFrom F (t0 + 17) (t1 + 17) (krX7_8 h0) (krX7_8 h1) τ16) (fun r17 τ18 => ?_)
    refine sm_seg C [(.aload_n 1, 0)] (pc' := 100) (L' := [(0, .ref t0), (1, .ref t1)]) (S' := [.ref t1]) (by decide +kernel) rfl ?_
    refine sm_getR 7 9 (t1 + 19) cls7 C (ltX h1 (by decide)) h1 (obX7 h1) (by decide) (frX7_9 h1) fl7_44 (by decide +kernel) ?_
    refine sm_seg C [(.aload_n 0, 0)] (pc' := 104) (L' := [(0, .ref t0), (1, .ref t1)]) (S' := [.ref t0, .ref (t1 + 19)]) (by decide +kernel) rfl ?_
    refine sm_getR 7 9 (t0 + 19) cls7 C (ltX h0 (by decide)) h0 (obX7 h0) (by decide) (frX7_9 h0) fl7_44 (by decide +kernel) ?_
    refine sm_ncalv "BasketEnvoys" [.ref (t1 + 19), .ref (t0 + 19)] [] rfl C mw_X10_copy ml_7_64 rfl ⟨by decide, by decide⟩ (Nat.le_of_ble_eq_true rfl) (by decide +kernel) (c_X10_copy F (t1 + 19) (t0 + 19) (krX7_9 h1) (krX7_9 h0) τ18) (fun r19 τ20 => ?_)
    refine sm_seg C [(.aload_n 1, 0)] (pc' := 111) (L' := [(0, .ref t0), (1, .ref t1)]) (S' := [.ref t1]) (by decide +kernel) rfl ?_
    refine sm_getR 7 10 (t1 + 20) cls7 C (ltX h1 (by decide)) h1 (obX7 h1) (by decide) (frX7_10 h1) fl7_48 (by decide +kernel) ?_
    refine sm_seg C [(.aload_n 0, 0)] (pc' := 115) (L' := [(0, .ref t0), (1, .ref t1)]) (S' := [.ref t0, .ref (t1 + 20)]) (by decide +kernel) rfl ?_
    refine sm_getR 7 10 (t0 + 20) cls7 C (ltX h0 (by decide)) h0 (obX7 h0) (by decide) (frX7_10 h0) fl7_48 (by decide +kernel) ?_
    refine sm_ncalv "BasketEnvoys" [.ref (t1 + 20), .ref (t0 + 20)] [] rfl C mw_X10_copy ml_7_64 rfl ⟨by decide, by decide⟩ (Nat.le_of_ble_eq_true rfl) (by decide +kernel) (c_X10_copy F (t1 + 20) (t0 + 20) (krX7_10 h1) (krX7_10 h0) τ20) (fun r21 τ22 => ?_)
    refine sm_seg C [(.aload_n 1, 0)] (pc' := 122) (L' := [(0, .ref t0), (1, .ref t1)]) (S' := [.ref t1]) (by decide +kernel) rfl ?_
    refine sm_getR 7 11 (t1 + 21) cls7 C (ltX h1 (by decide)) h1 (obX7 h1) (by decide) (frX7_11 h1) fl7_51 (by decide +kernel) ?_
    refine sm_seg C [(.aload_n 0, 0)] (pc' := 126) (L' := [(0, .ref t0), (1, .ref t1)]) (S' := [.ref t0, .ref (t1 + 21)]) (by decide +kernel) rfl ?_
    refine sm_getR 7 11 (t0 + 21) cls7 C (ltX h0 (by decide)) h0 (obX7 h0) (by decide) (frX7_11 h0) fl7_51 (by decide +kernel) ?_
    refine sm_ncalv "BasketEnvoys" [.ref (t1 + 21), .ref (t0 + 21)] [] rfl C mw_X10_copy ml_7_64 rfl ⟨by decide, by decide⟩ (Nat.le_of_ble_eq_true rfl) (by decide +kernel) (c_X10_copy F (t1 + 21) (t0 + 21) (krX7_11 h1) (krX7_11 h0) τ22) (fun r23 τ24 => ?_)
    refine sm_seg C [(.aload_n 1, 0)] (pc' := 133) (L' := [(0, .ref t0), (1, .ref t1)]) (S' := [.ref t1]) (by decide +kernel) rfl ?_
    refine sm_getR 7 12 (t1 + 22) cls7 C (ltX h1 (by decide)) h1 (obX7 h1) (by decide) (frX7_12 h1) fl7_54 (by decide +kernel) ?_
    refine sm_seg C [(.aload_n 0, 0)] (pc' := 137) (L' := [(0, .ref t0), (1, .ref t1)]) (S' := [.ref t0, .ref (t1 + 22)]) (by decide +kernel) rfl ?_
    refine sm_getR 7 12 (t0 + 22) cls7 C (ltX h0 (by decide)) h0 (obX7 h0) (by decide) (frX7_12 h0) fl7_54 (by decide +kernel) ?_
    refine sm_ncalv "BasketEnvoys" [.ref (t1 + 22), .ref (t0 + 22)] [] rfl C mw_X10_copy ml_7_64 rfl ⟨by decide, by decide⟩ (Nat.le_of_ble_eq_true rfl) (by decide +kernel) (c_X10_copy F (t1 + 22) (t0 + 22) (krX7_12 h1) (krX7_12 h0) τ24) (fun r25 τ26 => ?_)
    refine sm_seg C [(.aload_n 1, 0)] (pc' := 144) (L' := [(0, .ref t0), (1, .ref t1)]) (S' := [.ref t1]) (by decide +kernel) rfl ?_
    refine sm_getR 7 13 (t1 + 23) cls7 C (ltX h1 (by decide)) h1 (obX7 h1) (by decide) (frX7_13 h1) fl7_57 (by decide +kernel) ?_
    refine sm_seg C [(.aload_n 0, 0)] (pc' := 148) (L' := [(0, .ref t0), (1, .ref t1)]) (S' := [.ref t0, .ref (t1 + 23)]) (by decide +kernel) rfl ?_
    refine sm_getR 7 13 (t0 + 23) cls7 C (ltX h0 (by decide)) h0 (obX7 h0) (by decide) (frX7_13 h0) fl7_57 (by decide +kernel) ?_
    refine sm_ncalv "BasketEnvoys" [.ref (t1 + 23), .ref (t0 + 23)] [] rfl C mw_X10_copy ml_7_64 rfl ⟨by decide, by decide⟩ (Nat.le_of_ble_eq_true rfl) (by decide +kernel) (c_X10_copy F (t1 + 23) (t0 + 23) (krX7_13 h1) (krX7_13 h0) τ26) (fun r27 τ28 => ?_)
    exact sm_vret C hr (by decide +kernel)) h
/-! BasketEnvoys_Law.copyFrom -/
def X2_copyFrom (F : Nat) (t0 : Nat) (t1 : Nat) (τ : Tau) : Option (Int32 × Tau) :=
  pst τ t0 0 (τ t1 0) fun τ1 => pst τ1 t0 1 (τ1 t1 1) fun τ2 => cal (X10_copy F (t1 + 1) (t0 + 1) τ2) fun r3 τ4 => cal (X10_copy F (t1 + 2) (t0 + 2) τ4) fun r5 τ6 => cal (X10_copy F (t1 + 3) (t0 + 3) τ6) fun r7 τ8 => cal (X10_copy F (t1 + 4) (t0 + 4) τ8) fun r9 τ10 => cal (X10_copy F (t1 + 5) (t0 + 5) τ10) fun r11 τ12 => some (0, τ12)
set_option maxRecDepth 20000 in
set_option maxHeartbeats 4000000 in
theorem c_X2_copyFrom (F : Nat) (t0 : Nat) (t1 : Nat) (h0 : kdX t0 = 2) (h1 : kdX t1 = 2) (τ : Tau) (r : Int32) (τ' : Tau) (h : X2_copyFrom F t0 t1 τ = some (r, τ')) : MCv sysX yX2_copyFrom cX2_copyFrom 2 2 [.ref t0, .ref t1] τ τ' :=
  mcv_of (by decide +kernel) (Nat.le_of_ble_eq_true rfl) (fun K C hr => by
    show Sm K sysX 2 (Qv K sysX) (X2_copyFrom F t0 t1 τ) 0 [(0, .ref t0), (1, .ref t1)] [] τ
    unfold X2_copyFrom
    refine sm_seg C [(.aload_n 0, 0), (.aload_n 1, 0)] (pc' := 2) (L' := [(0, .ref t0), (1, .ref t1)]) (S' := [.ref t1, .ref t0]) (by decide +kernel) rfl ?_
    refine sm_getI 2 0 cls2 C (ltX h1 (by decide)) h1 (obX2 h1) (by decide) (fiX2_0 h1) fl2_9 (by decide +kernel) ?_
    refine sm_pst 2 0 cls2 C (ltX h0 (by decide)) h0 (obX2 h0) (by decide) (fiX2_0 h0) rfl rfl rfl fl2_9 (by decide +kernel) (fun τ1 => ?_)
    refine sm_seg C [(.aload_n 0, 0), (.aload_n 1, 0)] (pc' := 10) (L' := [(0, .ref t0), (1, .ref t1)]) (S' := [.ref t1, .ref t0]) (by decide +kernel) rfl ?_
    refine sm_getI 2 1 cls2 C (ltX h1 (by decide)) h1 (obX2 h1) (by decide) (fiX2_1 h1) fl2_15 (by decide +kernel) ?_
    refine sm_pst 2 1 cls2 C (ltX h0 (by decide)) h0 (obX2 h0) (by decide) (fiX2_1 h0) rfl rfl rfl fl2_15 (by decide +kernel) (fun τ2 => ?_)
    refine sm_seg C [(.aload_n 1, 0)] (pc' := 17) (L' := [(0, .ref t0), (1, .ref t1)]) (S' := [.ref t1]) (by decide +kernel) rfl ?_
    refine sm_getR 2 2 (t1 + 1) cls2 C (ltX h1 (by decide)) h1 (obX2 h1) (by decide) (frX2_2 h1) fl2_18 (by decide +kernel) ?_
    refine sm_seg C [(.aload_n 0, 0)] (pc' := 21) (L' := [(0, .ref t0), (1, .ref t1)]) (S' := [.ref t0, .ref (t1 + 1)]) (by decide +kernel) rfl ?_
    refine sm_getR 2 2 (t0 + 1) cls2 C (ltX h0 (by decide)) h0 (obX2 h0) (by decide) (frX2_2 h0) fl2_18 (by decide +kernel) ?_
    refine sm_ncalv "BasketEnvoys" [.ref (t1 + 1), .ref (t0 + 1)] [] rfl C mw_X10_copy ml_2_37 rfl ⟨by decide, by decide⟩ (Nat.le_of_ble_eq_true rfl) (by decide +kernel) (c_X10_copy F (t1 + 1) (t0 + 1) (krX2_2 h1) (krX2_2 h0) τ2) (fun r3 τ4 => ?_)
    refine sm_seg C [(.aload_n 1, 0)] (pc' := 28) (L' := [(0, .ref t0), (1, .ref t1)]) (S' := [.ref t1]) (by decide +kernel) rfl ?_
    refine sm_getR 2 3 (t1 + 2) cls2 C (ltX h1 (by decide)) h1 (obX2 h1) (by decide) (frX2_3 h1) fl2_22 (by decide +kernel) ?_
    refine sm_seg C [(.aload_n 0, 0)] (pc' := 32) (L' := [(0, .ref t0), (1, .ref t1)]) (S' := [.ref t0, .ref (t1 + 2)]) (by decide +kernel) rfl ?_
    refine sm_getR 2 3 (t0 + 2) cls2 C (ltX h0 (by decide)) h0 (obX2 h0) (by decide) (frX2_3 h0) fl2_22 (by decide +kernel) ?_
    refine sm_ncalv "BasketEnvoys" [.ref (t1 + 2), .ref (t0 + 2)] [] rfl C mw_X10_copy ml_2_37 rfl ⟨by decide, by decide⟩ (Nat.le_of_ble_eq_true rfl) (by decide +kernel) (c_X10_copy F (t1 + 2) (t0 + 2) (krX2_3 h1) (krX2_3 h0) τ4) (fun r5 τ6 => ?_)
    refine sm_seg C [(.aload_n 1, 0)] (pc' := 39) (L' := [(0, .ref t0), (1, .ref t1)]) (S' := [.ref t1]) (by decide +kernel) rfl ?_
    refine sm_getR 2 4 (t1 + 3) cls2 C (ltX h1 (by decide)) h1 (obX2 h1) (by decide) (frX2_4 h1) fl2_25 (by decide +kernel) ?_
    refine sm_seg C [(.aload_n 0, 0)] (pc' := 43) (L' := [(0, .ref t0), (1, .ref t1)]) (S' := [.ref t0, .ref (t1 + 3)]) (by decide +kernel) rfl ?_
    refine sm_getR 2 4 (t0 + 3) cls2 C (ltX h0 (by decide)) h0 (obX2 h0) (by decide) (frX2_4 h0) fl2_25 (by decide +kernel) ?_
    refine sm_ncalv "BasketEnvoys" [.ref (t1 + 3), .ref (t0 + 3)] [] rfl C mw_X10_copy ml_2_37 rfl ⟨by decide, by decide⟩ (Nat.le_of_ble_eq_true rfl) (by decide +kernel) (c_X10_copy F (t1 + 3) (t0 + 3) (krX2_4 h1) (krX2_4 h0) τ6) (fun r7 τ8 => ?_)
    refine sm_seg C [(.aload_n 1, 0)] (pc' := 50) (L' := [(0, .ref t0), (1, .ref t1)]) (S' := [.ref t1]) (by decide +kernel) rfl ?_
    refine sm_getR 2 5 (t1 + 4) cls2 C (ltX h1 (by decide)) h1 (obX2 h1) (by decide) (frX2_5 h1) fl2_28 (by decide +kernel) ?_
    refine sm_seg C [(.aload_n 0, 0)] (pc' := 54) (L' := [(0, .ref t0), (1, .ref t1)]) (S' := [.ref t0, .ref (t1 + 4)]) (by decide +kernel) rfl ?_
    refine sm_getR 2 5 (t0 + 4) cls2 C (ltX h0 (by decide)) h0 (obX2 h0) (by decide) (frX2_5 h0) fl2_28 (by decide +kernel) ?_
    refine sm_ncalv "BasketEnvoys" [.ref (t1 + 4), .ref (t0 + 4)] [] rfl C mw_X10_copy ml_2_37 rfl ⟨by decide, by decide⟩ (Nat.le_of_ble_eq_true rfl) (by decide +kernel) (c_X10_copy F (t1 + 4) (t0 + 4) (krX2_5 h1) (krX2_5 h0) τ8) (fun r9 τ10 => ?_)
    refine sm_seg C [(.aload_n 1, 0)] (pc' := 61) (L' := [(0, .ref t0), (1, .ref t1)]) (S' := [.ref t1]) (by decide +kernel) rfl ?_
    refine sm_getR 2 6 (t1 + 5) cls2 C (ltX h1 (by decide)) h1 (obX2 h1) (by decide) (frX2_6 h1) fl2_31 (by decide +kernel) ?_
    refine sm_seg C [(.aload_n 0, 0)] (pc' := 65) (L' := [(0, .ref t0), (1, .ref t1)]) (S' := [.ref t0, .ref (t1 + 5)]) (by decide +kernel) rfl ?_
    refine sm_getR 2 6 (t0 + 5) cls2 C (ltX h0 (by decide)) h0 (obX2 h0) (by decide) (frX2_6 h0) fl2_31 (by decide +kernel) ?_
    refine sm_ncalv "BasketEnvoys" [.ref (t1 + 5), .ref (t0 + 5)] [] rfl C mw_X10_copy ml_2_37 rfl ⟨by decide, by decide⟩ (Nat.le_of_ble_eq_true rfl) (by decide +kernel) (c_X10_copy F (t1 + 5) (t0 + 5) (krX2_6 h1) (krX2_6 h0) τ10) (fun r11 τ12 => ?_)
    exact sm_vret C hr (by decide +kernel)) h
/-! BasketEnvoys_World.copyFrom -/
def X9_copyFrom (F : Nat) (t0 : Nat) (t1 : Nat) (τ : Tau) : Option (Int32 × Tau) :=
  cal (X8_copyFrom F (t0 + 1) (t1 + 1) τ) fun r1 τ2 => cal (X7_copyFrom F (t0 + 14) (t1 + 14) τ2) fun r3 τ4 => cal (X2_copyFrom F (t0 + 38) (t1 + 38) τ4) fun r5 τ6 => cal (X10_copy F (t1 + 45) (t0 + 45) τ6) fun r7 τ8 => cal (X10_copy F (t1 + 46) (t0 + 46) τ8) fun r9 τ10 => cal (X10_copy F (t1 + 47) (t0 + 47) τ10) fun r11 τ12 => cal (X10_copy F (t1 + 48) (t0 + 48) τ12) fun r13 τ14 => cal (X10_copy F (t1 + 49) (t0 + 49) τ14) fun r15 τ16 => cal (X10_copy F (t1 + 50) (t0 + 50) τ16) fun r17 τ18 => some (0, τ18)
set_option maxRecDepth 20000 in
set_option maxHeartbeats 4000000 in
theorem c_X9_copyFrom (F : Nat) (t0 : Nat) (t1 : Nat) (h0 : kdX t0 = 9) (h1 : kdX t1 = 9) (τ : Tau) (r : Int32) (τ' : Tau) (h : X9_copyFrom F t0 t1 τ = some (r, τ')) : MCv sysX yX9_copyFrom cX9_copyFrom 2 4 [.ref t0, .ref t1] τ τ' :=
  mcv_of (by decide +kernel) (Nat.le_of_ble_eq_true rfl) (fun K C hr => by
    show Sm K sysX 2 (Qv K sysX) (X9_copyFrom F t0 t1 τ) 0 [(0, .ref t0), (1, .ref t1)] [] τ
    unfold X9_copyFrom
    refine sm_seg C [(.aload_n 0, 0)] (pc' := 1) (L' := [(0, .ref t0), (1, .ref t1)]) (S' := [.ref t0]) (by decide +kernel) rfl ?_
    refine sm_getR 9 0 (t0 + 1) cls9 C (ltX h0 (by decide)) h0 (obX9 h0) (by decide) (frX9_0 h0) fl9_12 (by decide +kernel) ?_
    refine sm_seg C [(.aload_n 1, 0)] (pc' := 5) (L' := [(0, .ref t0), (1, .ref t1)]) (S' := [.ref t1, .ref (t0 + 1)]) (by decide +kernel) rfl ?_
    refine sm_getR 9 0 (t1 + 1) cls9 C (ltX h1 (by decide)) h1 (obX9 h1) (by decide) (frX9_0 h1) fl9_12 (by decide +kernel) ?_
    refine sm_vcalv [.ref (t1 + 1)] [] rfl C mw_X8_copyFrom ml_9_54 rfl (ci := 8) rfl (ltX (krX9_0 h0) (by decide)) (krX9_0 h0) (by decide) ⟨by decide, by decide⟩ (Nat.le_of_ble_eq_true rfl) (by decide +kernel) (c_X8_copyFrom F (t0 + 1) (t1 + 1) (krX9_0 h0) (krX9_0 h1) τ) (fun r1 τ2 => ?_)
    refine sm_seg C [(.aload_n 0, 0)] (pc' := 12) (L' := [(0, .ref t0), (1, .ref t1)]) (S' := [.ref t0]) (by decide +kernel) rfl ?_
    refine sm_getR 9 1 (t0 + 14) cls9 C (ltX h0 (by decide)) h0 (obX9 h0) (by decide) (frX9_1 h0) fl9_21 (by decide +kernel) ?_
    refine sm_seg C [(.aload_n 1, 0)] (pc' := 16) (L' := [(0, .ref t0), (1, .ref t1)]) (S' := [.ref t1, .ref (t0 + 14)]) (by decide +kernel) rfl ?_
    refine sm_getR 9 1 (t1 + 14) cls9 C (ltX h1 (by decide)) h1 (obX9 h1) (by decide) (frX9_1 h1) fl9_21 (by decide +kernel) ?_
    refine sm_vcalv [.ref (t1 + 14)] [] rfl C mw_X7_copyFrom ml_9_58 rfl (ci := 7) rfl (ltX (krX9_1 h0) (by decide)) (krX9_1 h0) (by decide) ⟨by decide, by decide⟩ (Nat.le_of_ble_eq_true rfl) (by decide +kernel) (c_X7_copyFrom F (t0 + 14) (t1 + 14) (krX9_1 h0) (krX9_1 h1) τ2) (fun r3 τ4 => ?_)
    refine sm_seg C [(.aload_n 0, 0)] (pc' := 23) (L' := [(0, .ref t0), (1, .ref t1)]) (S' := [.ref t0]) (by decide +kernel) rfl ?_
    refine sm_getR 9 2 (t0 + 38) cls9 C (ltX h0 (by decide)) h0 (obX9 h0) (by decide) (frX9_2 h0) fl9_28 (by decide +kernel) ?_
    refine sm_seg C [(.aload_n 1, 0)] (pc' := 27) (L' := [(0, .ref t0), (1, .ref t1)]) (S' := [.ref t1, .ref (t0 + 38)]) (by decide +kernel) rfl ?_
    refine sm_getR 9 2 (t1 + 38) cls9 C (ltX h1 (by decide)) h1 (obX9 h1) (by decide) (frX9_2 h1) fl9_28 (by decide +kernel) ?_
    refine sm_vcalv [.ref (t1 + 38)] [] rfl C mw_X2_copyFrom ml_9_61 rfl (ci := 2) rfl (ltX (krX9_2 h0) (by decide)) (krX9_2 h0) (by decide) ⟨by decide, by decide⟩ (Nat.le_of_ble_eq_true rfl) (by decide +kernel) (c_X2_copyFrom F (t0 + 38) (t1 + 38) (krX9_2 h0) (krX9_2 h1) τ4) (fun r5 τ6 => ?_)
    refine sm_seg C [(.aload_n 1, 0)] (pc' := 34) (L' := [(0, .ref t0), (1, .ref t1)]) (S' := [.ref t1]) (by decide +kernel) rfl ?_
    refine sm_getR 9 3 (t1 + 45) cls9 C (ltX h1 (by decide)) h1 (obX9 h1) (by decide) (frX9_3 h1) fl9_32 (by decide +kernel) ?_
    refine sm_seg C [(.aload_n 0, 0)] (pc' := 38) (L' := [(0, .ref t0), (1, .ref t1)]) (S' := [.ref t0, .ref (t1 + 45)]) (by decide +kernel) rfl ?_
    refine sm_getR 9 3 (t0 + 45) cls9 C (ltX h0 (by decide)) h0 (obX9 h0) (by decide) (frX9_3 h0) fl9_32 (by decide +kernel) ?_
    refine sm_ncalv "BasketEnvoys" [.ref (t1 + 45), .ref (t0 + 45)] [] rfl C mw_X10_copy ml_9_64 rfl ⟨by decide, by decide⟩ (Nat.le_of_ble_eq_true rfl) (by decide +kernel) (c_X10_copy F (t1 + 45) (t0 + 45) (krX9_3 h1) (krX9_3 h0) τ6) (fun r7 τ8 => ?_)
    refine sm_seg C [(.aload_n 1, 0)] (pc' := 45) (L' := [(0, .ref t0), (1, .ref t1)]) (S' := [.ref t1]) (by decide +kernel) rfl ?_
    refine sm_getR 9 4 (t1 + 46) cls9 C (ltX h1 (by decide)) h1 (obX9 h1) (by decide) (frX9_4 h1) fl9_36 (by decide +kernel) ?_
    refine sm_seg C [(.aload_n 0, 0)] (pc' := 49) (L' := [(0, .ref t0), (1, .ref t1)]) (S' := [.ref t0, .ref (t1 + 46)]) (by decide +kernel) rfl ?_
    refine sm_getR 9 4 (t0 + 46) cls9 C (ltX h0 (by decide)) h0 (obX9 h0) (by decide) (frX9_4 h0) fl9_36 (by decide +kernel) ?_
    refine sm_ncalv "BasketEnvoys" [.ref (t1 + 46), .ref (t0 + 46)] [] rfl C mw_X10_copy ml_9_64 rfl ⟨by decide, by decide⟩ (Nat.le_of_ble_eq_true rfl) (by decide +kernel) (c_X10_copy F (t1 + 46) (t0 + 46) (krX9_4 h1) (krX9_4 h0) τ8) (fun r9 τ10 => ?_)
    refine sm_seg C [(.aload_n 1, 0)] (pc' := 56) (L' := [(0, .ref t0), (1, .ref t1)]) (S' := [.ref t1]) (by decide +kernel) rfl ?_
    refine sm_getR 9 5 (t1 + 47) cls9 C (ltX h1 (by decide)) h1 (obX9 h1) (by decide) (frX9_5 h1) fl9_39 (by decide +kernel) ?_
    refine sm_seg C [(.aload_n 0, 0)] (pc' := 60) (L' := [(0, .ref t0), (1, .ref t1)]) (S' := [.ref t0, .ref (t1 + 47)]) (by decide +kernel) rfl ?_
    refine sm_getR 9 5 (t0 + 47) cls9 C (ltX h0 (by decide)) h0 (obX9 h0) (by decide) (frX9_5 h0) fl9_39 (by decide +kernel) ?_
    refine sm_ncalv "BasketEnvoys" [.ref (t1 + 47), .ref (t0 + 47)] [] rfl C mw_X10_copy ml_9_64 rfl ⟨by decide, by decide⟩ (Nat.le_of_ble_eq_true rfl) (by decide +kernel) (c_X10_copy F (t1 + 47) (t0 + 47) (krX9_5 h1) (krX9_5 h0) τ10) (fun r11 τ12 => ?_)
    refine sm_seg C [(.aload_n 1, 0)] (pc' := 67) (L' := [(0, .ref t0), (1, .ref t1)]) (S' := [.ref t1]) (by decide +kernel) rfl ?_
    refine sm_getR 9 6 (t1 + 48) cls9 C (ltX h1 (by decide)) h1 (obX9 h1) (by decide) (frX9_6 h1) fl9_42 (by decide +kernel) ?_
    refine sm_seg C [(.aload_n 0, 0)] (pc' := 71) (L' := [(0, .ref t0), (1, .ref t1)]) (S' := [.ref t0, .ref (t1 + 48)]) (by decide +kernel) rfl ?_
    refine sm_getR 9 6 (t0 + 48) cls9 C (ltX h0 (by decide)) h0 (obX9 h0) (by decide) (frX9_6 h0) fl9_42 (by decide +kernel) ?_
    refine sm_ncalv "BasketEnvoys" [.ref (t1 + 48), .ref (t0 + 48)] [] rfl C mw_X10_copy ml_9_64 rfl ⟨by decide, by decide⟩ (Nat.le_of_ble_eq_true rfl) (by decide +kernel) (c_X10_copy F (t1 + 48) (t0 + 48) (krX9_6 h1) (krX9_6 h0) τ12) (fun r13 τ14 => ?_)
    refine sm_seg C [(.aload_n 1, 0)] (pc' := 78) (L' := [(0, .ref t0), (1, .ref t1)]) (S' := [.ref t1]) (by decide +kernel) rfl ?_
    refine sm_getR 9 7 (t1 + 49) cls9 C (ltX h1 (by decide)) h1 (obX9 h1) (by decide) (frX9_7 h1) fl9_45 (by decide +kernel) ?_
    refine sm_seg C [(.aload_n 0, 0)] (pc' := 82) (L' := [(0, .ref t0), (1, .ref t1)]) (S' := [.ref t0, .ref (t1 + 49)]) (by decide +kernel) rfl ?_
    refine sm_getR 9 7 (t0 + 49) cls9 C (ltX h0 (by decide)) h0 (obX9 h0) (by decide) (frX9_7 h0) fl9_45 (by decide +kernel) ?_
    refine sm_ncalv "BasketEnvoys" [.ref (t1 + 49), .ref (t0 + 49)] [] rfl C mw_X10_copy ml_9_64 rfl ⟨by decide, by decide⟩ (Nat.le_of_ble_eq_true rfl) (by decide +kernel) (c_X10_copy F (t1 + 49) (t0 + 49) (krX9_7 h1) (krX9_7 h0) τ14) (fun r15 τ16 => ?_)
    refine sm_seg C [(.aload_n 1, 0)] (pc' := 89) (L' := [(0, .ref t0), (1, .ref t1)]) (S' := [.ref t1]) (by decide +kernel) rfl ?_
    refine sm_getR 9 8 (t1 + 50) cls9 C (ltX h1 (by decide)) h1 (obX9 h1) (by decide) (frX9_8 h1) fl9_48 (by decide +kernel) ?_
    refine sm_seg C [(.aload_n 0, 0)] (pc' := 93) (L' := [(0, .ref t0), (1, .ref t1)]) (S' := [.ref t0, .ref (t1 + 50)]) (by decide +kernel) rfl ?_
    refine sm_getR 9 8 (t0 + 50) cls9 C (ltX h0 (by decide)) h0 (obX9 h0) (by decide) (frX9_8 h0) fl9_48 (by decide +kernel) ?_
    refine sm_ncalv "BasketEnvoys" [.ref (t1 + 50), .ref (t0 + 50)] [] rfl C mw_X10_copy ml_9_64 rfl ⟨by decide, by decide⟩ (Nat.le_of_ble_eq_true rfl) (by decide +kernel) (c_X10_copy F (t1 + 50) (t0 + 50) (krX9_8 h1) (krX9_8 h0) τ16) (fun r17 τ18 => ?_)
    exact sm_vret C hr (by decide +kernel)) h
/-! BasketEnvoys_History.forget -/
def X1_forget (F : Nat) (τ : Tau) : Option (Int32 × Tau) :=
  pst τ 116 0 0 fun τ1 => some (0, τ1)
set_option maxRecDepth 20000 in
set_option maxHeartbeats 4000000 in
theorem c_X1_forget (F : Nat) (τ : Tau) (r : Int32) (τ' : Tau) (h : X1_forget F τ = some (r, τ')) : MCv sysX yX1_forget cX1_forget 1 1 [.ref 116] τ τ' :=
  mcv_of (by decide +kernel) (Nat.le_of_ble_eq_true rfl) (fun K C hr => by
    show Sm K sysX 1 (Qv K sysX) (X1_forget F τ) 0 [(0, .ref 116)] [] τ
    unfold X1_forget
    refine sm_seg C [(.aload_n 0, 0), (.iconst 0, 0)] (pc' := 2) (L' := [(0, .ref 116)]) (S' := [.int 0, .ref 116]) (by decide +kernel) rfl ?_
    refine sm_pst 1 0 cls1 C (ltX (by decide +kernel : kdX 116 = 1) (by decide)) (by decide +kernel : kdX 116 = 1) (obX1 (by decide +kernel : kdX 116 = 1)) (by decide) (fiX1_0 (by decide +kernel : kdX 116 = 1)) rfl rfl rfl fl1_9 (by decide +kernel) (fun τ1 => ?_)
    exact sm_vret C hr (by decide +kernel)) h
/-! BasketEnvoys.image -/
def X10_image (F : Nat) (a1 : Int32) (τ : Tau) : Option (Int32 × Tau) :=
  if a1 = 0 then (if (τ 0 2) = 0 then (some (0, τ)) else (cal (X9_copyFrom F 1 52 τ) fun r1 τ2 => cal (X1_forget F τ2) fun r3 τ4 => some (1, τ4))) else (cal (X9_copyFrom F 52 1 τ) fun r5 τ6 => pst τ6 0 2 1 fun τ7 => some (1, τ7))
set_option maxRecDepth 20000 in
set_option maxHeartbeats 4000000 in
theorem c_X10_image (F : Nat) (a1 : Int32) (τ : Tau) (r : Int32) (τ' : Tau) (h : X10_image F a1 τ = some (r, τ')) : MCi sysX yX10_image cX10_image 2 (some .boolean) 5 [.ref 0, .int a1] τ r τ' :=
  mci_of (by decide +kernel) (Nat.le_of_ble_eq_true rfl) (fun K C hr => by
    show Sm K sysX 2 (Qi K sysX) (X10_image F a1 τ) 0 [(0, .ref 0), (1, .int a1)] [] τ
    unfold X10_image
    refine sm_seg C [(.iload_n 1, 0)] (pc' := 1) (L' := [(0, .ref 0), (1, .int a1)]) (S' := [.int a1]) (by decide +kernel) rfl ?_
    refine sm_ifeq 22 (off := 21) C (by decide +kernel) (by decide) (fun _ => ?_) (fun _ => ?_)
    · refine sm_seg C [(.aload_n 0, 0)] (pc' := 23) (L' := [(0, .ref 0), (1, .int a1)]) (S' := [.ref 0]) (by decide +kernel) rfl ?_
      refine sm_getI 10 2 cls10 C (ltX (by decide +kernel : kdX 0 = 10) (by decide)) (by decide +kernel : kdX 0 = 10) (obX10 (by decide +kernel : kdX 0 = 10)) (by decide) (fiX10_2 (by decide +kernel : kdX 0 = 10)) fl10_19 (by decide +kernel) ?_
      refine sm_ifne 31 (off := 5) C (by decide +kernel) (by decide) (fun _ => ?_) (fun _ => ?_)
      · refine sm_seg C [(.iconst 0, 0)] (pc' := 30) (L' := [(0, .ref 0), (1, .int a1)]) (S' := [.int 0]) (by decide +kernel) rfl ?_
        exact sm_iret C hr rfl (by decide +kernel)
      · refine sm_seg C [(.aload_n 0, 0)] (pc' := 32) (L' := [(0, .ref 0), (1, .int a1)]) (S' := [.ref 0]) (by decide +kernel) rfl ?_
        refine sm_getR 10 0 1 cls10 C (ltX (by decide +kernel : kdX 0 = 10) (by decide)) (by decide +kernel : kdX 0 = 10) (obX10 (by decide +kernel : kdX 0 = 10)) (by decide) (frX10_0 (by decide +kernel : kdX 0 = 10)) fl10_12 (by decide +kernel) ?_
        refine sm_seg C [(.aload_n 0, 0)] (pc' := 36) (L' := [(0, .ref 0), (1, .int a1)]) (S' := [.ref 0, .ref 1]) (by decide +kernel) rfl ?_
        refine sm_getR 10 1 52 cls10 C (ltX (by decide +kernel : kdX 0 = 10) (by decide)) (by decide +kernel : kdX 0 = 10) (obX10 (by decide +kernel : kdX 0 = 10)) (by decide) (frX10_1 (by decide +kernel : kdX 0 = 10)) fl10_16 (by decide +kernel) ?_
        refine sm_vcalv [.ref 52] [] rfl C mw_X9_copyFrom ml_10_407 rfl (ci := 9) rfl (ltX (krX10_0 (by decide +kernel : kdX 0 = 10)) (by decide)) (krX10_0 (by decide +kernel : kdX 0 = 10)) (by decide) ⟨by decide, by decide⟩ (Nat.le_of_ble_eq_true rfl) (by decide +kernel) (c_X9_copyFrom F 1 52 (krX10_0 (by decide +kernel : kdX 0 = 10)) (krX10_1 (by decide +kernel : kdX 0 = 10)) τ) (fun r1 τ2 => ?_)
        refine sm_seg C [(.aload_n 0, 0)] (pc' := 43) (L' := [(0, .ref 0), (1, .int a1)]) (S' := [.ref 0]) (by decide +kernel) rfl ?_
        refine sm_getR 10 4 116 cls10 C (ltX (by decide +kernel : kdX 0 = 10) (by decide)) (by decide +kernel : kdX 0 = 10) (obX10 (by decide +kernel : kdX 0 = 10)) (by decide) (frX10_4 (by decide +kernel : kdX 0 = 10)) fl10_33 (by decide +kernel) ?_
        refine sm_vcalv [] [] rfl C mw_X1_forget ml_10_67 rfl (ci := 1) rfl (ltX (krX10_4 (by decide +kernel : kdX 0 = 10)) (by decide)) (krX10_4 (by decide +kernel : kdX 0 = 10)) (by decide) ⟨by decide, by decide⟩ (Nat.le_of_ble_eq_true rfl) (by decide +kernel) (c_X1_forget F τ2) (fun r3 τ4 => ?_)
        refine sm_seg C [(.iconst 1, 1)] (pc' := 50) (L' := [(0, .ref 0), (1, .int a1)]) (S' := [.int 1]) (by decide +kernel) rfl ?_
        exact sm_iret C hr rfl (by decide +kernel)
    · refine sm_seg C [(.aload_n 0, 0)] (pc' := 5) (L' := [(0, .ref 0), (1, .int a1)]) (S' := [.ref 0]) (by decide +kernel) rfl ?_
      refine sm_getR 10 1 52 cls10 C (ltX (by decide +kernel : kdX 0 = 10) (by decide)) (by decide +kernel : kdX 0 = 10) (obX10 (by decide +kernel : kdX 0 = 10)) (by decide) (frX10_1 (by decide +kernel : kdX 0 = 10)) fl10_16 (by decide +kernel) ?_
      refine sm_seg C [(.aload_n 0, 0)] (pc' := 9) (L' := [(0, .ref 0), (1, .int a1)]) (S' := [.ref 0, .ref 52]) (by decide +kernel) rfl ?_
      refine sm_getR 10 0 1 cls10 C (ltX (by decide +kernel : kdX 0 = 10) (by decide)) (by decide +kernel : kdX 0 = 10) (obX10 (by decide +kernel : kdX 0 = 10)) (by decide) (frX10_0 (by decide +kernel : kdX 0 = 10)) fl10_12 (by decide +kernel) ?_
      refine sm_vcalv [.ref 1] [] rfl C mw_X9_copyFrom ml_10_407 rfl (ci := 9) rfl (ltX (krX10_1 (by decide +kernel : kdX 0 = 10)) (by decide)) (krX10_1 (by decide +kernel : kdX 0 = 10)) (by decide) ⟨by decide, by decide⟩ (Nat.le_of_ble_eq_true rfl) (by decide +kernel) (c_X9_copyFrom F 52 1 (krX10_1 (by decide +kernel : kdX 0 = 10)) (krX10_0 (by decide +kernel : kdX 0 = 10)) τ) (fun r5 τ6 => ?_)
      refine sm_seg C [(.aload_n 0, 0), (.iconst 1, 1)] (pc' := 17) (L' := [(0, .ref 0), (1, .int a1)]) (S' := [.int 1, .ref 0]) (by decide +kernel) rfl ?_
      refine sm_pst 10 2 cls10 C (ltX (by decide +kernel : kdX 0 = 10) (by decide)) (by decide +kernel : kdX 0 = 10) (obX10 (by decide +kernel : kdX 0 = 10)) (by decide) (fiX10_2 (by decide +kernel : kdX 0 = 10)) rfl rfl rfl fl10_19 (by decide +kernel) (fun τ7 => ?_)
      refine sm_seg C [(.iconst 1, 1)] (pc' := 21) (L' := [(0, .ref 0), (1, .int a1)]) (S' := [.int 1]) (by decide +kernel) rfl ?_
      exact sm_iret C hr rfl (by decide +kernel)) h
/-! BasketEnvoys_Riddles.madeOf -/
def X4_madeOf_L5 (F : Nat) : Nat → Int32 → Int32 → Int32 → Tau → Option (Int32 × Tau)
  | 0, _, _, _, _ => none
  | n + 1, a2, a3, a4, τ =>
    if a4 ≤ a2 then (some ((rmd a3 10), τ)) else (X4_madeOf_L5 F n a2 (a3 / 10) (a4 + (-1)) τ)
theorem s_X4_madeOf_L5 (F : Nat) {K : Ctx} (C : Cx K sysX RX4 cX4_madeOf 5 1) (hr : Rt K (some .int)) : ∀ (n : Nat) (a2 : Int32) (a3 : Int32) (a4 : Int32) (τ : Tau), Sm K sysX 5 (Qi K sysX) (X4_madeOf_L5 F n a2 a3 a4 τ) 5 [(2, .int a2), (3, .int a3), (4, .int a4)] [] τ := by
  intro n
  induction n with
  | zero => intro a2 a3 a4 τ; exact sm_none
  | succ n ih =>
    intro a2 a3 a4 τ
    rw [X4_madeOf_L5]
    refine sm_seg C [(.iload 4, 0), (.iload_n 2, 0)] (pc' := 8) (L' := [(2, .int a2), (3, .int a3), (4, .int a4)]) (S' := [.int a2, .int a4]) (by decide +kernel) rfl ?_
    refine sm_icmple 22 (off := 14) C (by decide +kernel) (by decide) (fun _ => ?_) (fun _ => ?_)
    · refine sm_seg C [(.iload_n 3, 0), (.bipush 10, 10)] (pc' := 25) (L' := [(2, .int a2), (3, .int a3), (4, .int a4)]) (S' := [.int 10, .int a3]) (by decide +kernel) rfl ?_
      refine sm_irem C (by decide +kernel) (by decide) ?_
      exact sm_iret C hr rfl (by decide +kernel)
    · refine sm_seg C [(.iload_n 3, 0), (.bipush 10, 10)] (pc' := 14) (L' := [(2, .int a2), (3, .int a3), (4, .int a4)]) (S' := [.int 10, .int a3]) (by decide +kernel) rfl ?_
      refine sm_idiv C (by decide +kernel) (by decide) ?_
      refine sm_seg C [(.istore_n 3, 0), (.iinc 4 (-1), (-1)), (.goto (-14), 0)] (pc' := 5) (L' := [(4, .int (a4 + (-1))), (3, .int (a3 / 10)), (2, .int a2)]) (S' := []) (by decide +kernel) rfl ?_
      exact sm_sub [2, 1, 0] rfl (ih a2 (a3 / 10) (a4 + (-1)) τ)
def X4_madeOf (F : Nat) (a1 : Int32) (a2 : Int32) (τ : Tau) : Option (Int32 × Tau) :=
  X4_madeOf_L5 F F a2 a1 4 τ
set_option maxRecDepth 20000 in
set_option maxHeartbeats 4000000 in
theorem c_X4_madeOf (F : Nat) (a1 : Int32) (a2 : Int32) (τ : Tau) (r : Int32) (τ' : Tau) (h : X4_madeOf F a1 a2 τ = some (r, τ')) : MCi sysX yX4_madeOf cX4_madeOf 5 (some .int) 1 [.ref 213, .int a1, .int a2] τ r τ' :=
  mci_of (by decide +kernel) (Nat.le_of_ble_eq_true rfl) (fun K C hr => by
    show Sm K sysX 5 (Qi K sysX) (X4_madeOf F a1 a2 τ) 0 [(0, .ref 213), (1, .int a1), (2, .int a2)] [] τ
    unfold X4_madeOf
    refine sm_seg C [(.iload_n 1, 0), (.istore_n 3, 0), (.iconst 4, 4), (.istore 4, 0)] (pc' := 5) (L' := [(4, .int 4), (3, .int a1), (0, .ref 213), (1, .int a1), (2, .int a2)]) (S' := []) (by decide +kernel) rfl ?_
    exact sm_sub [4, 1, 0] rfl (s_X4_madeOf_L5 F C hr F a2 a1 4 τ)) h
/-! BasketEnvoys_Riddles.hasEachWordOnce -/
def X4_hasEachWordOnce_L16 (F : Nat) : Nat → Int32 → Int32 → Int32 → Tau → Option (Int32 × Tau)
  | 0, _, _, _, _ => none
  | n + 1, a1, a2, a3, τ =>
    if 5 ≤ a3 then (if a2 = 31 then (some (1, τ)) else (some (0, τ))) else (cal (X4_madeOf F a1 a3 τ) fun r3 τ4 => X4_hasEachWordOnce_L16 F n a1 (a2 ||| (shl 1 r3)) (a3 + 1) τ4)
theorem s_X4_hasEachWordOnce_L16 (F : Nat) {K : Ctx} (C : Cx K sysX RX4 cX4_hasEachWordOnce 4 2) (hr : Rt K (some .boolean)) : ∀ (n : Nat) (a1 : Int32) (a2 : Int32) (a3 : Int32) (τ : Tau), Sm K sysX 4 (Qi K sysX) (X4_hasEachWordOnce_L16 F n a1 a2 a3 τ) 16 [(0, .ref 213), (1, .int a1), (2, .int a2), (3, .int a3)] [] τ := by
  intro n
  induction n with
  | zero => intro a1 a2 a3 τ; exact sm_none
  | succ n ih =>
    intro a1 a2 a3 τ
    rw [X4_hasEachWordOnce_L16]
    refine sm_seg C [(.iload_n 3, 0), (.iconst 5, 5)] (pc' := 18) (L' := [(0, .ref 213), (1, .int a1), (2, .int a2), (3, .int a3)]) (S' := [.int 5, .int a3]) (by decide +kernel) rfl ?_
    refine sm_icmpge 38 (off := 20) C (by decide +kernel) (by decide) (fun _ => ?_) (fun _ => ?_)
    · refine sm_seg C [(.iload_n 2, 0), (.bipush 31, 31)] (pc' := 41) (L' := [(0, .ref 213), (1, .int a1), (2, .int a2), (3, .int a3)]) (S' := [.int 31, .int a2]) (by decide +kernel) rfl ?_
      refine sm_icmpne 48 (off := 7) C (by decide +kernel) (by decide) (fun _ => ?_) (fun _ => ?_)
      · refine sm_seg C [(.iconst 1, 1), (.goto 4, 0)] (pc' := 49) (L' := [(0, .ref 213), (1, .int a1), (2, .int a2), (3, .int a3)]) (S' := [.int 1]) (by decide +kernel) rfl ?_
        exact sm_iret C hr rfl (by decide +kernel)
      · refine sm_seg C [(.iconst 0, 0)] (pc' := 49) (L' := [(0, .ref 213), (1, .int a1), (2, .int a2), (3, .int a3)]) (S' := [.int 0]) (by decide +kernel) rfl ?_
        exact sm_iret C hr rfl (by decide +kernel)
    · refine sm_seg C [(.iload_n 2, 0), (.iconst 1, 1), (.aload_n 0, 0), (.iload_n 1, 0), (.iload_n 3, 0)] (pc' := 26) (L' := [(0, .ref 213), (1, .int a1), (2, .int a2), (3, .int a3)]) (S' := [.int a3, .int a1, .ref 213, .int 1, .int a2]) (by decide +kernel) rfl ?_
      refine sm_vcal [.int a1, .int a3] [.int 1, .int a2] rfl C mw_X4_madeOf ml_4_194 rfl (ci := 4) rfl (ltX (by decide +kernel : kdX 213 = 4) (by decide)) (by decide +kernel : kdX 213 = 4) (by decide) ⟨by decide, by decide⟩ (Nat.le_of_ble_eq_true rfl) (by decide +kernel) (c_X4_madeOf F a1 a3 τ) (fun r3 τ4 => ?_)
      refine sm_seg C [(.ishl, 0), (.ior, 0), (.istore_n 2, 0), (.iinc 3 1, 1), (.goto (-19), 0)] (pc' := 16) (L' := [(3, .int (a3 + 1)), (2, .int (a2 ||| (shl 1 r3))), (0, .ref 213), (1, .int a1)]) (S' := []) (by decide +kernel) rfl ?_
      exact sm_sub [2, 3, 1, 0] rfl (ih a1 (a2 ||| (shl 1 r3)) (a3 + 1) τ4)
def X4_hasEachWordOnce (F : Nat) (a1 : Int32) (τ : Tau) : Option (Int32 × Tau) :=
  cal (X10_within F a1 0 99999 τ) fun r1 τ2 => if r1 = 0 then (some (0, τ2)) else (X4_hasEachWordOnce_L16 F F a1 0 0 τ2)
set_option maxRecDepth 20000 in
set_option maxHeartbeats 4000000 in
theorem c_X4_hasEachWordOnce (F : Nat) (a1 : Int32) (τ : Tau) (r : Int32) (τ' : Tau) (h : X4_hasEachWordOnce F a1 τ = some (r, τ')) : MCi sysX yX4_hasEachWordOnce cX4_hasEachWordOnce 4 (some .boolean) 2 [.ref 213, .int a1] τ r τ' :=
  mci_of (by decide +kernel) (Nat.le_of_ble_eq_true rfl) (fun K C hr => by
    show Sm K sysX 4 (Qi K sysX) (X4_hasEachWordOnce F a1 τ) 0 [(0, .ref 213), (1, .int a1)] [] τ
    unfold X4_hasEachWordOnce
    refine sm_seg C [(.iload_n 1, 0), (.iconst 0, 0)] (pc' := 2) (L' := [(0, .ref 213), (1, .int a1)]) (S' := [.int 0, .int a1]) (by decide +kernel) rfl ?_
    refine sm_ldc C cn_4_189 (by decide +kernel) ?_
    refine sm_ncal "BasketEnvoys" [.int a1, .int 0, .int 99999] [] rfl C mw_X10_within ml_4_190 rfl ⟨by decide, by decide⟩ (Nat.le_of_ble_eq_true rfl) (by decide +kernel) (c_X10_within F a1 0 99999 τ) (fun r1 τ2 => ?_)
    refine sm_ifne 12 (off := 5) C (by decide +kernel) (by decide) (fun _ => ?_) (fun _ => ?_)
    · refine sm_seg C [(.iconst 0, 0)] (pc' := 11) (L' := [(0, .ref 213), (1, .int a1)]) (S' := [.int 0]) (by decide +kernel) rfl ?_
      exact sm_iret C hr rfl (by decide +kernel)
    · refine sm_seg C [(.iconst 0, 0), (.istore_n 2, 0), (.iconst 0, 0), (.istore_n 3, 0)] (pc' := 16) (L' := [(3, .int 0), (2, .int 0), (0, .ref 213), (1, .int a1)]) (S' := []) (by decide +kernel) rfl ?_
      exact sm_sub [2, 3, 1, 0] rfl (s_X4_hasEachWordOnce_L16 F C hr F a1 0 0 τ2)) h
/-! BasketEnvoys.interpreter -/
def X10_interpreter (F : Nat) (a1 : Int32) (τ : Tau) : Option (Int32 × Tau) :=
  cal (X4_hasEachWordOnce F a1 τ) fun r1 τ2 => cal (X5_tell F 32 a1 r1 τ2) fun r3 τ4 => some (r3, τ4)
set_option maxRecDepth 20000 in
set_option maxHeartbeats 4000000 in
theorem c_X10_interpreter (F : Nat) (a1 : Int32) (τ : Tau) (r : Int32) (τ' : Tau) (h : X10_interpreter F a1 τ = some (r, τ')) : MCi sysX yX10_interpreter cX10_interpreter 2 (some .int) 3 [.ref 0, .int a1] τ r τ' :=
  mci_of (by decide +kernel) (Nat.le_of_ble_eq_true rfl) (fun K C hr => by
    show Sm K sysX 2 (Qi K sysX) (X10_interpreter F a1 τ) 0 [(0, .ref 0), (1, .int a1)] [] τ
    unfold X10_interpreter
    refine sm_seg C [(.aload_n 0, 0)] (pc' := 1) (L' := [(0, .ref 0), (1, .int a1)]) (S' := [.ref 0]) (by decide +kernel) rfl ?_
    refine sm_getR 10 0 1 cls10 C (ltX (by decide +kernel : kdX 0 = 10) (by decide)) (by decide +kernel : kdX 0 = 10) (obX10 (by decide +kernel : kdX 0 = 10)) (by decide) (frX10_0 (by decide +kernel : kdX 0 = 10)) fl10_12 (by decide +kernel) ?_
    refine sm_getR 9 1 15 cls9 C (ltX (krX10_0 (by decide +kernel : kdX 0 = 10)) (by decide)) (krX10_0 (by decide +kernel : kdX 0 = 10)) (obX9 (krX10_0 (by decide +kernel : kdX 0 = 10))) (by decide) (frX9_1 (krX10_0 (by decide +kernel : kdX 0 = 10))) fl10_243 (by decide +kernel) ?_
    refine sm_getR 7 8 32 cls7 C (ltX (krX9_1 (krX10_0 (by decide +kernel : kdX 0 = 10))) (by decide)) (krX9_1 (krX10_0 (by decide +kernel : kdX 0 = 10))) (obX7 (krX9_1 (krX10_0 (by decide +kernel : kdX 0 = 10)))) (by decide) (frX7_8 (krX9_1 (krX10_0 (by decide +kernel : kdX 0 = 10)))) fl10_387 (by decide +kernel) ?_
    refine sm_seg C [(.iload_n 1, 0), (.aload_n 0, 0)] (pc' := 12) (L' := [(0, .ref 0), (1, .int a1)]) (S' := [.ref 0, .int a1, .ref 32]) (by decide +kernel) rfl ?_
    refine sm_getR 10 7 213 cls10 C (ltX (by decide +kernel : kdX 0 = 10) (by decide)) (by decide +kernel : kdX 0 = 10) (obX10 (by decide +kernel : kdX 0 = 10)) (by decide) (frX10_7 (by decide +kernel : kdX 0 = 10)) fl10_56 (by decide +kernel) ?_
    refine sm_seg C [(.iload_n 1, 0)] (pc' := 16) (L' := [(0, .ref 0), (1, .int a1)]) (S' := [.int a1, .ref 213, .int a1, .ref 32]) (by decide +kernel) rfl ?_
    refine sm_vcal [.int a1] [.int a1, .ref 32] rfl C mw_X4_hasEachWordOnce ml_10_390 rfl (ci := 4) rfl (ltX (krX10_7 (by decide +kernel : kdX 0 = 10)) (by decide)) (krX10_7 (by decide +kernel : kdX 0 = 10)) (by decide) ⟨by decide, by decide⟩ (Nat.le_of_ble_eq_true rfl) (by decide +kernel) (c_X4_hasEachWordOnce F a1 τ) (fun r1 τ2 => ?_)
    refine sm_vcal [.int a1, .int r1] [] rfl C mw_X5_tell ml_10_253 rfl (ci := 5) rfl (ltX (krX7_8 (krX9_1 (krX10_0 (by decide +kernel : kdX 0 = 10)))) (by decide)) (krX7_8 (krX9_1 (krX10_0 (by decide +kernel : kdX 0 = 10)))) (by decide) ⟨by decide, by decide⟩ (Nat.le_of_ble_eq_true rfl) (by decide +kernel) (c_X5_tell F 32 (krX7_8 (krX9_1 (krX10_0 (by decide +kernel : kdX 0 = 10)))) a1 r1 τ2) (fun r3 τ4 => ?_)
    exact sm_iret C hr rfl (by decide +kernel)) h
/-! BasketEnvoys_Riddles.holds -/
def X4_holds_j74 (F : Nat) (self2 : Int32 → Int32 → Tau → Option (Int32 × Tau)) (a1 : Int32) (a2 : Int32) (τ : Tau) : Option (Int32 × Tau) :=
  self2 a1 (a2 + 1) τ
theorem s_X4_holds_j74 (F : Nat) {K : Ctx} (C : Cx K sysX RX4 cX4_holds 6 2) (hr : Rt K (some .boolean)) (self2 : Int32 → Int32 → Tau → Option (Int32 × Tau)) (ih2 : ∀ (a1 : Int32) (a2 : Int32) (τ : Tau), Sm K sysX 6 (Qi K sysX) (self2 a1 a2 τ) 2 [(0, .ref 213), (1, .int a1), (2, .int a2)] [] τ) (a1 : Int32) (a2 : Int32) (τ : Tau) : Sm K sysX 6 (Qi K sysX) (X4_holds_j74 F self2 a1 a2 τ) 74 [(0, .ref 213), (1, .int a1), (2, .int a2)] [] τ := by
  unfold X4_holds_j74
  refine sm_seg C [(.iinc 2 1, 1), (.goto (-75), 0)] (pc' := 2) (L' := [(2, .int (a2 + 1)), (0, .ref 213), (1, .int a1)]) (S' := []) (by decide +kernel) rfl ?_
  exact sm_sub [1, 2, 0] rfl (ih2 a1 (a2 + 1) τ)
def X4_holds_L2 (F : Nat) : Nat → Int32 → Int32 → Tau → Option (Int32 × Tau)
  | 0, _, _, _ => none
  | n + 1, a1, a2, τ =>
    if (τ 24 0) ≤ a2 then (some (1, τ)) else (cal (X5_get F 24 a2 τ) fun r1 τ2 => if ((shr a1 (r1 &&& 7)) &&& 1) = ((shr r1 6) &&& 1) then (X4_holds_j74 F (X4_holds_L2 F n) a1 a2 τ2) else (if ((shr a1 ((shr r1 3) &&& 7)) &&& 1) = ((shr r1 7) &&& 1) then (X4_holds_j74 F (X4_holds_L2 F n) a1 a2 τ2) else (some (0, τ2))))
theorem s_X4_holds_L2 (F : Nat) {K : Ctx} (C : Cx K sysX RX4 cX4_holds 6 2) (hr : Rt K (some .boolean)) : ∀ (n : Nat) (a1 : Int32) (a2 : Int32) (τ : Tau), Sm K sysX 6 (Qi K sysX) (X4_holds_L2 F n a1 a2 τ) 2 [(0, .ref 213), (1, .int a1), (2, .int a2)] [] τ := by
  intro n
  induction n with
  | zero => intro a1 a2 τ; exact sm_none
  | succ n ih =>
    intro a1 a2 τ
    rw [X4_holds_L2]
    refine sm_seg C [(.iload_n 2, 0), (.aload_n 0, 0)] (pc' := 4) (L' := [(0, .ref 213), (1, .int a1), (2, .int a2)]) (S' := [.ref 213, .int a2]) (by decide +kernel) rfl ?_
    refine sm_getR 4 1 15 cls4 C (ltX (by decide +kernel : kdX 213 = 4) (by decide)) (by decide +kernel : kdX 213 = 4) (obX4 (by decide +kernel : kdX 213 = 4)) (by decide) (frX4_1 (by decide +kernel : kdX 213 = 4)) fl4_51 (by decide +kernel) ?_
    refine sm_getR 7 4 24 cls7 C (ltX (krX4_1 (by decide +kernel : kdX 213 = 4)) (by decide)) (krX4_1 (by decide +kernel : kdX 213 = 4)) (obX7 (krX4_1 (by decide +kernel : kdX 213 = 4))) (by decide) (frX7_4 (krX4_1 (by decide +kernel : kdX 213 = 4))) fl4_161 (by decide +kernel) ?_
    refine sm_getI 5 0 cls5 C (ltX (krX7_4 (krX4_1 (by decide +kernel : kdX 213 = 4))) (by decide)) (krX7_4 (krX4_1 (by decide +kernel : kdX 213 = 4))) (obX5 (krX7_4 (krX4_1 (by decide +kernel : kdX 213 = 4)))) (by decide) (fiX5_0 (krX7_4 (krX4_1 (by decide +kernel : kdX 213 = 4)))) fl4_68 (by decide +kernel) ?_
    refine sm_icmpge 80 (off := 67) C (by decide +kernel) (by decide) (fun _ => ?_) (fun _ => ?_)
    · refine sm_seg C [(.iconst 1, 1)] (pc' := 81) (L' := [(0, .ref 213), (1, .int a1), (2, .int a2)]) (S' := [.int 1]) (by decide +kernel) rfl ?_
      exact sm_iret C hr rfl (by decide +kernel)
    · refine sm_seg C [(.aload_n 0, 0)] (pc' := 17) (L' := [(0, .ref 213), (1, .int a1), (2, .int a2)]) (S' := [.ref 213]) (by decide +kernel) rfl ?_
      refine sm_getR 4 1 15 cls4 C (ltX (by decide +kernel : kdX 213 = 4) (by decide)) (by decide +kernel : kdX 213 = 4) (obX4 (by decide +kernel : kdX 213 = 4)) (by decide) (frX4_1 (by decide +kernel : kdX 213 = 4)) fl4_51 (by decide +kernel) ?_
      refine sm_getR 7 4 24 cls7 C (ltX (krX4_1 (by decide +kernel : kdX 213 = 4)) (by decide)) (krX4_1 (by decide +kernel : kdX 213 = 4)) (obX7 (krX4_1 (by decide +kernel : kdX 213 = 4))) (by decide) (frX7_4 (krX4_1 (by decide +kernel : kdX 213 = 4))) fl4_161 (by decide +kernel) ?_
      refine sm_seg C [(.iload_n 2, 0)] (pc' := 24) (L' := [(0, .ref 213), (1, .int a1), (2, .int a2)]) (S' := [.int a2, .ref 24]) (by decide +kernel) rfl ?_
      refine sm_vcal [.int a2] [] rfl C mw_X5_get ml_4_73 rfl (ci := 5) rfl (ltX (krX7_4 (krX4_1 (by decide +kernel : kdX 213 = 4))) (by decide)) (krX7_4 (krX4_1 (by decide +kernel : kdX 213 = 4))) (by decide) ⟨by decide, by decide⟩ (Nat.le_of_ble_eq_true rfl) (by decide +kernel) (c_X5_get F 24 (krX7_4 (krX4_1 (by decide +kernel : kdX 213 = 4))) a2 τ) (fun r1 τ2 => ?_)
      refine sm_seg C [(.istore_n 3, 0), (.iload_n 1, 0), (.iload_n 3, 0), (.bipush 7, 7), (.iand, 0), (.ishr, 0), (.iconst 1, 1), (.iand, 0), (.istore 4, 0), (.iload_n 1, 0), (.iload_n 3, 0), (.iconst 3, 3), (.ishr, 0), (.bipush 7, 7), (.iand, 0), (.ishr, 0), (.iconst 1, 1), (.iand, 0), (.istore 5, 0), (.iload 4, 0), (.iload_n 3, 0), (.bipush 6, 6), (.ishr, 0), (.iconst 1, 1), (.iand, 0)] (pc' := 58) (L' := [(5, .int ((shr a1 ((shr r1 3) &&& 7)) &&& 1)), (4, .int ((shr a1 (r1 &&& 7)) &&& 1)), (3, .int r1), (0, .ref 213), (1, .int a1), (2, .int a2)]) (S' := [.int ((shr r1 6) &&& 1), .int ((shr a1 (r1 &&& 7)) &&& 1)]) (by decide +kernel) rfl ?_
      refine sm_icmpeq 74 (off := 16) C (by decide +kernel) (by decide) (fun _ => ?_) (fun _ => ?_)
      · exact sm_sub [3, 4, 5] rfl (s_X4_holds_j74 F C hr (X4_holds_L2 F n) ih a1 a2 τ2)
      · refine sm_seg C [(.iload 5, 0), (.iload_n 3, 0), (.bipush 7, 7), (.ishr, 0), (.iconst 1, 1), (.iand, 0)] (pc' := 69) (L' := [(5, .int ((shr a1 ((shr r1 3) &&& 7)) &&& 1)), (4, .int ((shr a1 (r1 &&& 7)) &&& 1)), (3, .int r1), (0, .ref 213), (1, .int a1), (2, .int a2)]) (S' := [.int ((shr r1 7) &&& 1), .int ((shr a1 ((shr r1 3) &&& 7)) &&& 1)]) (by decide +kernel) rfl ?_
        refine sm_icmpeq 74 (off := 5) C (by decide +kernel) (by decide) (fun _ => ?_) (fun _ => ?_)
        · exact sm_sub [3, 4, 5] rfl (s_X4_holds_j74 F C hr (X4_holds_L2 F n) ih a1 a2 τ2)
        · refine sm_seg C [(.iconst 0, 0)] (pc' := 73) (L' := [(5, .int ((shr a1 ((shr r1 3) &&& 7)) &&& 1)), (4, .int ((shr a1 (r1 &&& 7)) &&& 1)), (3, .int r1), (0, .ref 213), (1, .int a1), (2, .int a2)]) (S' := [.int 0]) (by decide +kernel) rfl ?_
          exact sm_iret C hr rfl (by decide +kernel)
def X4_holds (F : Nat) (a1 : Int32) (τ : Tau) : Option (Int32 × Tau) :=
  X4_holds_L2 F F a1 0 τ
set_option maxRecDepth 20000 in
set_option maxHeartbeats 4000000 in
theorem c_X4_holds (F : Nat) (a1 : Int32) (τ : Tau) (r : Int32) (τ' : Tau) (h : X4_holds F a1 τ = some (r, τ')) : MCi sysX yX4_holds cX4_holds 6 (some .boolean) 2 [.ref 213, .int a1] τ r τ' :=
  mci_of (by decide +kernel) (Nat.le_of_ble_eq_true rfl) (fun K C hr => by
    show Sm K sysX 6 (Qi K sysX) (X4_holds F a1 τ) 0 [(0, .ref 213), (1, .int a1)] [] τ
    unfold X4_holds
    refine sm_seg C [(.iconst 0, 0), (.istore_n 2, 0)] (pc' := 2) (L' := [(2, .int 0), (0, .ref 213), (1, .int a1)]) (S' := []) (by decide +kernel) rfl ?_
    exact sm_sub [1, 2, 0] rfl (s_X4_holds_L2 F C hr F a1 0 τ)) h
/-! BasketEnvoys_Riddles.waysKept -/
def X4_waysKept_j25 (F : Nat) (self4 : Int32 → Int32 → Tau → Option (Int32 × Tau)) (a2 : Int32) (z0 : Int32) (z1 : Int32) (τ : Tau) : Option (Int32 × Tau) :=
  self4 (z1 + z0) (a2 + 1) τ
theorem s_X4_waysKept_j25 (F : Nat) {K : Ctx} (C : Cx K sysX RX4 cX4_waysKept 3 3) (hr : Rt K (some .int)) (self4 : Int32 → Int32 → Tau → Option (Int32 × Tau)) (ih4 : ∀ (a1 : Int32) (a2 : Int32) (τ : Tau), Sm K sysX 3 (Qi K sysX) (self4 a1 a2 τ) 4 [(0, .ref 213), (1, .int a1), (2, .int a2)] [] τ) (a2 : Int32) (z0 : Int32) (z1 : Int32) (τ : Tau) : Sm K sysX 3 (Qi K sysX) (X4_waysKept_j25 F self4 a2 z0 z1 τ) 25 [(0, .ref 213), (2, .int a2)] [.int z0, .int z1] τ := by
  unfold X4_waysKept_j25
  refine sm_seg C [(.iadd, 0), (.istore_n 1, 0), (.iinc 2 1, 1), (.goto (-26), 0)] (pc' := 4) (L' := [(2, .int (a2 + 1)), (1, .int (z1 + z0)), (0, .ref 213)]) (S' := []) (by decide +kernel) rfl ?_
  exact sm_sub [2, 1, 0] rfl (ih4 (z1 + z0) (a2 + 1) τ)
def X4_waysKept_L4 (F : Nat) : Nat → Int32 → Int32 → Tau → Option (Int32 × Tau)
  | 0, _, _, _ => none
  | n + 1, a1, a2, τ =>
    if 256 ≤ a2 then (some (a1, τ)) else (cal (X4_holds F a2 τ) fun r1 τ2 => if r1 = 0 then (X4_waysKept_j25 F (X4_waysKept_L4 F n) a2 0 a1 τ2) else (X4_waysKept_j25 F (X4_waysKept_L4 F n) a2 1 a1 τ2))
theorem s_X4_waysKept_L4 (F : Nat) {K : Ctx} (C : Cx K sysX RX4 cX4_waysKept 3 3) (hr : Rt K (some .int)) : ∀ (n : Nat) (a1 : Int32) (a2 : Int32) (τ : Tau), Sm K sysX 3 (Qi K sysX) (X4_waysKept_L4 F n a1 a2 τ) 4 [(0, .ref 213), (1, .int a1), (2, .int a2)] [] τ := by
  intro n
  induction n with
  | zero => intro a1 a2 τ; exact sm_none
  | succ n ih =>
    intro a1 a2 τ
    rw [X4_waysKept_L4]
    refine sm_seg C [(.iload_n 2, 0), (.sipush 256, 256)] (pc' := 8) (L' := [(0, .ref 213), (1, .int a1), (2, .int a2)]) (S' := [.int 256, .int a2]) (by decide +kernel) rfl ?_
    refine sm_icmpge 33 (off := 25) C (by decide +kernel) (by decide) (fun _ => ?_) (fun _ => ?_)
    · refine sm_seg C [(.iload_n 1, 0)] (pc' := 34) (L' := [(0, .ref 213), (1, .int a1), (2, .int a2)]) (S' := [.int a1]) (by decide +kernel) rfl ?_
      exact sm_iret C hr rfl (by decide +kernel)
    · refine sm_seg C [(.iload_n 1, 0), (.aload_n 0, 0), (.iload_n 2, 0)] (pc' := 14) (L' := [(0, .ref 213), (1, .int a1), (2, .int a2)]) (S' := [.int a2, .ref 213, .int a1]) (by decide +kernel) rfl ?_
      refine sm_vcal [.int a2] [.int a1] rfl C mw_X4_holds ml_4_158 rfl (ci := 4) rfl (ltX (by decide +kernel : kdX 213 = 4) (by decide)) (by decide +kernel : kdX 213 = 4) (by decide) ⟨by decide, by decide⟩ (Nat.le_of_ble_eq_true rfl) (by decide +kernel) (c_X4_holds F a2 τ) (fun r1 τ2 => ?_)
      refine sm_ifeq 24 (off := 7) C (by decide +kernel) (by decide) (fun _ => ?_) (fun _ => ?_)
      · refine sm_seg C [(.iconst 0, 0)] (pc' := 25) (L' := [(0, .ref 213), (1, .int a1), (2, .int a2)]) (S' := [.int 0, .int a1]) (by decide +kernel) rfl ?_
        exact sm_sub [0, 2] rfl (s_X4_waysKept_j25 F C hr (X4_waysKept_L4 F n) ih a2 0 a1 τ2)
      · refine sm_seg C [(.iconst 1, 1), (.goto 4, 0)] (pc' := 25) (L' := [(0, .ref 213), (1, .int a1), (2, .int a2)]) (S' := [.int 1, .int a1]) (by decide +kernel) rfl ?_
        exact sm_sub [0, 2] rfl (s_X4_waysKept_j25 F C hr (X4_waysKept_L4 F n) ih a2 1 a1 τ2)
def X4_waysKept (F : Nat) (τ : Tau) : Option (Int32 × Tau) :=
  X4_waysKept_L4 F F 0 0 τ
set_option maxRecDepth 20000 in
set_option maxHeartbeats 4000000 in
theorem c_X4_waysKept (F : Nat) (τ : Tau) (r : Int32) (τ' : Tau) (h : X4_waysKept F τ = some (r, τ')) : MCi sysX yX4_waysKept cX4_waysKept 3 (some .int) 3 [.ref 213] τ r τ' :=
  mci_of (by decide +kernel) (Nat.le_of_ble_eq_true rfl) (fun K C hr => by
    show Sm K sysX 3 (Qi K sysX) (X4_waysKept F τ) 0 [(0, .ref 213)] [] τ
    unfold X4_waysKept
    refine sm_seg C [(.iconst 0, 0), (.istore_n 1, 0), (.iconst 0, 0), (.istore_n 2, 0)] (pc' := 4) (L' := [(2, .int 0), (1, .int 0), (0, .ref 213)]) (S' := []) (by decide +kernel) rfl ?_
    exact sm_sub [2, 1, 0] rfl (s_X4_waysKept_L4 F C hr F 0 0 τ)) h
/-! BasketEnvoys_Riddles.leastKept -/
def X4_leastKept_L2 (F : Nat) : Nat → Int32 → Tau → Option (Int32 × Tau)
  | 0, _, _ => none
  | n + 1, a1, τ =>
    if 256 ≤ a1 then (some ((-1), τ)) else (cal (X4_holds F a1 τ) fun r1 τ2 => if r1 = 0 then (X4_leastKept_L2 F n (a1 + 1) τ2) else (some (a1, τ2)))
theorem s_X4_leastKept_L2 (F : Nat) {K : Ctx} (C : Cx K sysX RX4 cX4_leastKept 2 3) (hr : Rt K (some .int)) : ∀ (n : Nat) (a1 : Int32) (τ : Tau), Sm K sysX 2 (Qi K sysX) (X4_leastKept_L2 F n a1 τ) 2 [(0, .ref 213), (1, .int a1)] [] τ := by
  intro n
  induction n with
  | zero => intro a1 τ; exact sm_none
  | succ n ih =>
    intro a1 τ
    rw [X4_leastKept_L2]
    refine sm_seg C [(.iload_n 1, 0), (.sipush 256, 256)] (pc' := 6) (L' := [(0, .ref 213), (1, .int a1)]) (S' := [.int 256, .int a1]) (by decide +kernel) rfl ?_
    refine sm_icmpge 25 (off := 19) C (by decide +kernel) (by decide) (fun _ => ?_) (fun _ => ?_)
    · refine sm_seg C [(.iconst (-1), (-1))] (pc' := 26) (L' := [(0, .ref 213), (1, .int a1)]) (S' := [.int (-1)]) (by decide +kernel) rfl ?_
      exact sm_iret C hr rfl (by decide +kernel)
    · refine sm_seg C [(.aload_n 0, 0), (.iload_n 1, 0)] (pc' := 11) (L' := [(0, .ref 213), (1, .int a1)]) (S' := [.int a1, .ref 213]) (by decide +kernel) rfl ?_
      refine sm_vcal [.int a1] [] rfl C mw_X4_holds ml_4_158 rfl (ci := 4) rfl (ltX (by decide +kernel : kdX 213 = 4) (by decide)) (by decide +kernel : kdX 213 = 4) (by decide) ⟨by decide, by decide⟩ (Nat.le_of_ble_eq_true rfl) (by decide +kernel) (c_X4_holds F a1 τ) (fun r1 τ2 => ?_)
      refine sm_ifeq 19 (off := 5) C (by decide +kernel) (by decide) (fun _ => ?_) (fun _ => ?_)
      · refine sm_seg C [(.iinc 1 1, 1), (.goto (-20), 0)] (pc' := 2) (L' := [(1, .int (a1 + 1)), (0, .ref 213)]) (S' := []) (by decide +kernel) rfl ?_
        exact sm_sub [1, 0] rfl (ih (a1 + 1) τ2)
      · refine sm_seg C [(.iload_n 1, 0)] (pc' := 18) (L' := [(0, .ref 213), (1, .int a1)]) (S' := [.int a1]) (by decide +kernel) rfl ?_
        exact sm_iret C hr rfl (by decide +kernel)
def X4_leastKept (F : Nat) (τ : Tau) : Option (Int32 × Tau) :=
  X4_leastKept_L2 F F 0 τ
set_option maxRecDepth 20000 in
set_option maxHeartbeats 4000000 in
theorem c_X4_leastKept (F : Nat) (τ : Tau) (r : Int32) (τ' : Tau) (h : X4_leastKept F τ = some (r, τ')) : MCi sysX yX4_leastKept cX4_leastKept 2 (some .int) 3 [.ref 213] τ r τ' :=
  mci_of (by decide +kernel) (Nat.le_of_ble_eq_true rfl) (fun K C hr => by
    show Sm K sysX 2 (Qi K sysX) (X4_leastKept F τ) 0 [(0, .ref 213)] [] τ
    unfold X4_leastKept
    refine sm_seg C [(.iconst 0, 0), (.istore_n 1, 0)] (pc' := 2) (L' := [(1, .int 0), (0, .ref 213)]) (S' := []) (by decide +kernel) rfl ?_
    exact sm_sub [1, 0] rfl (s_X4_leastKept_L2 F C hr F 0 τ)) h
/-! BasketEnvoys_Riddles.surelyKept -/
def X4_surelyKept_j30 (F : Nat) (self8 : Int32 → Int32 → Int32 → Tau → Option (Int32 × Tau)) (a1 : Int32) (a2 : Int32) (a3 : Int32) (τ : Tau) : Option (Int32 × Tau) :=
  self8 a1 a2 (a3 + 1) τ
theorem s_X4_surelyKept_j30 (F : Nat) {K : Ctx} (C : Cx K sysX RX4 cX4_surelyKept 4 3) (hr : Rt K (some .int)) (self8 : Int32 → Int32 → Int32 → Tau → Option (Int32 × Tau)) (ih8 : ∀ (a1 : Int32) (a2 : Int32) (a3 : Int32) (τ : Tau), Sm K sysX 4 (Qi K sysX) (self8 a1 a2 a3 τ) 8 [(0, .ref 213), (1, .int a1), (2, .int a2), (3, .int a3)] [] τ) (a1 : Int32) (a2 : Int32) (a3 : Int32) (τ : Tau) : Sm K sysX 4 (Qi K sysX) (X4_surelyKept_j30 F self8 a1 a2 a3 τ) 30 [(0, .ref 213), (1, .int a1), (2, .int a2), (3, .int a3)] [] τ := by
  unfold X4_surelyKept_j30
  refine sm_seg C [(.iinc 3 1, 1), (.goto (-25), 0)] (pc' := 8) (L' := [(3, .int (a3 + 1)), (0, .ref 213), (1, .int a1), (2, .int a2)]) (S' := []) (by decide +kernel) rfl ?_
  exact sm_sub [1, 2, 3, 0] rfl (ih8 a1 a2 (a3 + 1) τ)
def X4_surelyKept_L8 (F : Nat) : Nat → Int32 → Int32 → Int32 → Tau → Option (Int32 × Tau)
  | 0, _, _, _, _ => none
  | n + 1, a1, a2, a3, τ =>
    if 256 ≤ a3 then (if a1 = 0 then (some (0, τ)) else (some (a2, τ))) else (cal (X4_holds F a3 τ) fun r1 τ2 => if r1 = 0 then (X4_surelyKept_j30 F (X4_surelyKept_L8 F n) a1 a2 a3 τ2) else (X4_surelyKept_j30 F (X4_surelyKept_L8 F n) (a1 + 1) (a2 &&& a3) a3 τ2))
theorem s_X4_surelyKept_L8 (F : Nat) {K : Ctx} (C : Cx K sysX RX4 cX4_surelyKept 4 3) (hr : Rt K (some .int)) : ∀ (n : Nat) (a1 : Int32) (a2 : Int32) (a3 : Int32) (τ : Tau), Sm K sysX 4 (Qi K sysX) (X4_surelyKept_L8 F n a1 a2 a3 τ) 8 [(0, .ref 213), (1, .int a1), (2, .int a2), (3, .int a3)] [] τ := by
  intro n
  induction n with
  | zero => intro a1 a2 a3 τ; exact sm_none
  | succ n ih =>
    intro a1 a2 a3 τ
    rw [X4_surelyKept_L8]
    refine sm_seg C [(.iload_n 3, 0), (.sipush 256, 256)] (pc' := 12) (L' := [(0, .ref 213), (1, .int a1), (2, .int a2), (3, .int a3)]) (S' := [.int 256, .int a3]) (by decide +kernel) rfl ?_
    refine sm_icmpge 36 (off := 24) C (by decide +kernel) (by decide) (fun _ => ?_) (fun _ => ?_)
    · refine sm_seg C [(.iload_n 1, 0)] (pc' := 37) (L' := [(0, .ref 213), (1, .int a1), (2, .int a2), (3, .int a3)]) (S' := [.int a1]) (by decide +kernel) rfl ?_
      refine sm_ifne 44 (off := 7) C (by decide +kernel) (by decide) (fun _ => ?_) (fun _ => ?_)
      · refine sm_seg C [(.iconst 0, 0), (.goto 4, 0)] (pc' := 45) (L' := [(0, .ref 213), (1, .int a1), (2, .int a2), (3, .int a3)]) (S' := [.int 0]) (by decide +kernel) rfl ?_
        exact sm_iret C hr rfl (by decide +kernel)
      · refine sm_seg C [(.iload_n 2, 0)] (pc' := 45) (L' := [(0, .ref 213), (1, .int a1), (2, .int a2), (3, .int a3)]) (S' := [.int a2]) (by decide +kernel) rfl ?_
        exact sm_iret C hr rfl (by decide +kernel)
    · refine sm_seg C [(.aload_n 0, 0), (.iload_n 3, 0)] (pc' := 17) (L' := [(0, .ref 213), (1, .int a1), (2, .int a2), (3, .int a3)]) (S' := [.int a3, .ref 213]) (by decide +kernel) rfl ?_
      refine sm_vcal [.int a3] [] rfl C mw_X4_holds ml_4_158 rfl (ci := 4) rfl (ltX (by decide +kernel : kdX 213 = 4) (by decide)) (by decide +kernel : kdX 213 = 4) (by decide) ⟨by decide, by decide⟩ (Nat.le_of_ble_eq_true rfl) (by decide +kernel) (c_X4_holds F a3 τ) (fun r1 τ2 => ?_)
      refine sm_ifeq 30 (off := 10) C (by decide +kernel) (by decide) (fun _ => ?_) (fun _ => ?_)
      · exact sm_sub [0, 1, 2, 3] rfl (s_X4_surelyKept_j30 F C hr (X4_surelyKept_L8 F n) ih a1 a2 a3 τ2)
      · refine sm_seg C [(.iinc 1 1, 1), (.iload_n 2, 0), (.iload_n 3, 0), (.iand, 0), (.istore_n 2, 0)] (pc' := 30) (L' := [(2, .int (a2 &&& a3)), (1, .int (a1 + 1)), (0, .ref 213), (3, .int a3)]) (S' := []) (by decide +kernel) rfl ?_
        exact sm_sub [2, 1, 0, 3] rfl (s_X4_surelyKept_j30 F C hr (X4_surelyKept_L8 F n) ih (a1 + 1) (a2 &&& a3) a3 τ2)
def X4_surelyKept (F : Nat) (τ : Tau) : Option (Int32 × Tau) :=
  X4_surelyKept_L8 F F 0 255 0 τ
set_option maxRecDepth 20000 in
set_option maxHeartbeats 4000000 in
theorem c_X4_surelyKept (F : Nat) (τ : Tau) (r : Int32) (τ' : Tau) (h : X4_surelyKept F τ = some (r, τ')) : MCi sysX yX4_surelyKept cX4_surelyKept 4 (some .int) 3 [.ref 213] τ r τ' :=
  mci_of (by decide +kernel) (Nat.le_of_ble_eq_true rfl) (fun K C hr => by
    show Sm K sysX 4 (Qi K sysX) (X4_surelyKept F τ) 0 [(0, .ref 213)] [] τ
    unfold X4_surelyKept
    refine sm_seg C [(.iconst 0, 0), (.istore_n 1, 0), (.sipush 255, 255), (.istore_n 2, 0), (.iconst 0, 0), (.istore_n 3, 0)] (pc' := 8) (L' := [(3, .int 0), (2, .int 255), (1, .int 0), (0, .ref 213)]) (S' := []) (by decide +kernel) rfl ?_
    exact sm_sub [3, 2, 1, 0] rfl (s_X4_surelyKept_L8 F C hr F 0 255 0 τ)) h
/-! BasketEnvoys.kept -/
def X10_kept (F : Nat) (a1 : Int32) (τ : Tau) : Option (Int32 × Tau) :=
  if a1 = 0 then (cal (X4_waysKept F τ) fun r1 τ2 => some (r1, τ2)) else if a1 = 1 then (cal (X4_leastKept F τ) fun r3 τ4 => some (r3, τ4)) else if a1 = 2 then (cal (X4_surelyKept F τ) fun r5 τ6 => some (r5, τ6)) else (some ((-1), τ))
set_option maxRecDepth 20000 in
set_option maxHeartbeats 4000000 in
theorem c_X10_kept (F : Nat) (a1 : Int32) (τ : Tau) (r : Int32) (τ' : Tau) (h : X10_kept F a1 τ = some (r, τ')) : MCi sysX yX10_kept cX10_kept 2 (some .int) 4 [.ref 0, .int a1] τ r τ' :=
  mci_of (by decide +kernel) (Nat.le_of_ble_eq_true rfl) (fun K C hr => by
    show Sm K sysX 2 (Qi K sysX) (X10_kept F a1 τ) 0 [(0, .ref 0), (1, .int a1)] [] τ
    unfold X10_kept
    refine sm_seg C [(.iload_n 1, 0)] (pc' := 1) (L' := [(0, .ref 0), (1, .int a1)]) (S' := [.int a1]) (by decide +kernel) rfl ?_
    have hd1 : decode cX10_kept 1 = .ok (.tableswitch 51 0 2 #[27, 35, 43], 27) := by decide +kernel
    refine sm_ite (fun e => ?_) (fun n1_0 => ?_)
    · refine sm_tabIn (off := 27) 28 C hd1 (by rw [e]; decide) (by rw [e]; decide) (by rw [e]; decide) (by decide) ?_
      refine sm_seg C [(.aload_n 0, 0)] (pc' := 29) (L' := [(0, .ref 0), (1, .int a1)]) (S' := [.ref 0]) (by decide +kernel) rfl ?_
      refine sm_getR 10 7 213 cls10 C (ltX (by decide +kernel : kdX 0 = 10) (by decide)) (by decide +kernel : kdX 0 = 10) (obX10 (by decide +kernel : kdX 0 = 10)) (by decide) (frX10_7 (by decide +kernel : kdX 0 = 10)) fl10_56 (by decide +kernel) ?_
      refine sm_vcal [] [] rfl C mw_X4_waysKept ml_10_348 rfl (ci := 4) rfl (ltX (krX10_7 (by decide +kernel : kdX 0 = 10)) (by decide)) (krX10_7 (by decide +kernel : kdX 0 = 10)) (by decide) ⟨by decide, by decide⟩ (Nat.le_of_ble_eq_true rfl) (by decide +kernel) (c_X4_waysKept F τ) (fun r1 τ2 => ?_)
      exact sm_iret C hr rfl (by decide +kernel)
    refine sm_ite (fun e => ?_) (fun n1_1 => ?_)
    · refine sm_tabIn (off := 35) 36 C hd1 (by rw [e]; decide) (by rw [e]; decide) (by rw [e]; decide) (by decide) ?_
      refine sm_seg C [(.aload_n 0, 0)] (pc' := 37) (L' := [(0, .ref 0), (1, .int a1)]) (S' := [.ref 0]) (by decide +kernel) rfl ?_
      refine sm_getR 10 7 213 cls10 C (ltX (by decide +kernel : kdX 0 = 10) (by decide)) (by decide +kernel : kdX 0 = 10) (obX10 (by decide +kernel : kdX 0 = 10)) (by decide) (frX10_7 (by decide +kernel : kdX 0 = 10)) fl10_56 (by decide +kernel) ?_
      refine sm_vcal [] [] rfl C mw_X4_leastKept ml_10_351 rfl (ci := 4) rfl (ltX (krX10_7 (by decide +kernel : kdX 0 = 10)) (by decide)) (krX10_7 (by decide +kernel : kdX 0 = 10)) (by decide) ⟨by decide, by decide⟩ (Nat.le_of_ble_eq_true rfl) (by decide +kernel) (c_X4_leastKept F τ) (fun r3 τ4 => ?_)
      exact sm_iret C hr rfl (by decide +kernel)
    refine sm_ite (fun e => ?_) (fun n1_2 => ?_)
    · refine sm_tabIn (off := 43) 44 C hd1 (by rw [e]; decide) (by rw [e]; decide) (by rw [e]; decide) (by decide) ?_
      refine sm_seg C [(.aload_n 0, 0)] (pc' := 45) (L' := [(0, .ref 0), (1, .int a1)]) (S' := [.ref 0]) (by decide +kernel) rfl ?_
      refine sm_getR 10 7 213 cls10 C (ltX (by decide +kernel : kdX 0 = 10) (by decide)) (by decide +kernel : kdX 0 = 10) (obX10 (by decide +kernel : kdX 0 = 10)) (by decide) (frX10_7 (by decide +kernel : kdX 0 = 10)) fl10_56 (by decide +kernel) ?_
      refine sm_vcal [] [] rfl C mw_X4_surelyKept ml_10_354 rfl (ci := 4) rfl (ltX (krX10_7 (by decide +kernel : kdX 0 = 10)) (by decide)) (krX10_7 (by decide +kernel : kdX 0 = 10)) (by decide) ⟨by decide, by decide⟩ (Nat.le_of_ble_eq_true rfl) (by decide +kernel) (c_X4_surelyKept F τ) (fun r5 τ6 => ?_)
      exact sm_iret C hr rfl (by decide +kernel)
    refine sm_tabOut 52 C hd1 (by have q0 := toInt_neZ (z := 0) n1_0 (by decide); have q1 := toInt_neZ (z := 1) n1_1 (by decide); have q2 := toInt_neZ (z := 2) n1_2 (by decide); omega) (by decide) ?_
    refine sm_seg C [(.iconst (-1), (-1))] (pc' := 53) (L' := [(0, .ref 0), (1, .int a1)]) (S' := [.int (-1)]) (by decide +kernel) rfl ?_
    exact sm_iret C hr rfl (by decide +kernel)) h
/-! BasketEnvoys_Riddles.leastWeight -/
def X4_leastWeight_j96 (F : Nat) (self4 : Int32 → Int32 → Int32 → Tau → Option (Int32 × Tau)) (self22 : Int32 → Int32 → Int32 → Int32 → Int32 → Tau → Option (Int32 × Tau)) (a1 : Int32) (a2 : Int32) (a3 : Int32) (a4 : Int32) (a5 : Int32) (τ : Tau) : Option (Int32 × Tau) :=
  self22 a1 a2 a3 a4 (a5 + 1) τ
theorem s_X4_leastWeight_j96 (F : Nat) {K : Ctx} (C : Cx K sysX RX4 cX4_leastWeight 7 3) (hr : Rt K (some .int)) (self4 : Int32 → Int32 → Int32 → Tau → Option (Int32 × Tau)) (self22 : Int32 → Int32 → Int32 → Int32 → Int32 → Tau → Option (Int32 × Tau)) (ih4 : ∀ (a1 : Int32) (a2 : Int32) (a3 : Int32) (τ : Tau), Sm K sysX 7 (Qi K sysX) (self4 a1 a2 a3 τ) 4 [(0, .ref 213), (1, .int a1), (2, .int a2), (3, .int a3)] [] τ) (ih22 : ∀ (a1 : Int32) (a2 : Int32) (a3 : Int32) (a4 : Int32) (a5 : Int32) (τ : Tau), Sm K sysX 7 (Qi K sysX) (self22 a1 a2 a3 a4 a5 τ) 22 [(0, .ref 213), (1, .int a1), (2, .int a2), (3, .int a3), (4, .int a4), (5, .int a5)] [] τ) (a1 : Int32) (a2 : Int32) (a3 : Int32) (a4 : Int32) (a5 : Int32) (τ : Tau) : Sm K sysX 7 (Qi K sysX) (X4_leastWeight_j96 F self4 self22 a1 a2 a3 a4 a5 τ) 96 [(0, .ref 213), (1, .int a1), (2, .int a2), (3, .int a3), (4, .int a4), (5, .int a5)] [] τ := by
  unfold X4_leastWeight_j96
  refine sm_seg C [(.iinc 5 1, 1), (.goto (-77), 0)] (pc' := 22) (L' := [(5, .int (a5 + 1)), (0, .ref 213), (1, .int a1), (2, .int a2), (3, .int a3), (4, .int a4)]) (S' := []) (by decide +kernel) rfl ?_
  exact sm_sub [1, 2, 3, 4, 5, 0] rfl (ih22 a1 a2 a3 a4 (a5 + 1) τ)
def X4_leastWeight_j84 (F : Nat) (self4 : Int32 → Int32 → Int32 → Tau → Option (Int32 × Tau)) (self22 : Int32 → Int32 → Int32 → Int32 → Int32 → Tau → Option (Int32 × Tau)) (a1 : Int32) (a2 : Int32) (a3 : Int32) (a5 : Int32) (τ : Tau) : Option (Int32 × Tau) :=
  ald τ 34 12 a5 fun v7 => X4_leastWeight_j96 F self4 self22 a1 a2 a3 v7 a5 τ
theorem s_X4_leastWeight_j84 (F : Nat) {K : Ctx} (C : Cx K sysX RX4 cX4_leastWeight 7 3) (hr : Rt K (some .int)) (self4 : Int32 → Int32 → Int32 → Tau → Option (Int32 × Tau)) (self22 : Int32 → Int32 → Int32 → Int32 → Int32 → Tau → Option (Int32 × Tau)) (ih4 : ∀ (a1 : Int32) (a2 : Int32) (a3 : Int32) (τ : Tau), Sm K sysX 7 (Qi K sysX) (self4 a1 a2 a3 τ) 4 [(0, .ref 213), (1, .int a1), (2, .int a2), (3, .int a3)] [] τ) (ih22 : ∀ (a1 : Int32) (a2 : Int32) (a3 : Int32) (a4 : Int32) (a5 : Int32) (τ : Tau), Sm K sysX 7 (Qi K sysX) (self22 a1 a2 a3 a4 a5 τ) 22 [(0, .ref 213), (1, .int a1), (2, .int a2), (3, .int a3), (4, .int a4), (5, .int a5)] [] τ) (a1 : Int32) (a2 : Int32) (a3 : Int32) (a5 : Int32) (τ : Tau) : Sm K sysX 7 (Qi K sysX) (X4_leastWeight_j84 F self4 self22 a1 a2 a3 a5 τ) 84 [(0, .ref 213), (1, .int a1), (2, .int a2), (3, .int a3), (5, .int a5)] [] τ := by
  unfold X4_leastWeight_j84
  refine sm_seg C [(.aload_n 0, 0)] (pc' := 85) (L' := [(0, .ref 213), (1, .int a1), (2, .int a2), (3, .int a3), (5, .int a5)]) (S' := [.ref 213]) (by decide +kernel) rfl ?_
  refine sm_getR 4 1 15 cls4 C (ltX (by decide +kernel : kdX 213 = 4) (by decide)) (by decide +kernel : kdX 213 = 4) (obX4 (by decide +kernel : kdX 213 = 4)) (by decide) (frX4_1 (by decide +kernel : kdX 213 = 4)) fl4_51 (by decide +kernel) ?_
  refine sm_getR 7 9 34 cls7 C (ltX (krX4_1 (by decide +kernel : kdX 213 = 4)) (by decide)) (krX4_1 (by decide +kernel : kdX 213 = 4)) (obX7 (krX4_1 (by decide +kernel : kdX 213 = 4))) (by decide) (frX7_9 (krX4_1 (by decide +kernel : kdX 213 = 4))) fl4_87 (by decide +kernel) ?_
  refine sm_seg C [(.iload 5, 0)] (pc' := 93) (L' := [(0, .ref 213), (1, .int a1), (2, .int a2), (3, .int a3), (5, .int a5)]) (S' := [.int a5, .ref 34]) (by decide +kernel) rfl ?_
  refine sm_ald 12 C (ltX (krX7_9 (krX4_1 (by decide +kernel : kdX 213 = 4))) (by decide)) (krX7_9 (krX4_1 (by decide +kernel : kdX 213 = 4))) (nrX7_9 (krX4_1 (by decide +kernel : kdX 213 = 4))) (by decide +kernel) (fun v7 => ?_)
  refine sm_seg C [(.istore 4, 0)] (pc' := 96) (L' := [(4, .int v7), (0, .ref 213), (1, .int a1), (2, .int a2), (3, .int a3), (5, .int a5)]) (S' := []) (by decide +kernel) rfl ?_
  exact sm_sub [1, 2, 3, 4, 0, 5] rfl (s_X4_leastWeight_j96 F C hr self4 self22 ih4 ih22 a1 a2 a3 v7 a5 τ)
def X4_leastWeight_j56 (F : Nat) (self4 : Int32 → Int32 → Int32 → Tau → Option (Int32 × Tau)) (self22 : Int32 → Int32 → Int32 → Int32 → Int32 → Tau → Option (Int32 × Tau)) (a1 : Int32) (a2 : Int32) (a3 : Int32) (a4 : Int32) (a5 : Int32) (z0 : Int32) (τ : Tau) : Option (Int32 × Tau) :=
  if z0 = 0 then (X4_leastWeight_j96 F self4 self22 a1 a2 a3 a4 a5 τ) else (if a4 = (-1) then (X4_leastWeight_j84 F self4 self22 a1 a2 a3 a5 τ) else (ald τ 34 12 a5 fun v8 => if a4 ≤ v8 then (X4_leastWeight_j96 F self4 self22 a1 a2 a3 a4 a5 τ) else (X4_leastWeight_j84 F self4 self22 a1 a2 a3 a5 τ)))
theorem s_X4_leastWeight_j56 (F : Nat) {K : Ctx} (C : Cx K sysX RX4 cX4_leastWeight 7 3) (hr : Rt K (some .int)) (self4 : Int32 → Int32 → Int32 → Tau → Option (Int32 × Tau)) (self22 : Int32 → Int32 → Int32 → Int32 → Int32 → Tau → Option (Int32 × Tau)) (ih4 : ∀ (a1 : Int32) (a2 : Int32) (a3 : Int32) (τ : Tau), Sm K sysX 7 (Qi K sysX) (self4 a1 a2 a3 τ) 4 [(0, .ref 213), (1, .int a1), (2, .int a2), (3, .int a3)] [] τ) (ih22 : ∀ (a1 : Int32) (a2 : Int32) (a3 : Int32) (a4 : Int32) (a5 : Int32) (τ : Tau), Sm K sysX 7 (Qi K sysX) (self22 a1 a2 a3 a4 a5 τ) 22 [(0, .ref 213), (1, .int a1), (2, .int a2), (3, .int a3), (4, .int a4), (5, .int a5)] [] τ) (a1 : Int32) (a2 : Int32) (a3 : Int32) (a4 : Int32) (a5 : Int32) (z0 : Int32) (τ : Tau) : Sm K sysX 7 (Qi K sysX) (X4_leastWeight_j56 F self4 self22 a1 a2 a3 a4 a5 z0 τ) 56 [(0, .ref 213), (1, .int a1), (2, .int a2), (3, .int a3), (4, .int a4), (5, .int a5)] [.int z0] τ := by
  unfold X4_leastWeight_j56
  refine sm_seg C [(.istore 6, 0), (.iload 6, 0)] (pc' := 60) (L' := [(6, .int z0), (0, .ref 213), (1, .int a1), (2, .int a2), (3, .int a3), (4, .int a4), (5, .int a5)]) (S' := [.int z0]) (by decide +kernel) rfl ?_
  refine sm_ifeq 96 (off := 36) C (by decide +kernel) (by decide) (fun _ => ?_) (fun _ => ?_)
  · exact sm_sub [1, 2, 3, 4, 5, 6] rfl (s_X4_leastWeight_j96 F C hr self4 self22 ih4 ih22 a1 a2 a3 a4 a5 τ)
  · refine sm_seg C [(.iload 4, 0), (.iconst (-1), (-1))] (pc' := 66) (L' := [(6, .int z0), (0, .ref 213), (1, .int a1), (2, .int a2), (3, .int a3), (4, .int a4), (5, .int a5)]) (S' := [.int (-1), .int a4]) (by decide +kernel) rfl ?_
    refine sm_icmpeq 84 (off := 18) C (by decide +kernel) (by decide) (fun _ => ?_) (fun _ => ?_)
    · exact sm_sub [1, 2, 3, 4, 6] rfl (s_X4_leastWeight_j84 F C hr self4 self22 ih4 ih22 a1 a2 a3 a5 τ)
    · refine sm_seg C [(.aload_n 0, 0)] (pc' := 70) (L' := [(6, .int z0), (0, .ref 213), (1, .int a1), (2, .int a2), (3, .int a3), (4, .int a4), (5, .int a5)]) (S' := [.ref 213]) (by decide +kernel) rfl ?_
      refine sm_getR 4 1 15 cls4 C (ltX (by decide +kernel : kdX 213 = 4) (by decide)) (by decide +kernel : kdX 213 = 4) (obX4 (by decide +kernel : kdX 213 = 4)) (by decide) (frX4_1 (by decide +kernel : kdX 213 = 4)) fl4_51 (by decide +kernel) ?_
      refine sm_getR 7 9 34 cls7 C (ltX (krX4_1 (by decide +kernel : kdX 213 = 4)) (by decide)) (krX4_1 (by decide +kernel : kdX 213 = 4)) (obX7 (krX4_1 (by decide +kernel : kdX 213 = 4))) (by decide) (frX7_9 (krX4_1 (by decide +kernel : kdX 213 = 4))) fl4_87 (by decide +kernel) ?_
      refine sm_seg C [(.iload 5, 0)] (pc' := 78) (L' := [(6, .int z0), (0, .ref 213), (1, .int a1), (2, .int a2), (3, .int a3), (4, .int a4), (5, .int a5)]) (S' := [.int a5, .ref 34]) (by decide +kernel) rfl ?_
      refine sm_ald 12 C (ltX (krX7_9 (krX4_1 (by decide +kernel : kdX 213 = 4))) (by decide)) (krX7_9 (krX4_1 (by decide +kernel : kdX 213 = 4))) (nrX7_9 (krX4_1 (by decide +kernel : kdX 213 = 4))) (by decide +kernel) (fun v8 => ?_)
      refine sm_seg C [(.iload 4, 0)] (pc' := 81) (L' := [(6, .int z0), (0, .ref 213), (1, .int a1), (2, .int a2), (3, .int a3), (4, .int a4), (5, .int a5)]) (S' := [.int a4, .int v8]) (by decide +kernel) rfl ?_
      refine sm_icmpge 96 (off := 15) C (by decide +kernel) (by decide) (fun _ => ?_) (fun _ => ?_)
      · exact sm_sub [1, 2, 3, 4, 5, 6] rfl (s_X4_leastWeight_j96 F C hr self4 self22 ih4 ih22 a1 a2 a3 a4 a5 τ)
      · exact sm_sub [1, 2, 3, 4, 6] rfl (s_X4_leastWeight_j84 F C hr self4 self22 ih4 ih22 a1 a2 a3 a5 τ)
def X4_leastWeight_L22 (F : Nat) (self4 : Int32 → Int32 → Int32 → Tau → Option (Int32 × Tau)) : Nat → Int32 → Int32 → Int32 → Int32 → Int32 → Tau → Option (Int32 × Tau)
  | 0, _, _, _, _, _, _ => none
  | n + 1, a1, a2, a3, a4, a5, τ =>
    if 12 ≤ a5 then (if a4 = (-1) then (some ((-1), τ)) else (self4 a1 (a2 + a4) (a3 + 1) τ)) else (cal (X9_saysTo F 1 a1 a5 τ) fun r3 τ4 => cal (X9_wantAt F 1 a1 a3 τ4) fun r5 τ6 => if r3 = r5 then (X4_leastWeight_j56 F self4 (X4_leastWeight_L22 F self4 n) a1 a2 a3 a4 a5 1 τ6) else (X4_leastWeight_j56 F self4 (X4_leastWeight_L22 F self4 n) a1 a2 a3 a4 a5 0 τ6))
theorem s_X4_leastWeight_L22 (F : Nat) {K : Ctx} (C : Cx K sysX RX4 cX4_leastWeight 7 3) (hr : Rt K (some .int)) (self4 : Int32 → Int32 → Int32 → Tau → Option (Int32 × Tau)) (ih4 : ∀ (a1 : Int32) (a2 : Int32) (a3 : Int32) (τ : Tau), Sm K sysX 7 (Qi K sysX) (self4 a1 a2 a3 τ) 4 [(0, .ref 213), (1, .int a1), (2, .int a2), (3, .int a3)] [] τ) : ∀ (n : Nat) (a1 : Int32) (a2 : Int32) (a3 : Int32) (a4 : Int32) (a5 : Int32) (τ : Tau), Sm K sysX 7 (Qi K sysX) (X4_leastWeight_L22 F self4 n a1 a2 a3 a4 a5 τ) 22 [(0, .ref 213), (1, .int a1), (2, .int a2), (3, .int a3), (4, .int a4), (5, .int a5)] [] τ := by
  intro n
  induction n with
  | zero => intro a1 a2 a3 a4 a5 τ; exact sm_none
  | succ n ih =>
    intro a1 a2 a3 a4 a5 τ
    rw [X4_leastWeight_L22]
    refine sm_seg C [(.iload 5, 0), (.bipush 12, 12)] (pc' := 26) (L' := [(0, .ref 213), (1, .int a1), (2, .int a2), (3, .int a3), (4, .int a4), (5, .int a5)]) (S' := [.int 12, .int a5]) (by decide +kernel) rfl ?_
    refine sm_icmpge 102 (off := 76) C (by decide +kernel) (by decide) (fun _ => ?_) (fun _ => ?_)
    · refine sm_seg C [(.iload 4, 0), (.iconst (-1), (-1))] (pc' := 105) (L' := [(0, .ref 213), (1, .int a1), (2, .int a2), (3, .int a3), (4, .int a4), (5, .int a5)]) (S' := [.int (-1), .int a4]) (by decide +kernel) rfl ?_
      refine sm_icmpne 110 (off := 5) C (by decide +kernel) (by decide) (fun _ => ?_) (fun _ => ?_)
      · refine sm_seg C [(.iconst (-1), (-1))] (pc' := 109) (L' := [(0, .ref 213), (1, .int a1), (2, .int a2), (3, .int a3), (4, .int a4), (5, .int a5)]) (S' := [.int (-1)]) (by decide +kernel) rfl ?_
        exact sm_iret C hr rfl (by decide +kernel)
      · refine sm_seg C [(.iload_n 2, 0), (.iload 4, 0), (.iadd, 0), (.istore_n 2, 0), (.iinc 3 1, 1), (.goto (-114), 0)] (pc' := 4) (L' := [(3, .int (a3 + 1)), (2, .int (a2 + a4)), (0, .ref 213), (1, .int a1), (4, .int a4), (5, .int a5)]) (S' := []) (by decide +kernel) rfl ?_
        exact sm_sub [2, 3, 1, 0] rfl (ih4 a1 (a2 + a4) (a3 + 1) τ)
    · refine sm_seg C [(.aload_n 0, 0)] (pc' := 30) (L' := [(0, .ref 213), (1, .int a1), (2, .int a2), (3, .int a3), (4, .int a4), (5, .int a5)]) (S' := [.ref 213]) (by decide +kernel) rfl ?_
      refine sm_getR 4 0 1 cls4 C (ltX (by decide +kernel : kdX 213 = 4) (by decide)) (by decide +kernel : kdX 213 = 4) (obX4 (by decide +kernel : kdX 213 = 4)) (by decide) (frX4_0 (by decide +kernel : kdX 213 = 4)) fl4_41 (by decide +kernel) ?_
      refine sm_seg C [(.iload_n 1, 0), (.iload 5, 0)] (pc' := 36) (L' := [(0, .ref 213), (1, .int a1), (2, .int a2), (3, .int a3), (4, .int a4), (5, .int a5)]) (S' := [.int a5, .int a1, .ref 1]) (by decide +kernel) rfl ?_
      refine sm_vcal [.int a1, .int a5] [] rfl C mw_X9_saysTo ml_4_77 rfl (ci := 9) rfl (ltX (krX4_0 (by decide +kernel : kdX 213 = 4)) (by decide)) (krX4_0 (by decide +kernel : kdX 213 = 4)) (by decide) ⟨by decide, by decide⟩ (Nat.le_of_ble_eq_true rfl) (by decide +kernel) (c_X9_saysTo F 1 (krX4_0 (by decide +kernel : kdX 213 = 4)) a1 a5 τ) (fun r3 τ4 => ?_)
      refine sm_seg C [(.aload_n 0, 0)] (pc' := 40) (L' := [(0, .ref 213), (1, .int a1), (2, .int a2), (3, .int a3), (4, .int a4), (5, .int a5)]) (S' := [.ref 213, .int r3]) (by decide +kernel) rfl ?_
      refine sm_getR 4 0 1 cls4 C (ltX (by decide +kernel : kdX 213 = 4) (by decide)) (by decide +kernel : kdX 213 = 4) (obX4 (by decide +kernel : kdX 213 = 4)) (by decide) (frX4_0 (by decide +kernel : kdX 213 = 4)) fl4_41 (by decide +kernel) ?_
      refine sm_seg C [(.iload_n 1, 0), (.iload_n 3, 0)] (pc' := 45) (L' := [(0, .ref 213), (1, .int a1), (2, .int a2), (3, .int a3), (4, .int a4), (5, .int a5)]) (S' := [.int a3, .int a1, .ref 1, .int r3]) (by decide +kernel) rfl ?_
      refine sm_vcal [.int a1, .int a3] [.int r3] rfl C mw_X9_wantAt ml_4_84 rfl (ci := 9) rfl (ltX (krX4_0 (by decide +kernel : kdX 213 = 4)) (by decide)) (krX4_0 (by decide +kernel : kdX 213 = 4)) (by decide) ⟨by decide, by decide⟩ (Nat.le_of_ble_eq_true rfl) (by decide +kernel) (c_X9_wantAt F 1 (krX4_0 (by decide +kernel : kdX 213 = 4)) a1 a3 τ4) (fun r5 τ6 => ?_)
      refine sm_icmpne 55 (off := 7) C (by decide +kernel) (by decide) (fun _ => ?_) (fun _ => ?_)
      · refine sm_seg C [(.iconst 1, 1), (.goto 4, 0)] (pc' := 56) (L' := [(0, .ref 213), (1, .int a1), (2, .int a2), (3, .int a3), (4, .int a4), (5, .int a5)]) (S' := [.int 1]) (by decide +kernel) rfl ?_
        exact sm_sub [0, 1, 2, 3, 4, 5] rfl (s_X4_leastWeight_j56 F C hr self4 (X4_leastWeight_L22 F self4 n) ih4 ih a1 a2 a3 a4 a5 1 τ6)
      · refine sm_seg C [(.iconst 0, 0)] (pc' := 56) (L' := [(0, .ref 213), (1, .int a1), (2, .int a2), (3, .int a3), (4, .int a4), (5, .int a5)]) (S' := [.int 0]) (by decide +kernel) rfl ?_
        exact sm_sub [0, 1, 2, 3, 4, 5] rfl (s_X4_leastWeight_j56 F C hr self4 (X4_leastWeight_L22 F self4 n) ih4 ih a1 a2 a3 a4 a5 0 τ6)
def X4_leastWeight_L4 (F : Nat) : Nat → Int32 → Int32 → Int32 → Tau → Option (Int32 × Tau)
  | 0, _, _, _, _ => none
  | n + 1, a1, a2, a3, τ =>
    cal (X9_wantedBy F 1 a1 τ) fun r1 τ2 => if r1 ≤ a3 then (some (a2, τ2)) else (X4_leastWeight_L22 F (X4_leastWeight_L4 F n) F a1 a2 a3 (-1) 0 τ2)
theorem s_X4_leastWeight_L4 (F : Nat) {K : Ctx} (C : Cx K sysX RX4 cX4_leastWeight 7 3) (hr : Rt K (some .int)) : ∀ (n : Nat) (a1 : Int32) (a2 : Int32) (a3 : Int32) (τ : Tau), Sm K sysX 7 (Qi K sysX) (X4_leastWeight_L4 F n a1 a2 a3 τ) 4 [(0, .ref 213), (1, .int a1), (2, .int a2), (3, .int a3)] [] τ := by
  intro n
  induction n with
  | zero => intro a1 a2 a3 τ; exact sm_none
  | succ n ih =>
    intro a1 a2 a3 τ
    rw [X4_leastWeight_L4]
    refine sm_seg C [(.iload_n 3, 0), (.aload_n 0, 0)] (pc' := 6) (L' := [(0, .ref 213), (1, .int a1), (2, .int a2), (3, .int a3)]) (S' := [.ref 213, .int a3]) (by decide +kernel) rfl ?_
    refine sm_getR 4 0 1 cls4 C (ltX (by decide +kernel : kdX 213 = 4) (by decide)) (by decide +kernel : kdX 213 = 4) (obX4 (by decide +kernel : kdX 213 = 4)) (by decide) (frX4_0 (by decide +kernel : kdX 213 = 4)) fl4_41 (by decide +kernel) ?_
    refine sm_seg C [(.iload_n 1, 0)] (pc' := 10) (L' := [(0, .ref 213), (1, .int a1), (2, .int a2), (3, .int a3)]) (S' := [.int a1, .ref 1, .int a3]) (by decide +kernel) rfl ?_
    refine sm_vcal [.int a1] [.int a3] rfl C mw_X9_wantedBy ml_4_81 rfl (ci := 9) rfl (ltX (krX4_0 (by decide +kernel : kdX 213 = 4)) (by decide)) (krX4_0 (by decide +kernel : kdX 213 = 4)) (by decide) ⟨by decide, by decide⟩ (Nat.le_of_ble_eq_true rfl) (by decide +kernel) (c_X9_wantedBy F 1 (krX4_0 (by decide +kernel : kdX 213 = 4)) a1 τ) (fun r1 τ2 => ?_)
    refine sm_icmpge 121 (off := 108) C (by decide +kernel) (by decide) (fun _ => ?_) (fun _ => ?_)
    · refine sm_seg C [(.iload_n 2, 0)] (pc' := 122) (L' := [(0, .ref 213), (1, .int a1), (2, .int a2), (3, .int a3)]) (S' := [.int a2]) (by decide +kernel) rfl ?_
      exact sm_iret C hr rfl (by decide +kernel)
    · refine sm_seg C [(.iconst (-1), (-1)), (.istore 4, 0), (.iconst 0, 0), (.istore 5, 0)] (pc' := 22) (L' := [(5, .int 0), (4, .int (-1)), (0, .ref 213), (1, .int a1), (2, .int a2), (3, .int a3)]) (S' := []) (by decide +kernel) rfl ?_
      exact sm_sub [2, 3, 4, 5, 1, 0] rfl (s_X4_leastWeight_L22 F C hr (X4_leastWeight_L4 F n) ih F a1 a2 a3 (-1) 0 τ2)
def X4_leastWeight (F : Nat) (a1 : Int32) (τ : Tau) : Option (Int32 × Tau) :=
  X4_leastWeight_L4 F F a1 0 0 τ
set_option maxRecDepth 20000 in
set_option maxHeartbeats 4000000 in
theorem c_X4_leastWeight (F : Nat) (a1 : Int32) (τ : Tau) (r : Int32) (τ' : Tau) (h : X4_leastWeight F a1 τ = some (r, τ')) : MCi sysX yX4_leastWeight cX4_leastWeight 7 (some .int) 3 [.ref 213, .int a1] τ r τ' :=
  mci_of (by decide +kernel) (Nat.le_of_ble_eq_true rfl) (fun K C hr => by
    show Sm K sysX 7 (Qi K sysX) (X4_leastWeight F a1 τ) 0 [(0, .ref 213), (1, .int a1)] [] τ
    unfold X4_leastWeight
    refine sm_seg C [(.iconst 0, 0), (.istore_n 2, 0), (.iconst 0, 0), (.istore_n 3, 0)] (pc' := 4) (L' := [(3, .int 0), (2, .int 0), (0, .ref 213), (1, .int a1)]) (S' := []) (by decide +kernel) rfl ?_
    exact sm_sub [2, 3, 1, 0] rfl (s_X4_leastWeight_L4 F C hr F a1 0 0 τ)) h
/-! BasketEnvoys_Riddles.rowsOfWants -/
def X4_rowsOfWants_L5 (F : Nat) : Nat → Int32 → Int64 → Int32 → Tau → Option (Int32 × Tau)
  | 0, _, _, _, _ => none
  | n + 1, a1, l2, a4, τ =>
    cal (X9_wantedBy F 1 a1 τ) fun r1 τ2 => if r1 ≤ a4 then (some ((l2.toInt32), τ2)) else (cal (X9_wantAt F 1 a1 a4 τ2) fun r3 τ4 => cal (X4_thingsThatSay F a1 r3 τ4) fun r5 τ6 => X4_rowsOfWants_L5 F n a1 (lrmd (l2 * ((r5).toInt64)) (1000000007 : Int64)) (a4 + 1) τ6)
theorem s_X4_rowsOfWants_L5 (F : Nat) {K : Ctx} (C : Cx K sysX RX4 cX4_rowsOfWants 5 4) (hr : Rt K (some .int)) : ∀ (n : Nat) (a1 : Int32) (l2 : Int64) (a4 : Int32) (τ : Tau), Sm K sysX 5 (Qi K sysX) (X4_rowsOfWants_L5 F n a1 l2 a4 τ) 5 [(0, .ref 213), (1, .int a1), (2, .long l2), (4, .int a4)] [] τ := by
  intro n
  induction n with
  | zero => intro a1 l2 a4 τ; exact sm_none
  | succ n ih =>
    intro a1 l2 a4 τ
    rw [X4_rowsOfWants_L5]
    refine sm_seg C [(.iload 4, 0), (.aload_n 0, 0)] (pc' := 8) (L' := [(0, .ref 213), (1, .int a1), (2, .long l2), (4, .int a4)]) (S' := [.ref 213, .int a4]) (by decide +kernel) rfl ?_
    refine sm_getR 4 0 1 cls4 C (ltX (by decide +kernel : kdX 213 = 4) (by decide)) (by decide +kernel : kdX 213 = 4) (obX4 (by decide +kernel : kdX 213 = 4)) (by decide) (frX4_0 (by decide +kernel : kdX 213 = 4)) fl4_41 (by decide +kernel) ?_
    refine sm_seg C [(.iload_n 1, 0)] (pc' := 12) (L' := [(0, .ref 213), (1, .int a1), (2, .long l2), (4, .int a4)]) (S' := [.int a1, .ref 1, .int a4]) (by decide +kernel) rfl ?_
    refine sm_vcal [.int a1] [.int a4] rfl C mw_X9_wantedBy ml_4_81 rfl (ci := 9) rfl (ltX (krX4_0 (by decide +kernel : kdX 213 = 4)) (by decide)) (krX4_0 (by decide +kernel : kdX 213 = 4)) (by decide) ⟨by decide, by decide⟩ (Nat.le_of_ble_eq_true rfl) (by decide +kernel) (c_X9_wantedBy F 1 (krX4_0 (by decide +kernel : kdX 213 = 4)) a1 τ) (fun r1 τ2 => ?_)
    refine sm_icmpge 47 (off := 32) C (by decide +kernel) (by decide) (fun _ => ?_) (fun _ => ?_)
    · refine sm_seg C [(.lload_n 2, 0), (.l2i, 0)] (pc' := 49) (L' := [(0, .ref 213), (1, .int a1), (2, .long l2), (4, .int a4)]) (S' := [.int (l2.toInt32)]) (by decide +kernel) rfl ?_
      exact sm_iret C hr rfl (by decide +kernel)
    · refine sm_seg C [(.lload_n 2, 0), (.aload_n 0, 0), (.iload_n 1, 0), (.aload_n 0, 0)] (pc' := 22) (L' := [(0, .ref 213), (1, .int a1), (2, .long l2), (4, .int a4)]) (S' := [.ref 213, .int a1, .ref 213, .long l2]) (by decide +kernel) rfl ?_
      refine sm_getR 4 0 1 cls4 C (ltX (by decide +kernel : kdX 213 = 4) (by decide)) (by decide +kernel : kdX 213 = 4) (obX4 (by decide +kernel : kdX 213 = 4)) (by decide) (frX4_0 (by decide +kernel : kdX 213 = 4)) fl4_41 (by decide +kernel) ?_
      refine sm_seg C [(.iload_n 1, 0), (.iload 4, 0)] (pc' := 28) (L' := [(0, .ref 213), (1, .int a1), (2, .long l2), (4, .int a4)]) (S' := [.int a4, .int a1, .ref 1, .int a1, .ref 213, .long l2]) (by decide +kernel) rfl ?_
      refine sm_vcal [.int a1, .int a4] [.int a1, .ref 213, .long l2] rfl C mw_X9_wantAt ml_4_84 rfl (ci := 9) rfl (ltX (krX4_0 (by decide +kernel : kdX 213 = 4)) (by decide)) (krX4_0 (by decide +kernel : kdX 213 = 4)) (by decide) ⟨by decide, by decide⟩ (Nat.le_of_ble_eq_true rfl) (by decide +kernel) (c_X9_wantAt F 1 (krX4_0 (by decide +kernel : kdX 213 = 4)) a1 a4 τ2) (fun r3 τ4 => ?_)
      refine sm_vcal [.int a1, .int r3] [.long l2] rfl C mw_X4_thingsThatSay ml_4_90 rfl (ci := 4) rfl (ltX (by decide +kernel : kdX 213 = 4) (by decide)) (by decide +kernel : kdX 213 = 4) (by decide) ⟨by decide, by decide⟩ (Nat.le_of_ble_eq_true rfl) (by decide +kernel) (c_X4_thingsThatSay F a1 r3 τ4) (fun r5 τ6 => ?_)
      refine sm_seg C [(.i2l, 0), (.lmul, 0)] (pc' := 36) (L' := [(0, .ref 213), (1, .int a1), (2, .long l2), (4, .int a4)]) (S' := [.long (l2 * ((r5).toInt64))]) (by decide +kernel) rfl ?_
      refine sm_ldc2 C cn_4_93 (by decide +kernel) ?_
      refine sm_lrem C (by decide +kernel) (by decide) ?_
      refine sm_seg C [(.lstore_n 2, 0), (.iinc 4 1, 1), (.goto (-39), 0)] (pc' := 5) (L' := [(4, .int (a4 + 1)), (2, .long (lrmd (l2 * ((r5).toInt64)) (1000000007 : Int64))), (0, .ref 213), (1, .int a1)]) (S' := []) (by decide +kernel) rfl ?_
      exact sm_sub [2, 3, 1, 0] rfl (ih a1 (lrmd (l2 * ((r5).toInt64)) (1000000007 : Int64)) (a4 + 1) τ6)
def X4_rowsOfWants (F : Nat) (a1 : Int32) (τ : Tau) : Option (Int32 × Tau) :=
  X4_rowsOfWants_L5 F F a1 (1 : Int64) 0 τ
set_option maxRecDepth 20000 in
set_option maxHeartbeats 4000000 in
theorem c_X4_rowsOfWants (F : Nat) (a1 : Int32) (τ : Tau) (r : Int32) (τ' : Tau) (h : X4_rowsOfWants F a1 τ = some (r, τ')) : MCi sysX yX4_rowsOfWants cX4_rowsOfWants 5 (some .int) 4 [.ref 213, .int a1] τ r τ' :=
  mci_of (by decide +kernel) (Nat.le_of_ble_eq_true rfl) (fun K C hr => by
    show Sm K sysX 5 (Qi K sysX) (X4_rowsOfWants F a1 τ) 0 [(0, .ref 213), (1, .int a1)] [] τ
    unfold X4_rowsOfWants
    refine sm_seg C [(.lconst 1, 0), (.lstore_n 2, 0), (.iconst 0, 0), (.istore 4, 0)] (pc' := 5) (L' := [(4, .int 0), (2, .long (1 : Int64)), (0, .ref 213), (1, .int a1)]) (S' := []) (by decide +kernel) rfl ?_
    exact sm_sub [2, 3, 1, 0] rfl (s_X4_rowsOfWants_L5 F C hr F a1 (1 : Int64) 0 τ)) h
/-! BasketEnvoys.lightest -/
def X10_lightest (F : Nat) (a1 : Int32) (a2 : Int32) (τ : Tau) : Option (Int32 × Tau) :=
  cal (X8_hasPower F 2 a1 τ) fun r1 τ2 => if r1 = 0 then (some ((-1), τ2)) else (if a2 = 0 then (cal (X4_leastWeight F a1 τ2) fun r3 τ4 => some (r3, τ4)) else if a2 = 1 then (cal (X4_rowsOfWants F a1 τ2) fun r5 τ6 => some (r5, τ6)) else (some ((-1), τ2)))
set_option maxRecDepth 20000 in
set_option maxHeartbeats 4000000 in
theorem c_X10_lightest (F : Nat) (a1 : Int32) (a2 : Int32) (τ : Tau) (r : Int32) (τ' : Tau) (h : X10_lightest F a1 a2 τ = some (r, τ')) : MCi sysX yX10_lightest cX10_lightest 3 (some .int) 5 [.ref 0, .int a1, .int a2] τ r τ' :=
  mci_of (by decide +kernel) (Nat.le_of_ble_eq_true rfl) (fun K C hr => by
    show Sm K sysX 3 (Qi K sysX) (X10_lightest F a1 a2 τ) 0 [(0, .ref 0), (1, .int a1), (2, .int a2)] [] τ
    unfold X10_lightest
    refine sm_seg C [(.aload_n 0, 0)] (pc' := 1) (L' := [(0, .ref 0), (1, .int a1), (2, .int a2)]) (S' := [.ref 0]) (by decide +kernel) rfl ?_
    refine sm_getR 10 0 1 cls10 C (ltX (by decide +kernel : kdX 0 = 10) (by decide)) (by decide +kernel : kdX 0 = 10) (obX10 (by decide +kernel : kdX 0 = 10)) (by decide) (frX10_0 (by decide +kernel : kdX 0 = 10)) fl10_12 (by decide +kernel) ?_
    refine sm_getR 9 0 2 cls9 C (ltX (krX10_0 (by decide +kernel : kdX 0 = 10)) (by decide)) (krX10_0 (by decide +kernel : kdX 0 = 10)) (obX9 (krX10_0 (by decide +kernel : kdX 0 = 10))) (by decide) (frX9_0 (krX10_0 (by decide +kernel : kdX 0 = 10))) fl10_60 (by decide +kernel) ?_
    refine sm_seg C [(.iload_n 1, 0)] (pc' := 8) (L' := [(0, .ref 0), (1, .int a1), (2, .int a2)]) (S' := [.int a1, .ref 2]) (by decide +kernel) rfl ?_
    refine sm_vcal [.int a1] [] rfl C mw_X8_hasPower ml_10_204 rfl (ci := 8) rfl (ltX (krX9_0 (krX10_0 (by decide +kernel : kdX 0 = 10))) (by decide)) (krX9_0 (krX10_0 (by decide +kernel : kdX 0 = 10))) (by decide) ⟨by decide, by decide⟩ (Nat.le_of_ble_eq_true rfl) (by decide +kernel) (c_X8_hasPower F 2 (krX9_0 (krX10_0 (by decide +kernel : kdX 0 = 10))) a1 τ) (fun r1 τ2 => ?_)
    refine sm_ifne 16 (off := 5) C (by decide +kernel) (by decide) (fun _ => ?_) (fun _ => ?_)
    · refine sm_seg C [(.iconst (-1), (-1))] (pc' := 15) (L' := [(0, .ref 0), (1, .int a1), (2, .int a2)]) (S' := [.int (-1)]) (by decide +kernel) rfl ?_
      exact sm_iret C hr rfl (by decide +kernel)
    · refine sm_seg C [(.iload_n 2, 0)] (pc' := 17) (L' := [(0, .ref 0), (1, .int a1), (2, .int a2)]) (S' := [.int a2]) (by decide +kernel) rfl ?_
      have hd17 : decode cX10_lightest 17 = .ok (.lookupswitch 45 #[(0, 27), (1, 36)], 27) := by decide +kernel
      refine sm_ite (fun e => ?_) (fun n17_0 => ?_)
      · refine sm_look (off := 27) 44 C hd17 (by decide) (by rw [e]; decide) (by decide) ?_
        refine sm_seg C [(.aload_n 0, 0)] (pc' := 45) (L' := [(0, .ref 0), (1, .int a1), (2, .int a2)]) (S' := [.ref 0]) (by decide +kernel) rfl ?_
        refine sm_getR 10 7 213 cls10 C (ltX (by decide +kernel : kdX 0 = 10) (by decide)) (by decide +kernel : kdX 0 = 10) (obX10 (by decide +kernel : kdX 0 = 10)) (by decide) (frX10_7 (by decide +kernel : kdX 0 = 10)) fl10_56 (by decide +kernel) ?_
        refine sm_seg C [(.iload_n 1, 0)] (pc' := 49) (L' := [(0, .ref 0), (1, .int a1), (2, .int a2)]) (S' := [.int a1, .ref 213]) (by decide +kernel) rfl ?_
        refine sm_vcal [.int a1] [] rfl C mw_X4_leastWeight ml_10_268 rfl (ci := 4) rfl (ltX (krX10_7 (by decide +kernel : kdX 0 = 10)) (by decide)) (krX10_7 (by decide +kernel : kdX 0 = 10)) (by decide) ⟨by decide, by decide⟩ (Nat.le_of_ble_eq_true rfl) (by decide +kernel) (c_X4_leastWeight F a1 τ2) (fun r3 τ4 => ?_)
        exact sm_iret C hr rfl (by decide +kernel)
      refine sm_ite (fun e => ?_) (fun n17_1 => ?_)
      · refine sm_look (off := 36) 53 C hd17 (by decide) (by rw [e]; decide) (by decide) ?_
        refine sm_seg C [(.aload_n 0, 0)] (pc' := 54) (L' := [(0, .ref 0), (1, .int a1), (2, .int a2)]) (S' := [.ref 0]) (by decide +kernel) rfl ?_
        refine sm_getR 10 7 213 cls10 C (ltX (by decide +kernel : kdX 0 = 10) (by decide)) (by decide +kernel : kdX 0 = 10) (obX10 (by decide +kernel : kdX 0 = 10)) (by decide) (frX10_7 (by decide +kernel : kdX 0 = 10)) fl10_56 (by decide +kernel) ?_
        refine sm_seg C [(.iload_n 1, 0)] (pc' := 58) (L' := [(0, .ref 0), (1, .int a1), (2, .int a2)]) (S' := [.int a1, .ref 213]) (by decide +kernel) rfl ?_
        refine sm_vcal [.int a1] [] rfl C mw_X4_rowsOfWants ml_10_271 rfl (ci := 4) rfl (ltX (krX10_7 (by decide +kernel : kdX 0 = 10)) (by decide)) (krX10_7 (by decide +kernel : kdX 0 = 10)) (by decide) ⟨by decide, by decide⟩ (Nat.le_of_ble_eq_true rfl) (by decide +kernel) (c_X4_rowsOfWants F a1 τ2) (fun r5 τ6 => ?_)
        exact sm_iret C hr rfl (by decide +kernel)
      refine sm_look (off := 45) 62 C hd17 (by decide) (by show Op.lookupswitch.offset [(0, 27), (1, 36)] 45 _ = _; rw [look_ne (toInt_neZ (z := 0) n17_0 (by decide)), look_ne (toInt_neZ (z := 1) n17_1 (by decide))]; rfl) (by decide) ?_
      refine sm_seg C [(.iconst (-1), (-1))] (pc' := 63) (L' := [(0, .ref 0), (1, .int a1), (2, .int a2)]) (S' := [.int (-1)]) (by decide +kernel) rfl ?_
      exact sm_iret C hr rfl (by decide +kernel)) h
/-! BasketEnvoys.load -/
def X10_load_j25 (F : Nat) (a1 : Int32) (a2 : Int32) (z0 : Int32) (τ : Tau) : Option (Int32 × Tau) :=
  if a1 = (-1) then (cal (X5_empty F 22 τ) fun r3 τ4 => some (r3, τ4)) else (cal (X5_add F 22 ((100 * a1) + a2) z0 τ) fun r5 τ6 => some (r5, τ6))
theorem s_X10_load_j25 (F : Nat) {K : Ctx} (C : Cx K sysX RX10 cX10_load 4 2) (hr : Rt K (some .int)) (a1 : Int32) (a2 : Int32) (z0 : Int32) (τ : Tau) : Sm K sysX 4 (Qi K sysX) (X10_load_j25 F a1 a2 z0 τ) 25 [(0, .ref 0), (1, .int a1), (2, .int a2)] [.int z0] τ := by
  unfold X10_load_j25
  refine sm_seg C [(.istore_n 3, 0), (.iload_n 1, 0), (.iconst (-1), (-1))] (pc' := 28) (L' := [(3, .int z0), (0, .ref 0), (1, .int a1), (2, .int a2)]) (S' := [.int (-1), .int a1]) (by decide +kernel) rfl ?_
  refine sm_icmpne 47 (off := 19) C (by decide +kernel) (by decide) (fun _ => ?_) (fun _ => ?_)
  · refine sm_seg C [(.aload_n 0, 0)] (pc' := 32) (L' := [(3, .int z0), (0, .ref 0), (1, .int a1), (2, .int a2)]) (S' := [.ref 0]) (by decide +kernel) rfl ?_
    refine sm_getR 10 0 1 cls10 C (ltX (by decide +kernel : kdX 0 = 10) (by decide)) (by decide +kernel : kdX 0 = 10) (obX10 (by decide +kernel : kdX 0 = 10)) (by decide) (frX10_0 (by decide +kernel : kdX 0 = 10)) fl10_12 (by decide +kernel) ?_
    refine sm_getR 9 1 15 cls9 C (ltX (krX10_0 (by decide +kernel : kdX 0 = 10)) (by decide)) (krX10_0 (by decide +kernel : kdX 0 = 10)) (obX9 (krX10_0 (by decide +kernel : kdX 0 = 10))) (by decide) (frX9_1 (krX10_0 (by decide +kernel : kdX 0 = 10))) fl10_243 (by decide +kernel) ?_
    refine sm_getR 7 3 22 cls7 C (ltX (krX9_1 (krX10_0 (by decide +kernel : kdX 0 = 10))) (by decide)) (krX9_1 (krX10_0 (by decide +kernel : kdX 0 = 10))) (obX7 (krX9_1 (krX10_0 (by decide +kernel : kdX 0 = 10)))) (by decide) (frX7_3 (krX9_1 (krX10_0 (by decide +kernel : kdX 0 = 10)))) fl10_330 (by decide +kernel) ?_
    refine sm_vcal [] [] rfl C mw_X5_empty ml_10_333 rfl (ci := 5) rfl (ltX (krX7_3 (krX9_1 (krX10_0 (by decide +kernel : kdX 0 = 10)))) (by decide)) (krX7_3 (krX9_1 (krX10_0 (by decide +kernel : kdX 0 = 10)))) (by decide) ⟨by decide, by decide⟩ (Nat.le_of_ble_eq_true rfl) (by decide +kernel) (c_X5_empty F 22 (krX7_3 (krX9_1 (krX10_0 (by decide +kernel : kdX 0 = 10)))) τ) (fun r3 τ4 => ?_)
    refine sm_seg C [(.goto 23, 0)] (pc' := 67) (L' := [(3, .int z0), (0, .ref 0), (1, .int a1), (2, .int a2)]) (S' := [.int r3]) (by decide +kernel) rfl ?_
    exact sm_iret C hr rfl (by decide +kernel)
  · refine sm_seg C [(.aload_n 0, 0)] (pc' := 48) (L' := [(3, .int z0), (0, .ref 0), (1, .int a1), (2, .int a2)]) (S' := [.ref 0]) (by decide +kernel) rfl ?_
    refine sm_getR 10 0 1 cls10 C (ltX (by decide +kernel : kdX 0 = 10) (by decide)) (by decide +kernel : kdX 0 = 10) (obX10 (by decide +kernel : kdX 0 = 10)) (by decide) (frX10_0 (by decide +kernel : kdX 0 = 10)) fl10_12 (by decide +kernel) ?_
    refine sm_getR 9 1 15 cls9 C (ltX (krX10_0 (by decide +kernel : kdX 0 = 10)) (by decide)) (krX10_0 (by decide +kernel : kdX 0 = 10)) (obX9 (krX10_0 (by decide +kernel : kdX 0 = 10))) (by decide) (frX9_1 (krX10_0 (by decide +kernel : kdX 0 = 10))) fl10_243 (by decide +kernel) ?_
    refine sm_getR 7 3 22 cls7 C (ltX (krX9_1 (krX10_0 (by decide +kernel : kdX 0 = 10))) (by decide)) (krX9_1 (krX10_0 (by decide +kernel : kdX 0 = 10))) (obX7 (krX9_1 (krX10_0 (by decide +kernel : kdX 0 = 10)))) (by decide) (frX7_3 (krX9_1 (krX10_0 (by decide +kernel : kdX 0 = 10)))) fl10_330 (by decide +kernel) ?_
    refine sm_seg C [(.bipush 100, 100), (.iload_n 1, 0), (.imul, 0), (.iload_n 2, 0), (.iadd, 0), (.iload_n 3, 0)] (pc' := 64) (L' := [(3, .int z0), (0, .ref 0), (1, .int a1), (2, .int a2)]) (S' := [.int z0, .int ((100 * a1) + a2), .ref 22]) (by decide +kernel) rfl ?_
    refine sm_vcal [.int ((100 * a1) + a2), .int z0] [] rfl C mw_X5_add ml_10_336 rfl (ci := 5) rfl (ltX (krX7_3 (krX9_1 (krX10_0 (by decide +kernel : kdX 0 = 10)))) (by decide)) (krX7_3 (krX9_1 (krX10_0 (by decide +kernel : kdX 0 = 10)))) (by decide) ⟨by decide, by decide⟩ (Nat.le_of_ble_eq_true rfl) (by decide +kernel) (c_X5_add F 22 (krX7_3 (krX9_1 (krX10_0 (by decide +kernel : kdX 0 = 10)))) ((100 * a1) + a2) z0 τ) (fun r5 τ6 => ?_)
    exact sm_iret C hr rfl (by decide +kernel)
def X10_load_j24 (F : Nat) (a1 : Int32) (a2 : Int32) (τ : Tau) : Option (Int32 × Tau) :=
  X10_load_j25 F a1 a2 0 τ
theorem s_X10_load_j24 (F : Nat) {K : Ctx} (C : Cx K sysX RX10 cX10_load 4 2) (hr : Rt K (some .int)) (a1 : Int32) (a2 : Int32) (τ : Tau) : Sm K sysX 4 (Qi K sysX) (X10_load_j24 F a1 a2 τ) 24 [(0, .ref 0), (1, .int a1), (2, .int a2)] [] τ := by
  unfold X10_load_j24
  refine sm_seg C [(.iconst 0, 0)] (pc' := 25) (L' := [(0, .ref 0), (1, .int a1), (2, .int a2)]) (S' := [.int 0]) (by decide +kernel) rfl ?_
  exact sm_sub [0, 1, 2] rfl (s_X10_load_j25 F C hr a1 a2 0 τ)
def X10_load (F : Nat) (a1 : Int32) (a2 : Int32) (τ : Tau) : Option (Int32 × Tau) :=
  cal (X10_within F a1 1 30 τ) fun r1 τ2 => if r1 = 0 then (X10_load_j24 F a1 a2 τ2) else (cal (X10_within F a2 0 99 τ2) fun r7 τ8 => if r7 = 0 then (X10_load_j24 F a1 a2 τ8) else (X10_load_j25 F a1 a2 1 τ8))
set_option maxRecDepth 20000 in
set_option maxHeartbeats 4000000 in
theorem c_X10_load (F : Nat) (a1 : Int32) (a2 : Int32) (τ : Tau) (r : Int32) (τ' : Tau) (h : X10_load F a1 a2 τ = some (r, τ')) : MCi sysX yX10_load cX10_load 4 (some .int) 2 [.ref 0, .int a1, .int a2] τ r τ' :=
  mci_of (by decide +kernel) (Nat.le_of_ble_eq_true rfl) (fun K C hr => by
    show Sm K sysX 4 (Qi K sysX) (X10_load F a1 a2 τ) 0 [(0, .ref 0), (1, .int a1), (2, .int a2)] [] τ
    unfold X10_load
    refine sm_seg C [(.iload_n 1, 0), (.iconst 1, 1), (.bipush 30, 30)] (pc' := 4) (L' := [(0, .ref 0), (1, .int a1), (2, .int a2)]) (S' := [.int 30, .int 1, .int a1]) (by decide +kernel) rfl ?_
    refine sm_scal [.int a1, .int 1, .int 30] [] rfl C mw_X10_within ml_10_70 rfl ⟨by decide, by decide⟩ (Nat.le_of_ble_eq_true rfl) (by decide +kernel) (c_X10_within F a1 1 30 τ) (fun r1 τ2 => ?_)
    refine sm_ifeq 24 (off := 17) C (by decide +kernel) (by decide) (fun _ => ?_) (fun _ => ?_)
    · exact sm_sub [0, 1, 2] rfl (s_X10_load_j24 F C hr a1 a2 τ2)
    · refine sm_seg C [(.iload_n 2, 0), (.iconst 0, 0), (.bipush 99, 99)] (pc' := 14) (L' := [(0, .ref 0), (1, .int a1), (2, .int a2)]) (S' := [.int 99, .int 0, .int a2]) (by decide +kernel) rfl ?_
      refine sm_scal [.int a2, .int 0, .int 99] [] rfl C mw_X10_within ml_10_70 rfl ⟨by decide, by decide⟩ (Nat.le_of_ble_eq_true rfl) (by decide +kernel) (c_X10_within F a2 0 99 τ2) (fun r7 τ8 => ?_)
      refine sm_ifeq 24 (off := 7) C (by decide +kernel) (by decide) (fun _ => ?_) (fun _ => ?_)
      · exact sm_sub [0, 1, 2] rfl (s_X10_load_j24 F C hr a1 a2 τ8)
      · refine sm_seg C [(.iconst 1, 1), (.goto 4, 0)] (pc' := 25) (L' := [(0, .ref 0), (1, .int a1), (2, .int a2)]) (S' := [.int 1]) (by decide +kernel) rfl ?_
        exact sm_sub [0, 1, 2] rfl (s_X10_load_j25 F C hr a1 a2 1 τ8)) h
/-! BasketEnvoys_Town.whoIsAway -/
def X8_whoIsAway_j28 (F : Nat) (self4 : Int32 → Int32 → Tau → Option (Int32 × Tau)) (t0 : Nat) (a2 : Int32) (z0 : Int32) (z1 : Int32) (τ : Tau) : Option (Int32 × Tau) :=
  self4 (z1 ||| z0) (a2 + 1) τ
theorem s_X8_whoIsAway_j28 (F : Nat) (t0 : Nat) {K : Ctx} (C : Cx K sysX RX8 cX8_whoIsAway 3 3) (hr : Rt K (some .int)) (h0 : kdX t0 = 8) (self4 : Int32 → Int32 → Tau → Option (Int32 × Tau)) (ih4 : ∀ (a1 : Int32) (a2 : Int32) (τ : Tau), Sm K sysX 3 (Qi K sysX) (self4 a1 a2 τ) 4 [(0, .ref t0), (1, .int a1), (2, .int a2)] [] τ) (a2 : Int32) (z0 : Int32) (z1 : Int32) (τ : Tau) : Sm K sysX 3 (Qi K sysX) (X8_whoIsAway_j28 F self4 t0 a2 z0 z1 τ) 28 [(0, .ref t0), (2, .int a2)] [.int z0, .int z1] τ := by
  unfold X8_whoIsAway_j28
  refine sm_seg C [(.ior, 0), (.istore_n 1, 0), (.iinc 2 1, 1), (.goto (-29), 0)] (pc' := 4) (L' := [(2, .int (a2 + 1)), (1, .int (z1 ||| z0)), (0, .ref t0)]) (S' := []) (by decide +kernel) rfl ?_
  exact sm_sub [2, 1, 0] rfl (ih4 (z1 ||| z0) (a2 + 1) τ)
def X8_whoIsAway_L4 (F : Nat) (t0 : Nat) : Nat → Int32 → Int32 → Tau → Option (Int32 × Tau)
  | 0, _, _, _ => none
  | n + 1, a1, a2, τ =>
    if (τ t0 1) ≤ a2 then (some (a1, τ)) else (cal (X8_isAway F t0 a2 τ) fun r1 τ2 => if r1 = 0 then (X8_whoIsAway_j28 F (X8_whoIsAway_L4 F t0 n) t0 a2 0 a1 τ2) else (X8_whoIsAway_j28 F (X8_whoIsAway_L4 F t0 n) t0 a2 (shl 1 a2) a1 τ2))
theorem s_X8_whoIsAway_L4 (F : Nat) (t0 : Nat) {K : Ctx} (C : Cx K sysX RX8 cX8_whoIsAway 3 3) (hr : Rt K (some .int)) (h0 : kdX t0 = 8) : ∀ (n : Nat) (a1 : Int32) (a2 : Int32) (τ : Tau), Sm K sysX 3 (Qi K sysX) (X8_whoIsAway_L4 F t0 n a1 a2 τ) 4 [(0, .ref t0), (1, .int a1), (2, .int a2)] [] τ := by
  intro n
  induction n with
  | zero => intro a1 a2 τ; exact sm_none
  | succ n ih =>
    intro a1 a2 τ
    rw [X8_whoIsAway_L4]
    refine sm_seg C [(.iload_n 2, 0), (.aload_n 0, 0)] (pc' := 6) (L' := [(0, .ref t0), (1, .int a1), (2, .int a2)]) (S' := [.ref t0, .int a2]) (by decide +kernel) rfl ?_
    refine sm_getI 8 1 cls8 C (ltX h0 (by decide)) h0 (obX8 h0) (by decide) (fiX8_1 h0) fl8_15 (by decide +kernel) ?_
    refine sm_icmpge 36 (off := 27) C (by decide +kernel) (by decide) (fun _ => ?_) (fun _ => ?_)
    · refine sm_seg C [(.iload_n 1, 0)] (pc' := 37) (L' := [(0, .ref t0), (1, .int a1), (2, .int a2)]) (S' := [.int a1]) (by decide +kernel) rfl ?_
      exact sm_iret C hr rfl (by decide +kernel)
    · refine sm_seg C [(.iload_n 1, 0), (.aload_n 0, 0), (.iload_n 2, 0)] (pc' := 15) (L' := [(0, .ref t0), (1, .int a1), (2, .int a2)]) (S' := [.int a2, .ref t0, .int a1]) (by decide +kernel) rfl ?_
      refine sm_vcal [.int a2] [.int a1] rfl C mw_X8_isAway ml_8_92 rfl (ci := 8) rfl (ltX h0 (by decide)) h0 (by decide) ⟨by decide, by decide⟩ (Nat.le_of_ble_eq_true rfl) (by decide +kernel) (c_X8_isAway F t0 h0 a2 τ) (fun r1 τ2 => ?_)
      refine sm_ifeq 27 (off := 9) C (by decide +kernel) (by decide) (fun _ => ?_) (fun _ => ?_)
      · refine sm_seg C [(.iconst 0, 0)] (pc' := 28) (L' := [(0, .ref t0), (1, .int a1), (2, .int a2)]) (S' := [.int 0, .int a1]) (by decide +kernel) rfl ?_
        exact sm_sub [0, 2] rfl (s_X8_whoIsAway_j28 F t0 C hr h0 (X8_whoIsAway_L4 F t0 n) ih a2 0 a1 τ2)
      · refine sm_seg C [(.iconst 1, 1), (.iload_n 2, 0), (.ishl, 0), (.goto 4, 0)] (pc' := 28) (L' := [(0, .ref t0), (1, .int a1), (2, .int a2)]) (S' := [.int (shl 1 a2), .int a1]) (by decide +kernel) rfl ?_
        exact sm_sub [0, 2] rfl (s_X8_whoIsAway_j28 F t0 C hr h0 (X8_whoIsAway_L4 F t0 n) ih a2 (shl 1 a2) a1 τ2)
def X8_whoIsAway (F : Nat) (t0 : Nat) (τ : Tau) : Option (Int32 × Tau) :=
  X8_whoIsAway_L4 F t0 F 0 0 τ
set_option maxRecDepth 20000 in
set_option maxHeartbeats 4000000 in
theorem c_X8_whoIsAway (F : Nat) (t0 : Nat) (h0 : kdX t0 = 8) (τ : Tau) (r : Int32) (τ' : Tau) (h : X8_whoIsAway F t0 τ = some (r, τ')) : MCi sysX yX8_whoIsAway cX8_whoIsAway 3 (some .int) 3 [.ref t0] τ r τ' :=
  mci_of (by decide +kernel) (Nat.le_of_ble_eq_true rfl) (fun K C hr => by
    show Sm K sysX 3 (Qi K sysX) (X8_whoIsAway F t0 τ) 0 [(0, .ref t0)] [] τ
    unfold X8_whoIsAway
    refine sm_seg C [(.iconst 0, 0), (.istore_n 1, 0), (.iconst 0, 0), (.istore_n 2, 0)] (pc' := 4) (L' := [(2, .int 0), (1, .int 0), (0, .ref t0)]) (S' := []) (by decide +kernel) rfl ?_
    exact sm_sub [2, 1, 0] rfl (s_X8_whoIsAway_L4 F t0 C hr h0 F 0 0 τ)) h
/-! BasketEnvoys_Town.whoIsKnown -/
def X8_whoIsKnown_j31 (F : Nat) (self4 : Int32 → Int32 → Tau → Option (Int32 × Tau)) (t0 : Nat) (a2 : Int32) (z0 : Int32) (z1 : Int32) (τ : Tau) : Option (Int32 × Tau) :=
  self4 (z1 ||| z0) (a2 + 1) τ
theorem s_X8_whoIsKnown_j31 (F : Nat) (t0 : Nat) {K : Ctx} (C : Cx K sysX RX8 cX8_whoIsKnown 3 2) (hr : Rt K (some .int)) (h0 : kdX t0 = 8) (self4 : Int32 → Int32 → Tau → Option (Int32 × Tau)) (ih4 : ∀ (a1 : Int32) (a2 : Int32) (τ : Tau), Sm K sysX 3 (Qi K sysX) (self4 a1 a2 τ) 4 [(0, .ref t0), (1, .int a1), (2, .int a2)] [] τ) (a2 : Int32) (z0 : Int32) (z1 : Int32) (τ : Tau) : Sm K sysX 3 (Qi K sysX) (X8_whoIsKnown_j31 F self4 t0 a2 z0 z1 τ) 31 [(0, .ref t0), (2, .int a2)] [.int z0, .int z1] τ := by
  unfold X8_whoIsKnown_j31
  refine sm_seg C [(.ior, 0), (.istore_n 1, 0), (.iinc 2 1, 1), (.goto (-32), 0)] (pc' := 4) (L' := [(2, .int (a2 + 1)), (1, .int (z1 ||| z0)), (0, .ref t0)]) (S' := []) (by decide +kernel) rfl ?_
  exact sm_sub [2, 1, 0] rfl (ih4 (z1 ||| z0) (a2 + 1) τ)
def X8_whoIsKnown_L4 (F : Nat) (t0 : Nat) : Nat → Int32 → Int32 → Tau → Option (Int32 × Tau)
  | 0, _, _, _ => none
  | n + 1, a1, a2, τ =>
    if (τ t0 1) ≤ a2 then (some (a1, τ)) else (cal (X10_entry F (t0 + 9) a2 τ) fun r1 τ2 => if r1 = 0 then (X8_whoIsKnown_j31 F (X8_whoIsKnown_L4 F t0 n) t0 a2 0 a1 τ2) else (X8_whoIsKnown_j31 F (X8_whoIsKnown_L4 F t0 n) t0 a2 (shl 1 a2) a1 τ2))
theorem s_X8_whoIsKnown_L4 (F : Nat) (t0 : Nat) {K : Ctx} (C : Cx K sysX RX8 cX8_whoIsKnown 3 2) (hr : Rt K (some .int)) (h0 : kdX t0 = 8) : ∀ (n : Nat) (a1 : Int32) (a2 : Int32) (τ : Tau), Sm K sysX 3 (Qi K sysX) (X8_whoIsKnown_L4 F t0 n a1 a2 τ) 4 [(0, .ref t0), (1, .int a1), (2, .int a2)] [] τ := by
  intro n
  induction n with
  | zero => intro a1 a2 τ; exact sm_none
  | succ n ih =>
    intro a1 a2 τ
    rw [X8_whoIsKnown_L4]
    refine sm_seg C [(.iload_n 2, 0), (.aload_n 0, 0)] (pc' := 6) (L' := [(0, .ref t0), (1, .int a1), (2, .int a2)]) (S' := [.ref t0, .int a2]) (by decide +kernel) rfl ?_
    refine sm_getI 8 1 cls8 C (ltX h0 (by decide)) h0 (obX8 h0) (by decide) (fiX8_1 h0) fl8_15 (by decide +kernel) ?_
    refine sm_icmpge 39 (off := 30) C (by decide +kernel) (by decide) (fun _ => ?_) (fun _ => ?_)
    · refine sm_seg C [(.iload_n 1, 0)] (pc' := 40) (L' := [(0, .ref t0), (1, .int a1), (2, .int a2)]) (S' := [.int a1]) (by decide +kernel) rfl ?_
      exact sm_iret C hr rfl (by decide +kernel)
    · refine sm_seg C [(.iload_n 1, 0), (.aload_n 0, 0)] (pc' := 14) (L' := [(0, .ref t0), (1, .int a1), (2, .int a2)]) (S' := [.ref t0, .int a1]) (by decide +kernel) rfl ?_
      refine sm_getR 8 15 (t0 + 9) cls8 C (ltX h0 (by decide)) h0 (obX8 h0) (by decide) (frX8_15 h0) fl8_58 (by decide +kernel) ?_
      refine sm_seg C [(.iload_n 2, 0)] (pc' := 18) (L' := [(0, .ref t0), (1, .int a1), (2, .int a2)]) (S' := [.int a2, .ref (t0 + 9), .int a1]) (by decide +kernel) rfl ?_
      refine sm_ncal "BasketEnvoys" [.ref (t0 + 9), .int a2] [.int a1] rfl C mw_X10_entry ml_8_95 rfl ⟨by decide, by decide⟩ (Nat.le_of_ble_eq_true rfl) (by decide +kernel) (c_X10_entry F (t0 + 9) (krX8_15 h0) a2 τ) (fun r1 τ2 => ?_)
      refine sm_ifeq 30 (off := 9) C (by decide +kernel) (by decide) (fun _ => ?_) (fun _ => ?_)
      · refine sm_seg C [(.iconst 0, 0)] (pc' := 31) (L' := [(0, .ref t0), (1, .int a1), (2, .int a2)]) (S' := [.int 0, .int a1]) (by decide +kernel) rfl ?_
        exact sm_sub [0, 2] rfl (s_X8_whoIsKnown_j31 F t0 C hr h0 (X8_whoIsKnown_L4 F t0 n) ih a2 0 a1 τ2)
      · refine sm_seg C [(.iconst 1, 1), (.iload_n 2, 0), (.ishl, 0), (.goto 4, 0)] (pc' := 31) (L' := [(0, .ref t0), (1, .int a1), (2, .int a2)]) (S' := [.int (shl 1 a2), .int a1]) (by decide +kernel) rfl ?_
        exact sm_sub [0, 2] rfl (s_X8_whoIsKnown_j31 F t0 C hr h0 (X8_whoIsKnown_L4 F t0 n) ih a2 (shl 1 a2) a1 τ2)
def X8_whoIsKnown (F : Nat) (t0 : Nat) (τ : Tau) : Option (Int32 × Tau) :=
  X8_whoIsKnown_L4 F t0 F 0 0 τ
set_option maxRecDepth 20000 in
set_option maxHeartbeats 4000000 in
theorem c_X8_whoIsKnown (F : Nat) (t0 : Nat) (h0 : kdX t0 = 8) (τ : Tau) (r : Int32) (τ' : Tau) (h : X8_whoIsKnown F t0 τ = some (r, τ')) : MCi sysX yX8_whoIsKnown cX8_whoIsKnown 3 (some .int) 2 [.ref t0] τ r τ' :=
  mci_of (by decide +kernel) (Nat.le_of_ble_eq_true rfl) (fun K C hr => by
    show Sm K sysX 3 (Qi K sysX) (X8_whoIsKnown F t0 τ) 0 [(0, .ref t0)] [] τ
    unfold X8_whoIsKnown
    refine sm_seg C [(.iconst 0, 0), (.istore_n 1, 0), (.iconst 0, 0), (.istore_n 2, 0)] (pc' := 4) (L' := [(2, .int 0), (1, .int 0), (0, .ref t0)]) (S' := []) (by decide +kernel) rfl ?_
    exact sm_sub [2, 1, 0] rfl (s_X8_whoIsKnown_L4 F t0 C hr h0 F 0 0 τ)) h
/-! BasketEnvoys.look -/
def X10_look (F : Nat) (a1 : Int32) (τ : Tau) : Option (Int32 × Tau) :=
  if a1 = 0 then (some ((τ 2 0), τ)) else if a1 = 1 then (some ((τ 2 1), τ)) else if a1 = 2 then (some ((τ 2 2), τ)) else if a1 = 3 then (some ((τ 2 3), τ)) else if a1 = 4 then (some ((τ 2 4), τ)) else if a1 = 5 then (cal (X8_whoIsAway F 2 τ) fun r1 τ2 => some (r1, τ2)) else if a1 = 6 then (cal (X8_whoIsKnown F 2 τ) fun r3 τ4 => some (r3, τ4)) else if a1 = 7 then (some ((τ 2 6), τ)) else if a1 = 8 then (some ((τ 2 5), τ)) else if a1 = 9 then (some ((τ 39 0), τ)) else if a1 = 10 then (ald τ 47 4 1 fun v5 => some (v5, τ)) else if a1 = 11 then (ald τ 47 4 2 fun v6 => some (v6, τ)) else if a1 = 12 then (ald τ 47 4 3 fun v7 => some (v7, τ)) else if a1 = 13 then (some ((τ 116 0), τ)) else (some ((-1), τ))
set_option maxRecDepth 20000 in
set_option maxHeartbeats 4000000 in
theorem c_X10_look (F : Nat) (a1 : Int32) (τ : Tau) (r : Int32) (τ' : Tau) (h : X10_look F a1 τ = some (r, τ')) : MCi sysX yX10_look cX10_look 3 (some .int) 4 [.ref 0, .int a1] τ r τ' :=
  mci_of (by decide +kernel) (Nat.le_of_ble_eq_true rfl) (fun K C hr => by
    show Sm K sysX 3 (Qi K sysX) (X10_look F a1 τ) 0 [(0, .ref 0), (1, .int a1)] [] τ
    unfold X10_look
    refine sm_seg C [(.aload_n 0, 0)] (pc' := 1) (L' := [(0, .ref 0), (1, .int a1)]) (S' := [.ref 0]) (by decide +kernel) rfl ?_
    refine sm_getR 10 0 1 cls10 C (ltX (by decide +kernel : kdX 0 = 10) (by decide)) (by decide +kernel : kdX 0 = 10) (obX10 (by decide +kernel : kdX 0 = 10)) (by decide) (frX10_0 (by decide +kernel : kdX 0 = 10)) fl10_12 (by decide +kernel) ?_
    refine sm_getR 9 0 2 cls9 C (ltX (krX10_0 (by decide +kernel : kdX 0 = 10)) (by decide)) (krX10_0 (by decide +kernel : kdX 0 = 10)) (obX9 (krX10_0 (by decide +kernel : kdX 0 = 10))) (by decide) (frX9_0 (krX10_0 (by decide +kernel : kdX 0 = 10))) fl10_60 (by decide +kernel) ?_
    refine sm_seg C [(.astore_n 2, 0), (.iload_n 1, 0)] (pc' := 9) (L' := [(2, .ref 2), (0, .ref 0), (1, .int a1)]) (S' := [.int a1]) (by decide +kernel) rfl ?_
    have hd9 : decode cX10_look 9 = .ok (.tableswitch 165 0 13 #[71, 76, 81, 86, 91, 96, 101, 106, 111, 116, 127, 137, 147, 157], 71) := by decide +kernel
    refine sm_ite (fun e => ?_) (fun n9_0 => ?_)
    · refine sm_tabIn (off := 71) 80 C hd9 (by rw [e]; decide) (by rw [e]; decide) (by rw [e]; decide) (by decide) ?_
      refine sm_seg C [(.aload_n 2, 0)] (pc' := 81) (L' := [(2, .ref 2), (0, .ref 0), (1, .int a1)]) (S' := [.ref 2]) (by decide +kernel) rfl ?_
      refine sm_getI 8 0 cls8 C (ltX (krX9_0 (krX10_0 (by decide +kernel : kdX 0 = 10))) (by decide)) (krX9_0 (krX10_0 (by decide +kernel : kdX 0 = 10))) (obX8 (krX9_0 (krX10_0 (by decide +kernel : kdX 0 = 10)))) (by decide) (fiX8_0 (krX9_0 (krX10_0 (by decide +kernel : kdX 0 = 10)))) fl10_74 (by decide +kernel) ?_
      exact sm_iret C hr rfl (by decide +kernel)
    refine sm_ite (fun e => ?_) (fun n9_1 => ?_)
    · refine sm_tabIn (off := 76) 85 C hd9 (by rw [e]; decide) (by rw [e]; decide) (by rw [e]; decide) (by decide) ?_
      refine sm_seg C [(.aload_n 2, 0)] (pc' := 86) (L' := [(2, .ref 2), (0, .ref 0), (1, .int a1)]) (S' := [.ref 2]) (by decide +kernel) rfl ?_
      refine sm_getI 8 1 cls8 C (ltX (krX9_0 (krX10_0 (by decide +kernel : kdX 0 = 10))) (by decide)) (krX9_0 (krX10_0 (by decide +kernel : kdX 0 = 10))) (obX8 (krX9_0 (krX10_0 (by decide +kernel : kdX 0 = 10)))) (by decide) (fiX8_1 (krX9_0 (krX10_0 (by decide +kernel : kdX 0 = 10)))) fl10_81 (by decide +kernel) ?_
      exact sm_iret C hr rfl (by decide +kernel)
    refine sm_ite (fun e => ?_) (fun n9_2 => ?_)
    · refine sm_tabIn (off := 81) 90 C hd9 (by rw [e]; decide) (by rw [e]; decide) (by rw [e]; decide) (by decide) ?_
      refine sm_seg C [(.aload_n 2, 0)] (pc' := 91) (L' := [(2, .ref 2), (0, .ref 0), (1, .int a1)]) (S' := [.ref 2]) (by decide +kernel) rfl ?_
      refine sm_getI 8 2 cls8 C (ltX (krX9_0 (krX10_0 (by decide +kernel : kdX 0 = 10))) (by decide)) (krX9_0 (krX10_0 (by decide +kernel : kdX 0 = 10))) (obX8 (krX9_0 (krX10_0 (by decide +kernel : kdX 0 = 10)))) (by decide) (fiX8_2 (krX9_0 (krX10_0 (by decide +kernel : kdX 0 = 10)))) fl10_240 (by decide +kernel) ?_
      exact sm_iret C hr rfl (by decide +kernel)
    refine sm_ite (fun e => ?_) (fun n9_3 => ?_)
    · refine sm_tabIn (off := 86) 95 C hd9 (by rw [e]; decide) (by rw [e]; decide) (by rw [e]; decide) (by decide) ?_
      refine sm_seg C [(.aload_n 2, 0)] (pc' := 96) (L' := [(2, .ref 2), (0, .ref 0), (1, .int a1)]) (S' := [.ref 2]) (by decide +kernel) rfl ?_
      refine sm_getI 8 3 cls8 C (ltX (krX9_0 (krX10_0 (by decide +kernel : kdX 0 = 10))) (by decide)) (krX9_0 (krX10_0 (by decide +kernel : kdX 0 = 10))) (obX8 (krX9_0 (krX10_0 (by decide +kernel : kdX 0 = 10)))) (by decide) (fiX8_3 (krX9_0 (krX10_0 (by decide +kernel : kdX 0 = 10)))) fl10_409 (by decide +kernel) ?_
      exact sm_iret C hr rfl (by decide +kernel)
    refine sm_ite (fun e => ?_) (fun n9_4 => ?_)
    · refine sm_tabIn (off := 91) 100 C hd9 (by rw [e]; decide) (by rw [e]; decide) (by rw [e]; decide) (by decide) ?_
      refine sm_seg C [(.aload_n 2, 0)] (pc' := 101) (L' := [(2, .ref 2), (0, .ref 0), (1, .int a1)]) (S' := [.ref 2]) (by decide +kernel) rfl ?_
      refine sm_getI 8 4 cls8 C (ltX (krX9_0 (krX10_0 (by decide +kernel : kdX 0 = 10))) (by decide)) (krX9_0 (krX10_0 (by decide +kernel : kdX 0 = 10))) (obX8 (krX9_0 (krX10_0 (by decide +kernel : kdX 0 = 10)))) (by decide) (fiX8_4 (krX9_0 (krX10_0 (by decide +kernel : kdX 0 = 10)))) fl10_102 (by decide +kernel) ?_
      exact sm_iret C hr rfl (by decide +kernel)
    refine sm_ite (fun e => ?_) (fun n9_5 => ?_)
    · refine sm_tabIn (off := 96) 105 C hd9 (by rw [e]; decide) (by rw [e]; decide) (by rw [e]; decide) (by decide) ?_
      refine sm_seg C [(.aload_n 2, 0)] (pc' := 106) (L' := [(2, .ref 2), (0, .ref 0), (1, .int a1)]) (S' := [.ref 2]) (by decide +kernel) rfl ?_
      refine sm_vcal [] [] rfl C mw_X8_whoIsAway ml_10_412 rfl (ci := 8) rfl (ltX (krX9_0 (krX10_0 (by decide +kernel : kdX 0 = 10))) (by decide)) (krX9_0 (krX10_0 (by decide +kernel : kdX 0 = 10))) (by decide) ⟨by decide, by decide⟩ (Nat.le_of_ble_eq_true rfl) (by decide +kernel) (c_X8_whoIsAway F 2 (krX9_0 (krX10_0 (by decide +kernel : kdX 0 = 10))) τ) (fun r1 τ2 => ?_)
      exact sm_iret C hr rfl (by decide +kernel)
    refine sm_ite (fun e => ?_) (fun n9_6 => ?_)
    · refine sm_tabIn (off := 101) 110 C hd9 (by rw [e]; decide) (by rw [e]; decide) (by rw [e]; decide) (by decide) ?_
      refine sm_seg C [(.aload_n 2, 0)] (pc' := 111) (L' := [(2, .ref 2), (0, .ref 0), (1, .int a1)]) (S' := [.ref 2]) (by decide +kernel) rfl ?_
      refine sm_vcal [] [] rfl C mw_X8_whoIsKnown ml_10_415 rfl (ci := 8) rfl (ltX (krX9_0 (krX10_0 (by decide +kernel : kdX 0 = 10))) (by decide)) (krX9_0 (krX10_0 (by decide +kernel : kdX 0 = 10))) (by decide) ⟨by decide, by decide⟩ (Nat.le_of_ble_eq_true rfl) (by decide +kernel) (c_X8_whoIsKnown F 2 (krX9_0 (krX10_0 (by decide +kernel : kdX 0 = 10))) τ) (fun r3 τ4 => ?_)
      exact sm_iret C hr rfl (by decide +kernel)
    refine sm_ite (fun e => ?_) (fun n9_7 => ?_)
    · refine sm_tabIn (off := 106) 115 C hd9 (by rw [e]; decide) (by rw [e]; decide) (by rw [e]; decide) (by decide) ?_
      refine sm_seg C [(.aload_n 2, 0)] (pc' := 116) (L' := [(2, .ref 2), (0, .ref 0), (1, .int a1)]) (S' := [.ref 2]) (by decide +kernel) rfl ?_
      refine sm_getI 8 6 cls8 C (ltX (krX9_0 (krX10_0 (by decide +kernel : kdX 0 = 10))) (by decide)) (krX9_0 (krX10_0 (by decide +kernel : kdX 0 = 10))) (obX8 (krX9_0 (krX10_0 (by decide +kernel : kdX 0 = 10)))) (by decide) (fiX8_6 (krX9_0 (krX10_0 (by decide +kernel : kdX 0 = 10)))) fl10_228 (by decide +kernel) ?_
      exact sm_iret C hr rfl (by decide +kernel)
    refine sm_ite (fun e => ?_) (fun n9_8 => ?_)
    · refine sm_tabIn (off := 111) 120 C hd9 (by rw [e]; decide) (by rw [e]; decide) (by rw [e]; decide) (by decide) ?_
      refine sm_seg C [(.aload_n 2, 0)] (pc' := 121) (L' := [(2, .ref 2), (0, .ref 0), (1, .int a1)]) (S' := [.ref 2]) (by decide +kernel) rfl ?_
      refine sm_getI 8 5 cls8 C (ltX (krX9_0 (krX10_0 (by decide +kernel : kdX 0 = 10))) (by decide)) (krX9_0 (krX10_0 (by decide +kernel : kdX 0 = 10))) (obX8 (krX9_0 (krX10_0 (by decide +kernel : kdX 0 = 10)))) (by decide) (fiX8_5 (krX9_0 (krX10_0 (by decide +kernel : kdX 0 = 10)))) fl10_63 (by decide +kernel) ?_
      exact sm_iret C hr rfl (by decide +kernel)
    refine sm_ite (fun e => ?_) (fun n9_9 => ?_)
    · refine sm_tabIn (off := 116) 125 C hd9 (by rw [e]; decide) (by rw [e]; decide) (by rw [e]; decide) (by decide) ?_
      refine sm_seg C [(.aload_n 0, 0)] (pc' := 126) (L' := [(2, .ref 2), (0, .ref 0), (1, .int a1)]) (S' := [.ref 0]) (by decide +kernel) rfl ?_
      refine sm_getR 10 0 1 cls10 C (ltX (by decide +kernel : kdX 0 = 10) (by decide)) (by decide +kernel : kdX 0 = 10) (obX10 (by decide +kernel : kdX 0 = 10)) (by decide) (frX10_0 (by decide +kernel : kdX 0 = 10)) fl10_12 (by decide +kernel) ?_
      refine sm_getR 9 2 39 cls9 C (ltX (krX10_0 (by decide +kernel : kdX 0 = 10)) (by decide)) (krX10_0 (by decide +kernel : kdX 0 = 10)) (obX9 (krX10_0 (by decide +kernel : kdX 0 = 10))) (by decide) (frX9_2 (krX10_0 (by decide +kernel : kdX 0 = 10))) fl10_142 (by decide +kernel) ?_
      refine sm_getI 2 0 cls2 C (ltX (krX9_2 (krX10_0 (by decide +kernel : kdX 0 = 10))) (by decide)) (krX9_2 (krX10_0 (by decide +kernel : kdX 0 = 10))) (obX2 (krX9_2 (krX10_0 (by decide +kernel : kdX 0 = 10)))) (by decide) (fiX2_0 (krX9_2 (krX10_0 (by decide +kernel : kdX 0 = 10)))) fl10_418 (by decide +kernel) ?_
      exact sm_iret C hr rfl (by decide +kernel)
    refine sm_ite (fun e => ?_) (fun n9_10 => ?_)
    · refine sm_tabIn (off := 127) 136 C hd9 (by rw [e]; decide) (by rw [e]; decide) (by rw [e]; decide) (by decide) ?_
      refine sm_seg C [(.aload_n 0, 0)] (pc' := 137) (L' := [(2, .ref 2), (0, .ref 0), (1, .int a1)]) (S' := [.ref 0]) (by decide +kernel) rfl ?_
      refine sm_getR 10 0 1 cls10 C (ltX (by decide +kernel : kdX 0 = 10) (by decide)) (by decide +kernel : kdX 0 = 10) (obX10 (by decide +kernel : kdX 0 = 10)) (by decide) (frX10_0 (by decide +kernel : kdX 0 = 10)) fl10_12 (by decide +kernel) ?_
      refine sm_getR 9 4 47 cls9 C (ltX (krX10_0 (by decide +kernel : kdX 0 = 10)) (by decide)) (krX10_0 (by decide +kernel : kdX 0 = 10)) (obX9 (krX10_0 (by decide +kernel : kdX 0 = 10))) (by decide) (frX9_4 (krX10_0 (by decide +kernel : kdX 0 = 10))) fl10_421 (by decide +kernel) ?_
      refine sm_seg C [(.iconst 1, 1)] (pc' := 144) (L' := [(2, .ref 2), (0, .ref 0), (1, .int a1)]) (S' := [.int 1, .ref 47]) (by decide +kernel) rfl ?_
      refine sm_ald 4 C (ltX (krX9_4 (krX10_0 (by decide +kernel : kdX 0 = 10))) (by decide)) (krX9_4 (krX10_0 (by decide +kernel : kdX 0 = 10))) (nrX9_4 (krX10_0 (by decide +kernel : kdX 0 = 10))) (by decide +kernel) (fun v5 => ?_)
      exact sm_iret C hr rfl (by decide +kernel)
    refine sm_ite (fun e => ?_) (fun n9_11 => ?_)
    · refine sm_tabIn (off := 137) 146 C hd9 (by rw [e]; decide) (by rw [e]; decide) (by rw [e]; decide) (by decide) ?_
      refine sm_seg C [(.aload_n 0, 0)] (pc' := 147) (L' := [(2, .ref 2), (0, .ref 0), (1, .int a1)]) (S' := [.ref 0]) (by decide +kernel) rfl ?_
      refine sm_getR 10 0 1 cls10 C (ltX (by decide +kernel : kdX 0 = 10) (by decide)) (by decide +kernel : kdX 0 = 10) (obX10 (by decide +kernel : kdX 0 = 10)) (by decide) (frX10_0 (by decide +kernel : kdX 0 = 10)) fl10_12 (by decide +kernel) ?_
      refine sm_getR 9 4 47 cls9 C (ltX (krX10_0 (by decide +kernel : kdX 0 = 10)) (by decide)) (krX10_0 (by decide +kernel : kdX 0 = 10)) (obX9 (krX10_0 (by decide +kernel : kdX 0 = 10))) (by decide) (frX9_4 (krX10_0 (by decide +kernel : kdX 0 = 10))) fl10_421 (by decide +kernel) ?_
      refine sm_seg C [(.iconst 2, 2)] (pc' := 154) (L' := [(2, .ref 2), (0, .ref 0), (1, .int a1)]) (S' := [.int 2, .ref 47]) (by decide +kernel) rfl ?_
      refine sm_ald 4 C (ltX (krX9_4 (krX10_0 (by decide +kernel : kdX 0 = 10))) (by decide)) (krX9_4 (krX10_0 (by decide +kernel : kdX 0 = 10))) (nrX9_4 (krX10_0 (by decide +kernel : kdX 0 = 10))) (by decide +kernel) (fun v6 => ?_)
      exact sm_iret C hr rfl (by decide +kernel)
    refine sm_ite (fun e => ?_) (fun n9_12 => ?_)
    · refine sm_tabIn (off := 147) 156 C hd9 (by rw [e]; decide) (by rw [e]; decide) (by rw [e]; decide) (by decide) ?_
      refine sm_seg C [(.aload_n 0, 0)] (pc' := 157) (L' := [(2, .ref 2), (0, .ref 0), (1, .int a1)]) (S' := [.ref 0]) (by decide +kernel) rfl ?_
      refine sm_getR 10 0 1 cls10 C (ltX (by decide +kernel : kdX 0 = 10) (by decide)) (by decide +kernel : kdX 0 = 10) (obX10 (by decide +kernel : kdX 0 = 10)) (by decide) (frX10_0 (by decide +kernel : kdX 0 = 10)) fl10_12 (by decide +kernel) ?_
      refine sm_getR 9 4 47 cls9 C (ltX (krX10_0 (by decide +kernel : kdX 0 = 10)) (by decide)) (krX10_0 (by decide +kernel : kdX 0 = 10)) (obX9 (krX10_0 (by decide +kernel : kdX 0 = 10))) (by decide) (frX9_4 (krX10_0 (by decide +kernel : kdX 0 = 10))) fl10_421 (by decide +kernel) ?_
      refine sm_seg C [(.iconst 3, 3)] (pc' := 164) (L' := [(2, .ref 2), (0, .ref 0), (1, .int a1)]) (S' := [.int 3, .ref 47]) (by decide +kernel) rfl ?_
      refine sm_ald 4 C (ltX (krX9_4 (krX10_0 (by decide +kernel : kdX 0 = 10))) (by decide)) (krX9_4 (krX10_0 (by decide +kernel : kdX 0 = 10))) (nrX9_4 (krX10_0 (by decide +kernel : kdX 0 = 10))) (by decide +kernel) (fun v7 => ?_)
      exact sm_iret C hr rfl (by decide +kernel)
    refine sm_ite (fun e => ?_) (fun n9_13 => ?_)
    · refine sm_tabIn (off := 157) 166 C hd9 (by rw [e]; decide) (by rw [e]; decide) (by rw [e]; decide) (by decide) ?_
      refine sm_seg C [(.aload_n 0, 0)] (pc' := 167) (L' := [(2, .ref 2), (0, .ref 0), (1, .int a1)]) (S' := [.ref 0]) (by decide +kernel) rfl ?_
      refine sm_getR 10 4 116 cls10 C (ltX (by decide +kernel : kdX 0 = 10) (by decide)) (by decide +kernel : kdX 0 = 10) (obX10 (by decide +kernel : kdX 0 = 10)) (by decide) (frX10_4 (by decide +kernel : kdX 0 = 10)) fl10_33 (by decide +kernel) ?_
      refine sm_getI 1 0 cls1 C (ltX (krX10_4 (by decide +kernel : kdX 0 = 10)) (by decide)) (krX10_4 (by decide +kernel : kdX 0 = 10)) (obX1 (krX10_4 (by decide +kernel : kdX 0 = 10))) (by decide) (fiX1_0 (krX10_4 (by decide +kernel : kdX 0 = 10))) fl10_423 (by decide +kernel) ?_
      exact sm_iret C hr rfl (by decide +kernel)
    refine sm_tabOut 174 C hd9 (by have q0 := toInt_neZ (z := 0) n9_0 (by decide); have q1 := toInt_neZ (z := 1) n9_1 (by decide); have q2 := toInt_neZ (z := 2) n9_2 (by decide); have q3 := toInt_neZ (z := 3) n9_3 (by decide); have q4 := toInt_neZ (z := 4) n9_4 (by decide); have q5 := toInt_neZ (z := 5) n9_5 (by decide); have q6 := toInt_neZ (z := 6) n9_6 (by decide); have q7 := toInt_neZ (z := 7) n9_7 (by decide); have q8 := toInt_neZ (z := 8) n9_8 (by decide); have q9 := toInt_neZ (z := 9) n9_9 (by decide); have q10 := toInt_neZ (z := 10) n9_10 (by decide); have q11 := toInt_neZ (z := 11) n9_11 (by decide); have q12 := toInt_neZ (z := 12) n9_12 (by decide); have q13 := toInt_neZ (z := 13) n9_13 (by decide); omega) (by decide) ?_
    refine sm_seg C [(.iconst (-1), (-1))] (pc' := 175) (L' := [(2, .ref 2), (0, .ref 0), (1, .int a1)]) (S' := [.int (-1)]) (by decide +kernel) rfl ?_
    exact sm_iret C hr rfl (by decide +kernel)) h
/-! BasketEnvoys_Riddles.paint -/
def X4_paint_j92 (F : Nat) (rc : Int32 → Int32 → Tau → Option (Int32 × Tau)) (self26 : Int32 → Int32 → Int32 → Tau → Option (Int32 × Tau)) (t2 : Nat) (t3 : Nat) (t4 : Nat) (a0 : Int32) (a1 : Int32) (a5 : Int32) (τ : Tau) : Option (Int32 × Tau) :=
  self26 a0 a1 (a5 + 1) τ
theorem s_X4_paint_j92 (F : Nat) (t2 : Nat) (t3 : Nat) (t4 : Nat) (rc : Int32 → Int32 → Tau → Option (Int32 × Tau)) (db : Nat) (hb : 2 ≤ db) (hrc : ∀ (a0 : Int32) (a1 : Int32) (τ : Tau) (r : Int32) (τ' : Tau), rc a0 a1 τ = some (r, τ') → MCv sysX yX4_paint cX4_paint 6 db [.int a0, .int a1, .ref t2, .ref t3, .ref t4] τ τ') {K : Ctx} (C : Cx K sysX RX4 cX4_paint 6 (db + 1)) (hr : Rt K none) (h2 : kdX t2 = 20) (h3 : kdX t3 = 20) (h4 : kdX t4 = 20) (self26 : Int32 → Int32 → Int32 → Tau → Option (Int32 × Tau)) (ih26 : ∀ (a0 : Int32) (a1 : Int32) (a5 : Int32) (τ : Tau), Sm K sysX 6 (Qv K sysX) (self26 a0 a1 a5 τ) 26 [(0, .int a0), (1, .int a1), (2, .ref t2), (3, .ref t3), (4, .ref t4), (5, .int a5)] [] τ) (a0 : Int32) (a1 : Int32) (a5 : Int32) (τ : Tau) : Sm K sysX 6 (Qv K sysX) (X4_paint_j92 F rc self26 t2 t3 t4 a0 a1 a5 τ) 92 [(0, .int a0), (1, .int a1), (2, .ref t2), (3, .ref t3), (4, .ref t4), (5, .int a5)] [] τ := by
  unfold X4_paint_j92
  refine sm_seg C [(.iinc 5 1, 1), (.goto (-69), 0)] (pc' := 26) (L' := [(5, .int (a5 + 1)), (0, .int a0), (1, .int a1), (2, .ref t2), (3, .ref t3), (4, .ref t4)]) (S' := []) (by decide +kernel) rfl ?_
  exact sm_sub [1, 2, 3, 4, 5, 0] rfl (ih26 a0 a1 (a5 + 1) τ)
def X4_paint_L26 (F : Nat) (rc : Int32 → Int32 → Tau → Option (Int32 × Tau)) (t2 : Nat) (t3 : Nat) (t4 : Nat) : Nat → Int32 → Int32 → Int32 → Tau → Option (Int32 × Tau)
  | 0, _, _, _, _ => none
  | n + 1, a0, a1, a5, τ =>
    if a1 < a5 then (some (0, τ)) else (if (Int32.ofNat (lnX t3)) ≤ a5 then (some (0, τ)) else (ald τ t3 (lnX t3) a5 fun v1 => cal (X10_entry F t2 a0 τ) fun r2 τ3 => if (v1 &&& r2) = 0 then (ald τ3 t3 (lnX t3) a5 fun v4 => ast τ3 t3 (lnX t3) a5 (v4 ||| (shl 1 a0)) fun τ5 => cal (rc (a0 + 1) (imax a1 (a5 + 1)) τ5) fun r6 τ7 => ald τ7 t3 (lnX t3) a5 fun v8 => ast τ7 t3 (lnX t3) a5 (v8 &&& ((shl 1 a0) ^^^ (-1))) fun τ9 => X4_paint_j92 F rc (X4_paint_L26 F rc t2 t3 t4 n) t2 t3 t4 a0 a1 a5 τ9) else (X4_paint_j92 F rc (X4_paint_L26 F rc t2 t3 t4 n) t2 t3 t4 a0 a1 a5 τ3)))
theorem s_X4_paint_L26 (F : Nat) (t2 : Nat) (t3 : Nat) (t4 : Nat) (rc : Int32 → Int32 → Tau → Option (Int32 × Tau)) (db : Nat) (hb : 2 ≤ db) (hrc : ∀ (a0 : Int32) (a1 : Int32) (τ : Tau) (r : Int32) (τ' : Tau), rc a0 a1 τ = some (r, τ') → MCv sysX yX4_paint cX4_paint 6 db [.int a0, .int a1, .ref t2, .ref t3, .ref t4] τ τ') {K : Ctx} (C : Cx K sysX RX4 cX4_paint 6 (db + 1)) (hr : Rt K none) (h2 : kdX t2 = 20) (h3 : kdX t3 = 20) (h4 : kdX t4 = 20) : ∀ (n : Nat) (a0 : Int32) (a1 : Int32) (a5 : Int32) (τ : Tau), Sm K sysX 6 (Qv K sysX) (X4_paint_L26 F rc t2 t3 t4 n a0 a1 a5 τ) 26 [(0, .int a0), (1, .int a1), (2, .ref t2), (3, .ref t3), (4, .ref t4), (5, .int a5)] [] τ := by
  intro n
  induction n with
  | zero => intro a0 a1 a5 τ; exact sm_none
  | succ n ih =>
    intro a0 a1 a5 τ
    rw [X4_paint_L26]
    refine sm_seg C [(.iload 5, 0), (.iload_n 1, 0)] (pc' := 29) (L' := [(0, .int a0), (1, .int a1), (2, .ref t2), (3, .ref t3), (4, .ref t4), (5, .int a5)]) (S' := [.int a1, .int a5]) (by decide +kernel) rfl ?_
    refine sm_icmpgt 98 (off := 69) C (by decide +kernel) (by decide) (fun _ => ?_) (fun _ => ?_)
    · exact sm_vret C hr (by decide +kernel)
    · refine sm_seg C [(.iload 5, 0), (.aload_n 3, 0)] (pc' := 35) (L' := [(0, .int a0), (1, .int a1), (2, .ref t2), (3, .ref t3), (4, .ref t4), (5, .int a5)]) (S' := [.ref t3, .int a5]) (by decide +kernel) rfl ?_
      refine sm_alen 20 0 (lnX t3) (fun _ => rfl) C (ltX h3 (by decide)) h3 (by decide) (by decide) rfl rfl (by decide +kernel) ?_
      refine sm_icmpge 98 (off := 62) C (by decide +kernel) (by decide) (fun _ => ?_) (fun _ => ?_)
      · exact sm_vret C hr (by decide +kernel)
      · refine sm_seg C [(.aload_n 3, 0), (.iload 5, 0)] (pc' := 42) (L' := [(0, .int a0), (1, .int a1), (2, .ref t2), (3, .ref t3), (4, .ref t4), (5, .int a5)]) (S' := [.int a5, .ref t3]) (by decide +kernel) rfl ?_
        refine sm_ald (lnX t3) C (ltX h3 (by decide)) h3 rfl (by decide +kernel) (fun v1 => ?_)
        refine sm_seg C [(.aload_n 2, 0), (.iload_n 0, 0)] (pc' := 45) (L' := [(0, .int a0), (1, .int a1), (2, .ref t2), (3, .ref t3), (4, .ref t4), (5, .int a5)]) (S' := [.int a0, .ref t2, .int v1]) (by decide +kernel) rfl ?_
        refine sm_ncal "BasketEnvoys" [.ref t2, .int a0] [.int v1] rfl C mw_X10_entry ml_4_108 rfl ⟨by omega, by omega⟩ (Nat.le_of_ble_eq_true rfl) (by decide +kernel) (c_X10_entry F t2 h2 a0 τ) (fun r2 τ3 => ?_)
        refine sm_seg C [(.iand, 0)] (pc' := 49) (L' := [(0, .int a0), (1, .int a1), (2, .ref t2), (3, .ref t3), (4, .ref t4), (5, .int a5)]) (S' := [.int (v1 &&& r2)]) (by decide +kernel) rfl ?_
        refine sm_ifne 92 (off := 43) C (by decide +kernel) (by decide) (fun _ => ?_) (fun _ => ?_)
        · refine sm_seg C [(.aload_n 3, 0), (.iload 5, 0), (.dup2, 0)] (pc' := 56) (L' := [(0, .int a0), (1, .int a1), (2, .ref t2), (3, .ref t3), (4, .ref t4), (5, .int a5)]) (S' := [.int a5, .ref t3, .int a5, .ref t3]) (by decide +kernel) rfl ?_
          refine sm_ald (lnX t3) C (ltX h3 (by decide)) h3 rfl (by decide +kernel) (fun v4 => ?_)
          refine sm_seg C [(.iconst 1, 1), (.iload_n 0, 0), (.ishl, 0), (.ior, 0)] (pc' := 61) (L' := [(0, .int a0), (1, .int a1), (2, .ref t2), (3, .ref t3), (4, .ref t4), (5, .int a5)]) (S' := [.int (v4 ||| (shl 1 a0)), .int a5, .ref t3]) (by decide +kernel) rfl ?_
          refine sm_ast (lnX t3) C (ltX h3 (by decide)) h3 rfl (by decide +kernel) (fun τ5 => ?_)
          refine sm_seg C [(.iload_n 0, 0), (.iconst 1, 1), (.iadd, 0), (.iload_n 1, 0), (.iload 5, 0), (.iconst 1, 1), (.iadd, 0)] (pc' := 70) (L' := [(0, .int a0), (1, .int a1), (2, .ref t2), (3, .ref t3), (4, .ref t4), (5, .int a5)]) (S' := [.int (a5 + 1), .int a1, .int (a0 + 1)]) (by decide +kernel) rfl ?_
          refine sm_max C (by omega) ml_4_125 jw_maxs jw_math jw_maxc (Nat.le_of_ble_eq_true rfl) (by decide +kernel) ?_
          refine sm_seg C [(.aload_n 2, 0), (.aload_n 3, 0), (.aload 4, 0)] (pc' := 77) (L' := [(0, .int a0), (1, .int a1), (2, .ref t2), (3, .ref t3), (4, .ref t4), (5, .int a5)]) (S' := [.ref t4, .ref t3, .ref t2, .int (imax a1 (a5 + 1)), .int (a0 + 1)]) (by decide +kernel) rfl ?_
          refine sm_scalv [.int (a0 + 1), .int (imax a1 (a5 + 1)), .ref t2, .ref t3, .ref t4] [] rfl C mw_X4_paint ml_4_173 rfl ⟨by omega, by omega⟩ (Nat.le_of_ble_eq_true rfl) (by decide +kernel) (hrc (a0 + 1) (imax a1 (a5 + 1)) τ5) (fun r6 τ7 => ?_)
          refine sm_seg C [(.aload_n 3, 0), (.iload 5, 0), (.dup2, 0)] (pc' := 84) (L' := [(0, .int a0), (1, .int a1), (2, .ref t2), (3, .ref t3), (4, .ref t4), (5, .int a5)]) (S' := [.int a5, .ref t3, .int a5, .ref t3]) (by decide +kernel) rfl ?_
          refine sm_ald (lnX t3) C (ltX h3 (by decide)) h3 rfl (by decide +kernel) (fun v8 => ?_)
          refine sm_seg C [(.iconst 1, 1), (.iload_n 0, 0), (.ishl, 0), (.iconst (-1), (-1)), (.ixor, 0), (.iand, 0)] (pc' := 91) (L' := [(0, .int a0), (1, .int a1), (2, .ref t2), (3, .ref t3), (4, .ref t4), (5, .int a5)]) (S' := [.int (v8 &&& ((shl 1 a0) ^^^ (-1))), .int a5, .ref t3]) (by decide +kernel) rfl ?_
          refine sm_ast (lnX t3) C (ltX h3 (by decide)) h3 rfl (by decide +kernel) (fun τ9 => ?_)
          exact sm_sub [0, 1, 2, 3, 4, 5] rfl (s_X4_paint_j92 F t2 t3 t4 rc db hb hrc C hr h2 h3 h4 (X4_paint_L26 F rc t2 t3 t4 n) ih a0 a1 a5 τ9)
        · exact sm_sub [0, 1, 2, 3, 4, 5] rfl (s_X4_paint_j92 F t2 t3 t4 rc db hb hrc C hr h2 h3 h4 (X4_paint_L26 F rc t2 t3 t4 n) ih a0 a1 a5 τ3)
def X4_paint_B (F : Nat) (rc : Int32 → Int32 → Tau → Option (Int32 × Tau)) (t2 : Nat) (t3 : Nat) (t4 : Nat) (a0 : Int32) (a1 : Int32) (τ : Tau) : Option (Int32 × Tau) :=
  if a0 < 8 then (X4_paint_L26 F rc t2 t3 t4 F a0 a1 0 τ) else (cal (X10_entry F t4 a1 τ) fun r10 τ11 => cal (X10_put F t4 a1 (r10 + 1) 1 τ11) fun r12 τ13 => some (0, τ13))
set_option maxRecDepth 20000 in
set_option maxHeartbeats 4000000 in
theorem c_X4_paint_B (F : Nat) (t2 : Nat) (t3 : Nat) (t4 : Nat) (rc : Int32 → Int32 → Tau → Option (Int32 × Tau)) (db : Nat) (hb : 2 ≤ db) (hrc : ∀ (a0 : Int32) (a1 : Int32) (τ : Tau) (r : Int32) (τ' : Tau), rc a0 a1 τ = some (r, τ') → MCv sysX yX4_paint cX4_paint 6 db [.int a0, .int a1, .ref t2, .ref t3, .ref t4] τ τ') (h2 : kdX t2 = 20) (h3 : kdX t3 = 20) (h4 : kdX t4 = 20) (a0 : Int32) (a1 : Int32) (τ : Tau) (r : Int32) (τ' : Tau) (h : X4_paint_B F rc t2 t3 t4 a0 a1 τ = some (r, τ')) : MCv sysX yX4_paint cX4_paint 6 (db + 1) [.int a0, .int a1, .ref t2, .ref t3, .ref t4] τ τ' :=
  mcv_of (by decide +kernel) (Nat.le_of_ble_eq_true rfl) (fun K C hr => by
    show Sm K sysX 6 (Qv K sysX) (X4_paint_B F rc t2 t3 t4 a0 a1 τ) 0 [(0, .int a0), (1, .int a1), (2, .ref t2), (3, .ref t3), (4, .ref t4)] [] τ
    unfold X4_paint_B
    refine sm_seg C [(.iload_n 0, 0), (.bipush 8, 8)] (pc' := 3) (L' := [(0, .int a0), (1, .int a1), (2, .ref t2), (3, .ref t3), (4, .ref t4)]) (S' := [.int 8, .int a0]) (by decide +kernel) rfl ?_
    refine sm_icmplt 23 (off := 20) C (by decide +kernel) (by decide) (fun _ => ?_) (fun _ => ?_)
    · refine sm_seg C [(.iconst 0, 0), (.istore 5, 0)] (pc' := 26) (L' := [(5, .int 0), (0, .int a0), (1, .int a1), (2, .ref t2), (3, .ref t3), (4, .ref t4)]) (S' := []) (by decide +kernel) rfl ?_
      exact sm_sub [1, 2, 3, 4, 5, 0] rfl (s_X4_paint_L26 F t2 t3 t4 rc db hb hrc C hr h2 h3 h4 F a0 a1 0 τ)
    · refine sm_seg C [(.aload 4, 0), (.iload_n 1, 0), (.aload 4, 0), (.iload_n 1, 0)] (pc' := 12) (L' := [(0, .int a0), (1, .int a1), (2, .ref t2), (3, .ref t3), (4, .ref t4)]) (S' := [.int a1, .ref t4, .int a1, .ref t4]) (by decide +kernel) rfl ?_
      refine sm_ncal "BasketEnvoys" [.ref t4, .int a1] [.int a1, .ref t4] rfl C mw_X10_entry ml_4_108 rfl ⟨by omega, by omega⟩ (Nat.le_of_ble_eq_true rfl) (by decide +kernel) (c_X10_entry F t4 h4 a1 τ) (fun r10 τ11 => ?_)
      refine sm_seg C [(.iconst 1, 1), (.iadd, 0), (.iconst 1, 1)] (pc' := 18) (L' := [(0, .int a0), (1, .int a1), (2, .ref t2), (3, .ref t3), (4, .ref t4)]) (S' := [.int 1, .int (r10 + 1), .int a1, .ref t4]) (by decide +kernel) rfl ?_
      refine sm_ncal "BasketEnvoys" [.ref t4, .int a1, .int (r10 + 1), .int 1] [] rfl C mw_X10_put ml_4_101 rfl ⟨by omega, by omega⟩ (Nat.le_of_ble_eq_true rfl) (by decide +kernel) (c_X10_put F t4 h4 a1 (r10 + 1) 1 τ11) (fun r12 τ13 => ?_)
      refine sm_seg C [(.pop, 0)] (pc' := 22) (L' := [(0, .int a0), (1, .int a1), (2, .ref t2), (3, .ref t3), (4, .ref t4)]) (S' := []) (by decide +kernel) rfl ?_
      exact sm_vret C hr (by decide +kernel)) h
def X4_paint (F : Nat) (t2 : Nat) (t3 : Nat) (t4 : Nat) : Nat → Int32 → Int32 → Tau → Option (Int32 × Tau)
  | 0, _, _, _ => none
  | n + 1, a0, a1, τ => X4_paint_B F (X4_paint F t2 t3 t4 n) t2 t3 t4 a0 a1 τ
theorem c_X4_paint (F : Nat) (t2 : Nat) (t3 : Nat) (t4 : Nat) (h2 : kdX t2 = 20) (h3 : kdX t3 = 20) (h4 : kdX t4 = 20) : ∀ (n : Nat) (a0 : Int32) (a1 : Int32) (τ : Tau) (r : Int32) (τ' : Tau) (h : X4_paint F t2 t3 t4 n a0 a1 τ = some (r, τ')), MCv sysX yX4_paint cX4_paint 6 (2 + 1 * n) [.int a0, .int a1, .ref t2, .ref t3, .ref t4] τ τ' := by
  intro n
  induction n with
  | zero => intro a0 a1 τ r τ' h; cases h
  | succ n ih =>
    intro a0 a1 τ r τ' h
    have h2 := c_X4_paint_B F t2 t3 t4 (X4_paint F t2 t3 t4 n) (2 + 1 * n) (by omega) ih h2 h3 h4 a0 a1 τ r τ' h
    rw [show 2 + 1 * (n + 1) = 2 + 1 * n + 1 by omega]
    exact h2
/-! BasketEnvoys_Riddles.paintAll -/
def X4_paintAll_L26 (F : Nat) : Nat → Int32 → Tau → Option (Int32 × Tau)
  | 0, _, _ => none
  | n + 1, a1, τ =>
    if (τ 26 0) ≤ a1 then (cal (X4_paint F 217 218 219 12 0 0 τ) fun r7 τ8 => some (0, τ8)) else (cal (X5_get F 26 a1 τ) fun r9 τ10 => cal (X5_get F 26 a1 τ10) fun r11 τ12 => cal (X10_entry F 217 (r9 / 8) τ12) fun r13 τ14 => cal (X10_put F 217 (r9 / 8) (r13 ||| (shl 1 (rmd r11 8))) 1 τ14) fun r15 τ16 => cal (X10_entry F 217 (rmd r11 8) τ16) fun r17 τ18 => cal (X10_put F 217 (rmd r11 8) (r17 ||| (shl 1 (r9 / 8))) 1 τ18) fun r19 τ20 => X4_paintAll_L26 F n (a1 + 1) τ20)
theorem s_X4_paintAll_L26 (F : Nat) {K : Ctx} (C : Cx K sysX RX4 cX4_paintAll 4 15) (hr : Rt K none) : ∀ (n : Nat) (a1 : Int32) (τ : Tau), Sm K sysX 4 (Qv K sysX) (X4_paintAll_L26 F n a1 τ) 26 [(0, .ref 213), (1, .int a1)] [] τ := by
  intro n
  induction n with
  | zero => intro a1 τ; exact sm_none
  | succ n ih =>
    intro a1 τ
    rw [X4_paintAll_L26]
    refine sm_seg C [(.iload_n 1, 0), (.aload_n 0, 0)] (pc' := 28) (L' := [(0, .ref 213), (1, .int a1)]) (S' := [.ref 213, .int a1]) (by decide +kernel) rfl ?_
    refine sm_getR 4 1 15 cls4 C (ltX (by decide +kernel : kdX 213 = 4) (by decide)) (by decide +kernel : kdX 213 = 4) (obX4 (by decide +kernel : kdX 213 = 4)) (by decide) (frX4_1 (by decide +kernel : kdX 213 = 4)) fl4_51 (by decide +kernel) ?_
    refine sm_getR 7 5 26 cls7 C (ltX (krX4_1 (by decide +kernel : kdX 213 = 4)) (by decide)) (krX4_1 (by decide +kernel : kdX 213 = 4)) (obX7 (krX4_1 (by decide +kernel : kdX 213 = 4))) (by decide) (frX7_5 (krX4_1 (by decide +kernel : kdX 213 = 4))) fl4_170 (by decide +kernel) ?_
    refine sm_getI 5 0 cls5 C (ltX (krX7_5 (krX4_1 (by decide +kernel : kdX 213 = 4))) (by decide)) (krX7_5 (krX4_1 (by decide +kernel : kdX 213 = 4))) (obX5 (krX7_5 (krX4_1 (by decide +kernel : kdX 213 = 4)))) (by decide) (fiX5_0 (krX7_5 (krX4_1 (by decide +kernel : kdX 213 = 4)))) fl4_68 (by decide +kernel) ?_
    refine sm_icmpge 120 (off := 83) C (by decide +kernel) (by decide) (fun _ => ?_) (fun _ => ?_)
    · refine sm_seg C [(.iconst 0, 0), (.iconst 0, 0), (.aload_n 0, 0)] (pc' := 123) (L' := [(0, .ref 213), (1, .int a1)]) (S' := [.ref 213, .int 0, .int 0]) (by decide +kernel) rfl ?_
      refine sm_getR 4 5 217 cls4 C (ltX (by decide +kernel : kdX 213 = 4) (by decide)) (by decide +kernel : kdX 213 = 4) (obX4 (by decide +kernel : kdX 213 = 4)) (by decide) (frX4_5 (by decide +kernel : kdX 213 = 4)) fl4_21 (by decide +kernel) ?_
      refine sm_seg C [(.aload_n 0, 0)] (pc' := 127) (L' := [(0, .ref 213), (1, .int a1)]) (S' := [.ref 213, .ref 217, .int 0, .int 0]) (by decide +kernel) rfl ?_
      refine sm_getR 4 6 218 cls4 C (ltX (by decide +kernel : kdX 213 = 4) (by decide)) (by decide +kernel : kdX 213 = 4) (obX4 (by decide +kernel : kdX 213 = 4)) (by decide) (frX4_6 (by decide +kernel : kdX 213 = 4)) fl4_24 (by decide +kernel) ?_
      refine sm_seg C [(.aload_n 0, 0)] (pc' := 131) (L' := [(0, .ref 213), (1, .int a1)]) (S' := [.ref 213, .ref 218, .ref 217, .int 0, .int 0]) (by decide +kernel) rfl ?_
      refine sm_getR 4 7 219 cls4 C (ltX (by decide +kernel : kdX 213 = 4) (by decide)) (by decide +kernel : kdX 213 = 4) (obX4 (by decide +kernel : kdX 213 = 4)) (by decide) (frX4_7 (by decide +kernel : kdX 213 = 4)) fl4_27 (by decide +kernel) ?_
      refine sm_scalv [.int 0, .int 0, .ref 217, .ref 218, .ref 219] [] rfl C mw_X4_paint ml_4_173 rfl ⟨by decide, by decide⟩ (Nat.le_of_ble_eq_true rfl) (by decide +kernel) (c_X4_paint F 217 218 219 (krX4_5 (by decide +kernel : kdX 213 = 4)) (krX4_6 (by decide +kernel : kdX 213 = 4)) (krX4_7 (by decide +kernel : kdX 213 = 4)) 12 0 0 τ) (fun r7 τ8 => ?_)
      exact sm_vret C hr (by decide +kernel)
    · refine sm_seg C [(.aload_n 0, 0)] (pc' := 41) (L' := [(0, .ref 213), (1, .int a1)]) (S' := [.ref 213]) (by decide +kernel) rfl ?_
      refine sm_getR 4 1 15 cls4 C (ltX (by decide +kernel : kdX 213 = 4) (by decide)) (by decide +kernel : kdX 213 = 4) (obX4 (by decide +kernel : kdX 213 = 4)) (by decide) (frX4_1 (by decide +kernel : kdX 213 = 4)) fl4_51 (by decide +kernel) ?_
      refine sm_getR 7 5 26 cls7 C (ltX (krX4_1 (by decide +kernel : kdX 213 = 4)) (by decide)) (krX4_1 (by decide +kernel : kdX 213 = 4)) (obX7 (krX4_1 (by decide +kernel : kdX 213 = 4))) (by decide) (frX7_5 (krX4_1 (by decide +kernel : kdX 213 = 4))) fl4_170 (by decide +kernel) ?_
      refine sm_seg C [(.iload_n 1, 0)] (pc' := 48) (L' := [(0, .ref 213), (1, .int a1)]) (S' := [.int a1, .ref 26]) (by decide +kernel) rfl ?_
      refine sm_vcal [.int a1] [] rfl C mw_X5_get ml_4_73 rfl (ci := 5) rfl (ltX (krX7_5 (krX4_1 (by decide +kernel : kdX 213 = 4))) (by decide)) (krX7_5 (krX4_1 (by decide +kernel : kdX 213 = 4))) (by decide) ⟨by decide, by decide⟩ (Nat.le_of_ble_eq_true rfl) (by decide +kernel) (c_X5_get F 26 (krX7_5 (krX4_1 (by decide +kernel : kdX 213 = 4))) a1 τ) (fun r9 τ10 => ?_)
      refine sm_seg C [(.bipush 8, 8)] (pc' := 53) (L' := [(0, .ref 213), (1, .int a1)]) (S' := [.int 8, .int r9]) (by decide +kernel) rfl ?_
      refine sm_idiv C (by decide +kernel) (by decide) ?_
      refine sm_seg C [(.istore_n 2, 0), (.aload_n 0, 0)] (pc' := 56) (L' := [(2, .int (r9 / 8)), (0, .ref 213), (1, .int a1)]) (S' := [.ref 213]) (by decide +kernel) rfl ?_
      refine sm_getR 4 1 15 cls4 C (ltX (by decide +kernel : kdX 213 = 4) (by decide)) (by decide +kernel : kdX 213 = 4) (obX4 (by decide +kernel : kdX 213 = 4)) (by decide) (frX4_1 (by decide +kernel : kdX 213 = 4)) fl4_51 (by decide +kernel) ?_
      refine sm_getR 7 5 26 cls7 C (ltX (krX4_1 (by decide +kernel : kdX 213 = 4)) (by decide)) (krX4_1 (by decide +kernel : kdX 213 = 4)) (obX7 (krX4_1 (by decide +kernel : kdX 213 = 4))) (by decide) (frX7_5 (krX4_1 (by decide +kernel : kdX 213 = 4))) fl4_170 (by decide +kernel) ?_
      refine sm_seg C [(.iload_n 1, 0)] (pc' := 63) (L' := [(2, .int (r9 / 8)), (0, .ref 213), (1, .int a1)]) (S' := [.int a1, .ref 26]) (by decide +kernel) rfl ?_
      refine sm_vcal [.int a1] [] rfl C mw_X5_get ml_4_73 rfl (ci := 5) rfl (ltX (krX7_5 (krX4_1 (by decide +kernel : kdX 213 = 4))) (by decide)) (krX7_5 (krX4_1 (by decide +kernel : kdX 213 = 4))) (by decide) ⟨by decide, by decide⟩ (Nat.le_of_ble_eq_true rfl) (by decide +kernel) (c_X5_get F 26 (krX7_5 (krX4_1 (by decide +kernel : kdX 213 = 4))) a1 τ10) (fun r11 τ12 => ?_)
      refine sm_seg C [(.bipush 8, 8)] (pc' := 68) (L' := [(2, .int (r9 / 8)), (0, .ref 213), (1, .int a1)]) (S' := [.int 8, .int r11]) (by decide +kernel) rfl ?_
      refine sm_irem C (by decide +kernel) (by decide) ?_
      refine sm_seg C [(.istore_n 3, 0), (.aload_n 0, 0)] (pc' := 71) (L' := [(3, .int (rmd r11 8)), (2, .int (r9 / 8)), (0, .ref 213), (1, .int a1)]) (S' := [.ref 213]) (by decide +kernel) rfl ?_
      refine sm_getR 4 5 217 cls4 C (ltX (by decide +kernel : kdX 213 = 4) (by decide)) (by decide +kernel : kdX 213 = 4) (obX4 (by decide +kernel : kdX 213 = 4)) (by decide) (frX4_5 (by decide +kernel : kdX 213 = 4)) fl4_21 (by decide +kernel) ?_
      refine sm_seg C [(.iload_n 2, 0), (.aload_n 0, 0)] (pc' := 76) (L' := [(3, .int (rmd r11 8)), (2, .int (r9 / 8)), (0, .ref 213), (1, .int a1)]) (S' := [.ref 213, .int (r9 / 8), .ref 217]) (by decide +kernel) rfl ?_
      refine sm_getR 4 5 217 cls4 C (ltX (by decide +kernel : kdX 213 = 4) (by decide)) (by decide +kernel : kdX 213 = 4) (obX4 (by decide +kernel : kdX 213 = 4)) (by decide) (frX4_5 (by decide +kernel : kdX 213 = 4)) fl4_21 (by decide +kernel) ?_
      refine sm_seg C [(.iload_n 2, 0)] (pc' := 80) (L' := [(3, .int (rmd r11 8)), (2, .int (r9 / 8)), (0, .ref 213), (1, .int a1)]) (S' := [.int (r9 / 8), .ref 217, .int (r9 / 8), .ref 217]) (by decide +kernel) rfl ?_
      refine sm_ncal "BasketEnvoys" [.ref 217, .int (r9 / 8)] [.int (r9 / 8), .ref 217] rfl C mw_X10_entry ml_4_108 rfl ⟨by decide, by decide⟩ (Nat.le_of_ble_eq_true rfl) (by decide +kernel) (c_X10_entry F 217 (krX4_5 (by decide +kernel : kdX 213 = 4)) (r9 / 8) τ12) (fun r13 τ14 => ?_)
      refine sm_seg C [(.iconst 1, 1), (.iload_n 3, 0), (.ishl, 0), (.ior, 0), (.iconst 1, 1)] (pc' := 88) (L' := [(3, .int (rmd r11 8)), (2, .int (r9 / 8)), (0, .ref 213), (1, .int a1)]) (S' := [.int 1, .int (r13 ||| (shl 1 (rmd r11 8))), .int (r9 / 8), .ref 217]) (by decide +kernel) rfl ?_
      refine sm_ncal "BasketEnvoys" [.ref 217, .int (r9 / 8), .int (r13 ||| (shl 1 (rmd r11 8))), .int 1] [] rfl C mw_X10_put ml_4_101 rfl ⟨by decide, by decide⟩ (Nat.le_of_ble_eq_true rfl) (by decide +kernel) (c_X10_put F 217 (krX4_5 (by decide +kernel : kdX 213 = 4)) (r9 / 8) (r13 ||| (shl 1 (rmd r11 8))) 1 τ14) (fun r15 τ16 => ?_)
      refine sm_seg C [(.pop, 0), (.aload_n 0, 0)] (pc' := 93) (L' := [(3, .int (rmd r11 8)), (2, .int (r9 / 8)), (0, .ref 213), (1, .int a1)]) (S' := [.ref 213]) (by decide +kernel) rfl ?_
      refine sm_getR 4 5 217 cls4 C (ltX (by decide +kernel : kdX 213 = 4) (by decide)) (by decide +kernel : kdX 213 = 4) (obX4 (by decide +kernel : kdX 213 = 4)) (by decide) (frX4_5 (by decide +kernel : kdX 213 = 4)) fl4_21 (by decide +kernel) ?_
      refine sm_seg C [(.iload_n 3, 0), (.aload_n 0, 0)] (pc' := 98) (L' := [(3, .int (rmd r11 8)), (2, .int (r9 / 8)), (0, .ref 213), (1, .int a1)]) (S' := [.ref 213, .int (rmd r11 8), .ref 217]) (by decide +kernel) rfl ?_
      refine sm_getR 4 5 217 cls4 C (ltX (by decide +kernel : kdX 213 = 4) (by decide)) (by decide +kernel : kdX 213 = 4) (obX4 (by decide +kernel : kdX 213 = 4)) (by decide) (frX4_5 (by decide +kernel : kdX 213 = 4)) fl4_21 (by decide +kernel) ?_
      refine sm_seg C [(.iload_n 3, 0)] (pc' := 102) (L' := [(3, .int (rmd r11 8)), (2, .int (r9 / 8)), (0, .ref 213), (1, .int a1)]) (S' := [.int (rmd r11 8), .ref 217, .int (rmd r11 8), .ref 217]) (by decide +kernel) rfl ?_
      refine sm_ncal "BasketEnvoys" [.ref 217, .int (rmd r11 8)] [.int (rmd r11 8), .ref 217] rfl C mw_X10_entry ml_4_108 rfl ⟨by decide, by decide⟩ (Nat.le_of_ble_eq_true rfl) (by decide +kernel) (c_X10_entry F 217 (krX4_5 (by decide +kernel : kdX 213 = 4)) (rmd r11 8) τ16) (fun r17 τ18 => ?_)
      refine sm_seg C [(.iconst 1, 1), (.iload_n 2, 0), (.ishl, 0), (.ior, 0), (.iconst 1, 1)] (pc' := 110) (L' := [(3, .int (rmd r11 8)), (2, .int (r9 / 8)), (0, .ref 213), (1, .int a1)]) (S' := [.int 1, .int (r17 ||| (shl 1 (r9 / 8))), .int (rmd r11 8), .ref 217]) (by decide +kernel) rfl ?_
      refine sm_ncal "BasketEnvoys" [.ref 217, .int (rmd r11 8), .int (r17 ||| (shl 1 (r9 / 8))), .int 1] [] rfl C mw_X10_put ml_4_101 rfl ⟨by decide, by decide⟩ (Nat.le_of_ble_eq_true rfl) (by decide +kernel) (c_X10_put F 217 (krX4_5 (by decide +kernel : kdX 213 = 4)) (rmd r11 8) (r17 ||| (shl 1 (r9 / 8))) 1 τ18) (fun r19 τ20 => ?_)
      refine sm_seg C [(.pop, 0), (.iinc 1 1, 1), (.goto (-91), 0)] (pc' := 26) (L' := [(1, .int (a1 + 1)), (3, .int (rmd r11 8)), (2, .int (r9 / 8)), (0, .ref 213)]) (S' := []) (by decide +kernel) rfl ?_
      exact sm_sub [3, 0] rfl (ih (a1 + 1) τ20)
def X4_paintAll (F : Nat) (τ : Tau) : Option (Int32 × Tau) :=
  cal (X_Arrays_fill___II_V F 217 0 τ) fun r1 τ2 => cal (X_Arrays_fill___II_V F 218 0 τ2) fun r3 τ4 => cal (X_Arrays_fill___II_V F 219 0 τ4) fun r5 τ6 => X4_paintAll_L26 F F 0 τ6
set_option maxRecDepth 20000 in
set_option maxHeartbeats 4000000 in
theorem c_X4_paintAll (F : Nat) (τ : Tau) (r : Int32) (τ' : Tau) (h : X4_paintAll F τ = some (r, τ')) : MCv sysX yX4_paintAll cX4_paintAll 4 15 [.ref 213] τ τ' :=
  mcv_of (by decide +kernel) (Nat.le_of_ble_eq_true rfl) (fun K C hr => by
    show Sm K sysX 4 (Qv K sysX) (X4_paintAll F τ) 0 [(0, .ref 213)] [] τ
    unfold X4_paintAll
    refine sm_seg C [(.aload_n 0, 0)] (pc' := 1) (L' := [(0, .ref 213)]) (S' := [.ref 213]) (by decide +kernel) rfl ?_
    refine sm_getR 4 5 217 cls4 C (ltX (by decide +kernel : kdX 213 = 4) (by decide)) (by decide +kernel : kdX 213 = 4) (obX4 (by decide +kernel : kdX 213 = 4)) (by decide) (frX4_5 (by decide +kernel : kdX 213 = 4)) fl4_21 (by decide +kernel) ?_
    refine sm_seg C [(.iconst 0, 0)] (pc' := 5) (L' := [(0, .ref 213)]) (S' := [.int 0, .ref 217]) (by decide +kernel) rfl ?_
    refine sm_scalv [.ref 217, .int 0] [] rfl C mw_Arrays_fill___II_V ml_4_149 rfl ⟨by decide, by decide⟩ (Nat.le_of_ble_eq_true rfl) (by decide +kernel) (c_X_Arrays_fill___II_V F 217 (krX4_5 (by decide +kernel : kdX 213 = 4)) 0 τ) (fun r1 τ2 => ?_)
    refine sm_seg C [(.aload_n 0, 0)] (pc' := 9) (L' := [(0, .ref 213)]) (S' := [.ref 213]) (by decide +kernel) rfl ?_
    refine sm_getR 4 6 218 cls4 C (ltX (by decide +kernel : kdX 213 = 4) (by decide)) (by decide +kernel : kdX 213 = 4) (obX4 (by decide +kernel : kdX 213 = 4)) (by decide) (frX4_6 (by decide +kernel : kdX 213 = 4)) fl4_24 (by decide +kernel) ?_
    refine sm_seg C [(.iconst 0, 0)] (pc' := 13) (L' := [(0, .ref 213)]) (S' := [.int 0, .ref 218]) (by decide +kernel) rfl ?_
    refine sm_scalv [.ref 218, .int 0] [] rfl C mw_Arrays_fill___II_V ml_4_149 rfl ⟨by decide, by decide⟩ (Nat.le_of_ble_eq_true rfl) (by decide +kernel) (c_X_Arrays_fill___II_V F 218 (krX4_6 (by decide +kernel : kdX 213 = 4)) 0 τ2) (fun r3 τ4 => ?_)
    refine sm_seg C [(.aload_n 0, 0)] (pc' := 17) (L' := [(0, .ref 213)]) (S' := [.ref 213]) (by decide +kernel) rfl ?_
    refine sm_getR 4 7 219 cls4 C (ltX (by decide +kernel : kdX 213 = 4) (by decide)) (by decide +kernel : kdX 213 = 4) (obX4 (by decide +kernel : kdX 213 = 4)) (by decide) (frX4_7 (by decide +kernel : kdX 213 = 4)) fl4_27 (by decide +kernel) ?_
    refine sm_seg C [(.iconst 0, 0)] (pc' := 21) (L' := [(0, .ref 213)]) (S' := [.int 0, .ref 219]) (by decide +kernel) rfl ?_
    refine sm_scalv [.ref 219, .int 0] [] rfl C mw_Arrays_fill___II_V ml_4_149 rfl ⟨by decide, by decide⟩ (Nat.le_of_ble_eq_true rfl) (by decide +kernel) (c_X_Arrays_fill___II_V F 219 (krX4_7 (by decide +kernel : kdX 213 = 4)) 0 τ4) (fun r5 τ6 => ?_)
    refine sm_seg C [(.iconst 0, 0), (.istore_n 1, 0)] (pc' := 26) (L' := [(1, .int 0), (0, .ref 213)]) (S' := []) (by decide +kernel) rfl ?_
    exact sm_sub [1, 0] rfl (s_X4_paintAll_L26 F C hr F 0 τ6)) h
/-! BasketEnvoys_Riddles.fewestColours -/
def X4_fewestColours_L6 (F : Nat) : Nat → Int32 → Tau → Option (Int32 × Tau)
  | 0, _, _ => none
  | n + 1, a1, τ =>
    if 5 < a1 then (some ((-1), τ)) else (ald τ 219 6 a1 fun v3 => if v3 ≤ 0 then (X4_fewestColours_L6 F n (a1 + 1) τ) else (some (a1, τ)))
theorem s_X4_fewestColours_L6 (F : Nat) {K : Ctx} (C : Cx K sysX RX4 cX4_fewestColours 2 16) (hr : Rt K (some .int)) : ∀ (n : Nat) (a1 : Int32) (τ : Tau), Sm K sysX 2 (Qi K sysX) (X4_fewestColours_L6 F n a1 τ) 6 [(0, .ref 213), (1, .int a1)] [] τ := by
  intro n
  induction n with
  | zero => intro a1 τ; exact sm_none
  | succ n ih =>
    intro a1 τ
    rw [X4_fewestColours_L6]
    refine sm_seg C [(.iload_n 1, 0), (.iconst 5, 5)] (pc' := 8) (L' := [(0, .ref 213), (1, .int a1)]) (S' := [.int 5, .int a1]) (by decide +kernel) rfl ?_
    refine sm_icmpgt 28 (off := 20) C (by decide +kernel) (by decide) (fun _ => ?_) (fun _ => ?_)
    · refine sm_seg C [(.iconst (-1), (-1))] (pc' := 29) (L' := [(0, .ref 213), (1, .int a1)]) (S' := [.int (-1)]) (by decide +kernel) rfl ?_
      exact sm_iret C hr rfl (by decide +kernel)
    · refine sm_seg C [(.aload_n 0, 0)] (pc' := 12) (L' := [(0, .ref 213), (1, .int a1)]) (S' := [.ref 213]) (by decide +kernel) rfl ?_
      refine sm_getR 4 7 219 cls4 C (ltX (by decide +kernel : kdX 213 = 4) (by decide)) (by decide +kernel : kdX 213 = 4) (obX4 (by decide +kernel : kdX 213 = 4)) (by decide) (frX4_7 (by decide +kernel : kdX 213 = 4)) fl4_27 (by decide +kernel) ?_
      refine sm_seg C [(.iload_n 1, 0)] (pc' := 16) (L' := [(0, .ref 213), (1, .int a1)]) (S' := [.int a1, .ref 219]) (by decide +kernel) rfl ?_
      refine sm_ald 6 C (ltX (krX4_7 (by decide +kernel : kdX 213 = 4)) (by decide)) (krX4_7 (by decide +kernel : kdX 213 = 4)) (nrX4_7 (by decide +kernel : kdX 213 = 4)) (by decide +kernel) (fun v3 => ?_)
      refine sm_ifle 22 (off := 5) C (by decide +kernel) (by decide) (fun _ => ?_) (fun _ => ?_)
      · refine sm_seg C [(.iinc 1 1, 1), (.goto (-19), 0)] (pc' := 6) (L' := [(1, .int (a1 + 1)), (0, .ref 213)]) (S' := []) (by decide +kernel) rfl ?_
        exact sm_sub [1, 0] rfl (ih (a1 + 1) τ)
      · refine sm_seg C [(.iload_n 1, 0)] (pc' := 21) (L' := [(0, .ref 213), (1, .int a1)]) (S' := [.int a1]) (by decide +kernel) rfl ?_
        exact sm_iret C hr rfl (by decide +kernel)
def X4_fewestColours (F : Nat) (τ : Tau) : Option (Int32 × Tau) :=
  cal (X4_paintAll F τ) fun r1 τ2 => X4_fewestColours_L6 F F 1 τ2
set_option maxRecDepth 20000 in
set_option maxHeartbeats 4000000 in
theorem c_X4_fewestColours (F : Nat) (τ : Tau) (r : Int32) (τ' : Tau) (h : X4_fewestColours F τ = some (r, τ')) : MCi sysX yX4_fewestColours cX4_fewestColours 2 (some .int) 16 [.ref 213] τ r τ' :=
  mci_of (by decide +kernel) (Nat.le_of_ble_eq_true rfl) (fun K C hr => by
    show Sm K sysX 2 (Qi K sysX) (X4_fewestColours F τ) 0 [(0, .ref 213)] [] τ
    unfold X4_fewestColours
    refine sm_seg C [(.aload_n 0, 0)] (pc' := 1) (L' := [(0, .ref 213)]) (S' := [.ref 213]) (by decide +kernel) rfl ?_
    refine sm_vcalv [] [] rfl C mw_X4_paintAll ml_4_167 rfl (ci := 4) rfl (ltX (by decide +kernel : kdX 213 = 4) (by decide)) (by decide +kernel : kdX 213 = 4) (by decide) ⟨by decide, by decide⟩ (Nat.le_of_ble_eq_true rfl) (by decide +kernel) (c_X4_paintAll F τ) (fun r1 τ2 => ?_)
    refine sm_seg C [(.iconst 1, 1), (.istore_n 1, 0)] (pc' := 6) (L' := [(1, .int 1), (0, .ref 213)]) (S' := []) (by decide +kernel) rfl ?_
    exact sm_sub [1, 0] rfl (s_X4_fewestColours_L6 F C hr F 1 τ2)) h
