/-! BasketEnvoys_Riddles.waysPainted -/
def X4_waysPainted_L11 (F : Nat) : Nat → Int32 → Int32 → Int32 → Int32 → Tau → Option (Int32 × Tau)
  | 0, _, _, _, _, _ => none
  | n + 1, a1, a2, a3, a4, τ =>
    if a1 < a4 then (some (a2, τ)) else (if 5 < a4 then (some (a2, τ)) else (ald τ 219 6 a4 fun v3 => X4_waysPainted_L11 F n a1 (a2 + ((a3 * ((a1 - a4) + 1)) * v3)) (a3 * ((a1 - a4) + 1)) (a4 + 1) τ))
theorem s_X4_waysPainted_L11 (F : Nat) {K : Ctx} (C : Cx K sysX RX4 cX4_waysPainted 5 16) (hr : Rt K (some .int)) : ∀ (n : Nat) (a1 : Int32) (a2 : Int32) (a3 : Int32) (a4 : Int32) (τ : Tau), Sm K sysX 5 (Qi K sysX) (X4_waysPainted_L11 F n a1 a2 a3 a4 τ) 11 [(0, .ref 213), (1, .int a1), (2, .int a2), (3, .int a3), (4, .int a4)] [] τ := by
  intro n
  induction n with
  | zero => intro a1 a2 a3 a4 τ; exact sm_none
  | succ n ih =>
    intro a1 a2 a3 a4 τ
    rw [X4_waysPainted_L11]
    refine sm_seg C [(.iload 4, 0), (.iload_n 1, 0)] (pc' := 14) (L' := [(0, .ref 213), (1, .int a1), (2, .int a2), (3, .int a3), (4, .int a4)]) (S' := [.int a1, .int a4]) (by decide +kernel) rfl ?_
    refine sm_icmpgt 50 (off := 36) C (by decide +kernel) (by decide) (fun _ => ?_) (fun _ => ?_)
    · refine sm_seg C [(.iload_n 2, 0)] (pc' := 51) (L' := [(0, .ref 213), (1, .int a1), (2, .int a2), (3, .int a3), (4, .int a4)]) (S' := [.int a2]) (by decide +kernel) rfl ?_
      exact sm_iret C hr rfl (by decide +kernel)
    · refine sm_seg C [(.iload 4, 0), (.iconst 5, 5)] (pc' := 20) (L' := [(0, .ref 213), (1, .int a1), (2, .int a2), (3, .int a3), (4, .int a4)]) (S' := [.int 5, .int a4]) (by decide +kernel) rfl ?_
      refine sm_icmpgt 50 (off := 30) C (by decide +kernel) (by decide) (fun _ => ?_) (fun _ => ?_)
      · refine sm_seg C [(.iload_n 2, 0)] (pc' := 51) (L' := [(0, .ref 213), (1, .int a1), (2, .int a2), (3, .int a3), (4, .int a4)]) (S' := [.int a2]) (by decide +kernel) rfl ?_
        exact sm_iret C hr rfl (by decide +kernel)
      · refine sm_seg C [(.iload_n 3, 0), (.iload_n 1, 0), (.iload 4, 0), (.isub, 0), (.iconst 1, 1), (.iadd, 0), (.imul, 0), (.istore_n 3, 0), (.iload_n 2, 0), (.iload_n 3, 0), (.aload_n 0, 0)] (pc' := 35) (L' := [(3, .int (a3 * ((a1 - a4) + 1))), (0, .ref 213), (1, .int a1), (2, .int a2), (4, .int a4)]) (S' := [.ref 213, .int (a3 * ((a1 - a4) + 1)), .int a2]) (by decide +kernel) rfl ?_
        refine sm_getR 4 7 219 cls4 C (ltX (by decide +kernel : kdX 213 = 4) (by decide)) (by decide +kernel : kdX 213 = 4) (obX4 (by decide +kernel : kdX 213 = 4)) (by decide) (frX4_7 (by decide +kernel : kdX 213 = 4)) fl4_27 (by decide +kernel) ?_
        refine sm_seg C [(.iload 4, 0)] (pc' := 40) (L' := [(3, .int (a3 * ((a1 - a4) + 1))), (0, .ref 213), (1, .int a1), (2, .int a2), (4, .int a4)]) (S' := [.int a4, .ref 219, .int (a3 * ((a1 - a4) + 1)), .int a2]) (by decide +kernel) rfl ?_
        refine sm_ald 6 C (ltX (krX4_7 (by decide +kernel : kdX 213 = 4)) (by decide)) (krX4_7 (by decide +kernel : kdX 213 = 4)) (nrX4_7 (by decide +kernel : kdX 213 = 4)) (by decide +kernel) (fun v3 => ?_)
        refine sm_seg C [(.imul, 0), (.iadd, 0), (.istore_n 2, 0), (.iinc 4 1, 1), (.goto (-36), 0)] (pc' := 11) (L' := [(4, .int (a4 + 1)), (2, .int (a2 + ((a3 * ((a1 - a4) + 1)) * v3))), (3, .int (a3 * ((a1 - a4) + 1))), (0, .ref 213), (1, .int a1)]) (S' := []) (by decide +kernel) rfl ?_
        exact sm_sub [3, 4, 1, 2, 0] rfl (ih a1 (a2 + ((a3 * ((a1 - a4) + 1)) * v3)) (a3 * ((a1 - a4) + 1)) (a4 + 1) τ)
def X4_waysPainted (F : Nat) (a1 : Int32) (τ : Tau) : Option (Int32 × Tau) :=
  cal (X4_paintAll F τ) fun r1 τ2 => X4_waysPainted_L11 F F a1 0 1 1 τ2
set_option maxRecDepth 20000 in
set_option maxHeartbeats 4000000 in
theorem c_X4_waysPainted (F : Nat) (a1 : Int32) (τ : Tau) (r : Int32) (τ' : Tau) (h : X4_waysPainted F a1 τ = some (r, τ')) : MCi sysX yX4_waysPainted cX4_waysPainted 5 (some .int) 16 [.ref 213, .int a1] τ r τ' :=
  mci_of (by decide +kernel) (Nat.le_of_ble_eq_true rfl) (fun K C hr => by
    show Sm K sysX 5 (Qi K sysX) (X4_waysPainted F a1 τ) 0 [(0, .ref 213), (1, .int a1)] [] τ
    unfold X4_waysPainted
    refine sm_seg C [(.aload_n 0, 0)] (pc' := 1) (L' := [(0, .ref 213), (1, .int a1)]) (S' := [.ref 213]) (by decide +kernel) rfl ?_
    refine sm_vcalv [] [] rfl C mw_X4_paintAll ml_4_167 rfl (ci := 4) rfl (ltX (by decide +kernel : kdX 213 = 4) (by decide)) (by decide +kernel : kdX 213 = 4) (by decide) ⟨by decide, by decide⟩ (Nat.le_of_ble_eq_true rfl) (by decide +kernel) (c_X4_paintAll F τ) (fun r1 τ2 => ?_)
    refine sm_seg C [(.iconst 0, 0), (.istore_n 2, 0), (.iconst 1, 1), (.istore_n 3, 0), (.iconst 1, 1), (.istore 4, 0)] (pc' := 11) (L' := [(4, .int 1), (3, .int 1), (2, .int 0), (0, .ref 213), (1, .int a1)]) (S' := []) (by decide +kernel) rfl ?_
    exact sm_sub [3, 4, 2, 1, 0] rfl (s_X4_waysPainted_L11 F C hr F a1 0 1 1 τ2)) h
/-! BasketEnvoys.map -/
def X10_map (F : Nat) (a1 : Int32) (τ : Tau) : Option (Int32 × Tau) :=
  if a1 = (-1) then (cal (X4_fewestColours F τ) fun r1 τ2 => some (r1, τ2)) else (cal (X10_within F a1 0 5 τ) fun r3 τ4 => if r3 = 0 then (some ((-1), τ4)) else (cal (X4_waysPainted F a1 τ4) fun r5 τ6 => some (r5, τ6)))
set_option maxRecDepth 20000 in
set_option maxHeartbeats 4000000 in
theorem c_X10_map (F : Nat) (a1 : Int32) (τ : Tau) (r : Int32) (τ' : Tau) (h : X10_map F a1 τ = some (r, τ')) : MCi sysX yX10_map cX10_map 2 (some .int) 17 [.ref 0, .int a1] τ r τ' :=
  mci_of (by decide +kernel) (Nat.le_of_ble_eq_true rfl) (fun K C hr => by
    show Sm K sysX 2 (Qi K sysX) (X10_map F a1 τ) 0 [(0, .ref 0), (1, .int a1)] [] τ
    unfold X10_map
    refine sm_seg C [(.iload_n 1, 0), (.iconst (-1), (-1))] (pc' := 2) (L' := [(0, .ref 0), (1, .int a1)]) (S' := [.int (-1), .int a1]) (by decide +kernel) rfl ?_
    refine sm_icmpne 13 (off := 11) C (by decide +kernel) (by decide) (fun _ => ?_) (fun _ => ?_)
    · refine sm_seg C [(.aload_n 0, 0)] (pc' := 6) (L' := [(0, .ref 0), (1, .int a1)]) (S' := [.ref 0]) (by decide +kernel) rfl ?_
      refine sm_getR 10 7 213 cls10 C (ltX (by decide +kernel : kdX 0 = 10) (by decide)) (by decide +kernel : kdX 0 = 10) (obX10 (by decide +kernel : kdX 0 = 10)) (by decide) (frX10_7 (by decide +kernel : kdX 0 = 10)) fl10_56 (by decide +kernel) ?_
      refine sm_vcal [] [] rfl C mw_X4_fewestColours ml_10_366 rfl (ci := 4) rfl (ltX (krX10_7 (by decide +kernel : kdX 0 = 10)) (by decide)) (krX10_7 (by decide +kernel : kdX 0 = 10)) (by decide) ⟨by decide, by decide⟩ (Nat.le_of_ble_eq_true rfl) (by decide +kernel) (c_X4_fewestColours F τ) (fun r1 τ2 => ?_)
      exact sm_iret C hr rfl (by decide +kernel)
    · refine sm_seg C [(.iload_n 1, 0), (.iconst 0, 0), (.iconst 5, 5)] (pc' := 16) (L' := [(0, .ref 0), (1, .int a1)]) (S' := [.int 5, .int 0, .int a1]) (by decide +kernel) rfl ?_
      refine sm_scal [.int a1, .int 0, .int 5] [] rfl C mw_X10_within ml_10_70 rfl ⟨by decide, by decide⟩ (Nat.le_of_ble_eq_true rfl) (by decide +kernel) (c_X10_within F a1 0 5 τ) (fun r3 τ4 => ?_)
      refine sm_ifeq 33 (off := 14) C (by decide +kernel) (by decide) (fun _ => ?_) (fun _ => ?_)
      · refine sm_seg C [(.iconst (-1), (-1))] (pc' := 34) (L' := [(0, .ref 0), (1, .int a1)]) (S' := [.int (-1)]) (by decide +kernel) rfl ?_
        exact sm_iret C hr rfl (by decide +kernel)
      · refine sm_seg C [(.aload_n 0, 0)] (pc' := 23) (L' := [(0, .ref 0), (1, .int a1)]) (S' := [.ref 0]) (by decide +kernel) rfl ?_
        refine sm_getR 10 7 213 cls10 C (ltX (by decide +kernel : kdX 0 = 10) (by decide)) (by decide +kernel : kdX 0 = 10) (obX10 (by decide +kernel : kdX 0 = 10)) (by decide) (frX10_7 (by decide +kernel : kdX 0 = 10)) fl10_56 (by decide +kernel) ?_
        refine sm_seg C [(.iload_n 1, 0)] (pc' := 27) (L' := [(0, .ref 0), (1, .int a1)]) (S' := [.int a1, .ref 213]) (by decide +kernel) rfl ?_
        refine sm_vcal [.int a1] [] rfl C mw_X4_waysPainted ml_10_369 rfl (ci := 4) rfl (ltX (krX10_7 (by decide +kernel : kdX 0 = 10)) (by decide)) (krX10_7 (by decide +kernel : kdX 0 = 10)) (by decide) ⟨by decide, by decide⟩ (Nat.le_of_ble_eq_true rfl) (by decide +kernel) (c_X4_waysPainted F a1 τ4) (fun r5 τ6 => ?_)
        refine sm_seg C [(.goto 4, 0)] (pc' := 34) (L' := [(0, .ref 0), (1, .int a1)]) (S' := [.int r5]) (by decide +kernel) rfl ?_
        exact sm_iret C hr rfl (by decide +kernel)) h
/-! BasketEnvoys_Town.addMute -/
def X8_addMute_j48 (F : Nat) (t0 : Nat) (z0 : Int32) (z1 : Int32) (τ : Tau) : Option (Int32 × Tau) :=
  ast τ (t0 + 7) 14 z1 z0 fun τ3 => ast τ3 (t0 + 8) 14 (τ3 t0 1) (-1) fun τ4 => ast τ4 (t0 + 9) 14 (τ4 t0 1) 0 fun τ5 => ast τ5 (t0 + 10) 14 (τ5 t0 1) 0 fun τ6 => ast τ6 (t0 + 11) 14 (τ6 t0 1) 0 fun τ7 => pst τ7 t0 1 ((τ7 t0 1) + 1) fun τ8 => some (((τ8 t0 1) - 1), τ8)
theorem s_X8_addMute_j48 (F : Nat) (t0 : Nat) {K : Ctx} (C : Cx K sysX RX8 cX8_addMute 4 1) (hr : Rt K (some .int)) (h0 : kdX t0 = 8) (z0 : Int32) (z1 : Int32) (τ : Tau) : Sm K sysX 4 (Qi K sysX) (X8_addMute_j48 F t0 z0 z1 τ) 48 [(0, .ref t0)] [.int z0, .int z1, .ref (t0 + 7)] τ := by
  unfold X8_addMute_j48
  refine sm_ast 14 C (ltX (krX8_13 h0) (by decide)) (krX8_13 h0) (nrX8_13 h0) (by decide +kernel) (fun τ3 => ?_)
  refine sm_seg C [(.aload_n 0, 0)] (pc' := 50) (L' := [(0, .ref t0)]) (S' := [.ref t0]) (by decide +kernel) rfl ?_
  refine sm_getR 8 14 (t0 + 8) cls8 C (ltX h0 (by decide)) h0 (obX8 h0) (by decide) (frX8_14 h0) fl8_55 (by decide +kernel) ?_
  refine sm_seg C [(.aload_n 0, 0)] (pc' := 54) (L' := [(0, .ref t0)]) (S' := [.ref t0, .ref (t0 + 8)]) (by decide +kernel) rfl ?_
  refine sm_getI 8 1 cls8 C (ltX h0 (by decide)) h0 (obX8 h0) (by decide) (fiX8_1 h0) fl8_15 (by decide +kernel) ?_
  refine sm_seg C [(.iconst (-1), (-1))] (pc' := 58) (L' := [(0, .ref t0)]) (S' := [.int (-1), .int (τ3 t0 1), .ref (t0 + 8)]) (by decide +kernel) rfl ?_
  refine sm_ast 14 C (ltX (krX8_14 h0) (by decide)) (krX8_14 h0) (nrX8_14 h0) (by decide +kernel) (fun τ4 => ?_)
  refine sm_seg C [(.aload_n 0, 0)] (pc' := 60) (L' := [(0, .ref t0)]) (S' := [.ref t0]) (by decide +kernel) rfl ?_
  refine sm_getR 8 15 (t0 + 9) cls8 C (ltX h0 (by decide)) h0 (obX8 h0) (by decide) (frX8_15 h0) fl8_58 (by decide +kernel) ?_
  refine sm_seg C [(.aload_n 0, 0)] (pc' := 64) (L' := [(0, .ref t0)]) (S' := [.ref t0, .ref (t0 + 9)]) (by decide +kernel) rfl ?_
  refine sm_getI 8 1 cls8 C (ltX h0 (by decide)) h0 (obX8 h0) (by decide) (fiX8_1 h0) fl8_15 (by decide +kernel) ?_
  refine sm_seg C [(.iconst 0, 0)] (pc' := 68) (L' := [(0, .ref t0)]) (S' := [.int 0, .int (τ4 t0 1), .ref (t0 + 9)]) (by decide +kernel) rfl ?_
  refine sm_ast 14 C (ltX (krX8_15 h0) (by decide)) (krX8_15 h0) (nrX8_15 h0) (by decide +kernel) (fun τ5 => ?_)
  refine sm_seg C [(.aload_n 0, 0)] (pc' := 70) (L' := [(0, .ref t0)]) (S' := [.ref t0]) (by decide +kernel) rfl ?_
  refine sm_getR 8 16 (t0 + 10) cls8 C (ltX h0 (by decide)) h0 (obX8 h0) (by decide) (frX8_16 h0) fl8_61 (by decide +kernel) ?_
  refine sm_seg C [(.aload_n 0, 0)] (pc' := 74) (L' := [(0, .ref t0)]) (S' := [.ref t0, .ref (t0 + 10)]) (by decide +kernel) rfl ?_
  refine sm_getI 8 1 cls8 C (ltX h0 (by decide)) h0 (obX8 h0) (by decide) (fiX8_1 h0) fl8_15 (by decide +kernel) ?_
  refine sm_seg C [(.iconst 0, 0)] (pc' := 78) (L' := [(0, .ref t0)]) (S' := [.int 0, .int (τ5 t0 1), .ref (t0 + 10)]) (by decide +kernel) rfl ?_
  refine sm_ast 14 C (ltX (krX8_16 h0) (by decide)) (krX8_16 h0) (nrX8_16 h0) (by decide +kernel) (fun τ6 => ?_)
  refine sm_seg C [(.aload_n 0, 0)] (pc' := 80) (L' := [(0, .ref t0)]) (S' := [.ref t0]) (by decide +kernel) rfl ?_
  refine sm_getR 8 17 (t0 + 11) cls8 C (ltX h0 (by decide)) h0 (obX8 h0) (by decide) (frX8_17 h0) fl8_64 (by decide +kernel) ?_
  refine sm_seg C [(.aload_n 0, 0)] (pc' := 84) (L' := [(0, .ref t0)]) (S' := [.ref t0, .ref (t0 + 11)]) (by decide +kernel) rfl ?_
  refine sm_getI 8 1 cls8 C (ltX h0 (by decide)) h0 (obX8 h0) (by decide) (fiX8_1 h0) fl8_15 (by decide +kernel) ?_
  refine sm_seg C [(.iconst 0, 0)] (pc' := 88) (L' := [(0, .ref t0)]) (S' := [.int 0, .int (τ6 t0 1), .ref (t0 + 11)]) (by decide +kernel) rfl ?_
  refine sm_ast 14 C (ltX (krX8_17 h0) (by decide)) (krX8_17 h0) (nrX8_17 h0) (by decide +kernel) (fun τ7 => ?_)
  refine sm_seg C [(.aload_n 0, 0), (.dup, 0)] (pc' := 91) (L' := [(0, .ref t0)]) (S' := [.ref t0, .ref t0]) (by decide +kernel) rfl ?_
  refine sm_getI 8 1 cls8 C (ltX h0 (by decide)) h0 (obX8 h0) (by decide) (fiX8_1 h0) fl8_15 (by decide +kernel) ?_
  refine sm_seg C [(.iconst 1, 1), (.iadd, 0)] (pc' := 96) (L' := [(0, .ref t0)]) (S' := [.int ((τ7 t0 1) + 1), .ref t0]) (by decide +kernel) rfl ?_
  refine sm_pst 8 1 cls8 C (ltX h0 (by decide)) h0 (obX8 h0) (by decide) (fiX8_1 h0) rfl rfl rfl fl8_15 (by decide +kernel) (fun τ8 => ?_)
  refine sm_seg C [(.aload_n 0, 0)] (pc' := 100) (L' := [(0, .ref t0)]) (S' := [.ref t0]) (by decide +kernel) rfl ?_
  refine sm_getI 8 1 cls8 C (ltX h0 (by decide)) h0 (obX8 h0) (by decide) (fiX8_1 h0) fl8_15 (by decide +kernel) ?_
  refine sm_seg C [(.iconst 1, 1), (.isub, 0)] (pc' := 105) (L' := [(0, .ref t0)]) (S' := [.int ((τ8 t0 1) - 1)]) (by decide +kernel) rfl ?_
  exact sm_iret C hr rfl (by decide +kernel)
def X8_addMute (F : Nat) (t0 : Nat) (a1 : Int32) (a2 : Int32) (a3 : Int32) (τ : Tau) : Option (Int32 × Tau) :=
  if (τ t0 1) < 14 then (ast τ (t0 + 5) 14 (τ t0 1) a1 fun τ1 => ast τ1 (t0 + 6) 14 (τ1 t0 1) a2 fun τ2 => if a3 = 0 then (X8_addMute_j48 F t0 0 (τ2 t0 1) τ2) else (X8_addMute_j48 F t0 1 (τ2 t0 1) τ2)) else (some ((-1), τ))
set_option maxRecDepth 20000 in
set_option maxHeartbeats 4000000 in
theorem c_X8_addMute (F : Nat) (t0 : Nat) (h0 : kdX t0 = 8) (a1 : Int32) (a2 : Int32) (a3 : Int32) (τ : Tau) (r : Int32) (τ' : Tau) (h : X8_addMute F t0 a1 a2 a3 τ = some (r, τ')) : MCi sysX yX8_addMute cX8_addMute 4 (some .int) 1 [.ref t0, .int a1, .int a2, .int a3] τ r τ' :=
  mci_of (by decide +kernel) (Nat.le_of_ble_eq_true rfl) (fun K C hr => by
    show Sm K sysX 4 (Qi K sysX) (X8_addMute F t0 a1 a2 a3 τ) 0 [(0, .ref t0), (1, .int a1), (2, .int a2), (3, .int a3)] [] τ
    unfold X8_addMute
    refine sm_seg C [(.aload_n 0, 0)] (pc' := 1) (L' := [(0, .ref t0), (1, .int a1), (2, .int a2), (3, .int a3)]) (S' := [.ref t0]) (by decide +kernel) rfl ?_
    refine sm_getI 8 1 cls8 C (ltX h0 (by decide)) h0 (obX8 h0) (by decide) (fiX8_1 h0) fl8_15 (by decide +kernel) ?_
    refine sm_seg C [(.bipush 14, 14)] (pc' := 6) (L' := [(0, .ref t0), (1, .int a1), (2, .int a2), (3, .int a3)]) (S' := [.int 14, .int (τ t0 1)]) (by decide +kernel) rfl ?_
    refine sm_icmplt 11 (off := 5) C (by decide +kernel) (by decide) (fun _ => ?_) (fun _ => ?_)
    · refine sm_seg C [(.aload_n 0, 0)] (pc' := 12) (L' := [(0, .ref t0), (1, .int a1), (2, .int a2), (3, .int a3)]) (S' := [.ref t0]) (by decide +kernel) rfl ?_
      refine sm_getR 8 11 (t0 + 5) cls8 C (ltX h0 (by decide)) h0 (obX8 h0) (by decide) (frX8_11 h0) fl8_46 (by decide +kernel) ?_
      refine sm_seg C [(.aload_n 0, 0)] (pc' := 16) (L' := [(0, .ref t0), (1, .int a1), (2, .int a2), (3, .int a3)]) (S' := [.ref t0, .ref (t0 + 5)]) (by decide +kernel) rfl ?_
      refine sm_getI 8 1 cls8 C (ltX h0 (by decide)) h0 (obX8 h0) (by decide) (fiX8_1 h0) fl8_15 (by decide +kernel) ?_
      refine sm_seg C [(.iload_n 1, 0)] (pc' := 20) (L' := [(0, .ref t0), (1, .int a1), (2, .int a2), (3, .int a3)]) (S' := [.int a1, .int (τ t0 1), .ref (t0 + 5)]) (by decide +kernel) rfl ?_
      refine sm_ast 14 C (ltX (krX8_11 h0) (by decide)) (krX8_11 h0) (nrX8_11 h0) (by decide +kernel) (fun τ1 => ?_)
      refine sm_seg C [(.aload_n 0, 0)] (pc' := 22) (L' := [(0, .ref t0), (1, .int a1), (2, .int a2), (3, .int a3)]) (S' := [.ref t0]) (by decide +kernel) rfl ?_
      refine sm_getR 8 12 (t0 + 6) cls8 C (ltX h0 (by decide)) h0 (obX8 h0) (by decide) (frX8_12 h0) fl8_49 (by decide +kernel) ?_
      refine sm_seg C [(.aload_n 0, 0)] (pc' := 26) (L' := [(0, .ref t0), (1, .int a1), (2, .int a2), (3, .int a3)]) (S' := [.ref t0, .ref (t0 + 6)]) (by decide +kernel) rfl ?_
      refine sm_getI 8 1 cls8 C (ltX h0 (by decide)) h0 (obX8 h0) (by decide) (fiX8_1 h0) fl8_15 (by decide +kernel) ?_
      refine sm_seg C [(.iload_n 2, 0)] (pc' := 30) (L' := [(0, .ref t0), (1, .int a1), (2, .int a2), (3, .int a3)]) (S' := [.int a2, .int (τ1 t0 1), .ref (t0 + 6)]) (by decide +kernel) rfl ?_
      refine sm_ast 14 C (ltX (krX8_12 h0) (by decide)) (krX8_12 h0) (nrX8_12 h0) (by decide +kernel) (fun τ2 => ?_)
      refine sm_seg C [(.aload_n 0, 0)] (pc' := 32) (L' := [(0, .ref t0), (1, .int a1), (2, .int a2), (3, .int a3)]) (S' := [.ref t0]) (by decide +kernel) rfl ?_
      refine sm_getR 8 13 (t0 + 7) cls8 C (ltX h0 (by decide)) h0 (obX8 h0) (by decide) (frX8_13 h0) fl8_52 (by decide +kernel) ?_
      refine sm_seg C [(.aload_n 0, 0)] (pc' := 36) (L' := [(0, .ref t0), (1, .int a1), (2, .int a2), (3, .int a3)]) (S' := [.ref t0, .ref (t0 + 7)]) (by decide +kernel) rfl ?_
      refine sm_getI 8 1 cls8 C (ltX h0 (by decide)) h0 (obX8 h0) (by decide) (fiX8_1 h0) fl8_15 (by decide +kernel) ?_
      refine sm_seg C [(.iload_n 3, 0)] (pc' := 40) (L' := [(0, .ref t0), (1, .int a1), (2, .int a2), (3, .int a3)]) (S' := [.int a3, .int (τ2 t0 1), .ref (t0 + 7)]) (by decide +kernel) rfl ?_
      refine sm_ifeq 47 (off := 7) C (by decide +kernel) (by decide) (fun _ => ?_) (fun _ => ?_)
      · refine sm_seg C [(.iconst 0, 0)] (pc' := 48) (L' := [(0, .ref t0), (1, .int a1), (2, .int a2), (3, .int a3)]) (S' := [.int 0, .int (τ2 t0 1), .ref (t0 + 7)]) (by decide +kernel) rfl ?_
        exact sm_sub [0] rfl (s_X8_addMute_j48 F t0 C hr h0 0 (τ2 t0 1) τ2)
      · refine sm_seg C [(.iconst 1, 1), (.goto 4, 0)] (pc' := 48) (L' := [(0, .ref t0), (1, .int a1), (2, .int a2), (3, .int a3)]) (S' := [.int 1, .int (τ2 t0 1), .ref (t0 + 7)]) (by decide +kernel) rfl ?_
        exact sm_sub [0] rfl (s_X8_addMute_j48 F t0 C hr h0 1 (τ2 t0 1) τ2)
    · refine sm_seg C [(.iconst (-1), (-1))] (pc' := 10) (L' := [(0, .ref t0), (1, .int a1), (2, .int a2), (3, .int a3)]) (S' := [.int (-1)]) (by decide +kernel) rfl ?_
      exact sm_iret C hr rfl (by decide +kernel)) h
/-! BasketEnvoys.mute -/
def X10_mute_j25 (F : Nat) (a1 : Int32) (a2 : Int32) (a3 : Int32) (z0 : Int32) (τ : Tau) : Option (Int32 × Tau) :=
  if z0 = 0 then (some ((-1), τ)) else (if (τ 2 1) < 14 then (cal (X1_forget F τ) fun r3 τ4 => cal (X8_addMute F 2 a1 a2 a3 τ4) fun r5 τ6 => some (r5, τ6)) else (some ((-1), τ)))
theorem s_X10_mute_j25 (F : Nat) {K : Ctx} (C : Cx K sysX RX10 cX10_mute 5 2) (hr : Rt K (some .int)) (a1 : Int32) (a2 : Int32) (a3 : Int32) (z0 : Int32) (τ : Tau) : Sm K sysX 5 (Qi K sysX) (X10_mute_j25 F a1 a2 a3 z0 τ) 25 [(0, .ref 0), (1, .int a1), (2, .int a2), (3, .int a3)] [.int z0] τ := by
  unfold X10_mute_j25
  refine sm_seg C [(.istore 4, 0), (.iload 4, 0)] (pc' := 29) (L' := [(4, .int z0), (0, .ref 0), (1, .int a1), (2, .int a2), (3, .int a3)]) (S' := [.int z0]) (by decide +kernel) rfl ?_
  refine sm_ifeq 47 (off := 18) C (by decide +kernel) (by decide) (fun _ => ?_) (fun _ => ?_)
  · refine sm_seg C [(.iconst (-1), (-1))] (pc' := 48) (L' := [(4, .int z0), (0, .ref 0), (1, .int a1), (2, .int a2), (3, .int a3)]) (S' := [.int (-1)]) (by decide +kernel) rfl ?_
    exact sm_iret C hr rfl (by decide +kernel)
  · refine sm_seg C [(.aload_n 0, 0)] (pc' := 33) (L' := [(4, .int z0), (0, .ref 0), (1, .int a1), (2, .int a2), (3, .int a3)]) (S' := [.ref 0]) (by decide +kernel) rfl ?_
    refine sm_getR 10 0 1 cls10 C (ltX (by decide +kernel : kdX 0 = 10) (by decide)) (by decide +kernel : kdX 0 = 10) (obX10 (by decide +kernel : kdX 0 = 10)) (by decide) (frX10_0 (by decide +kernel : kdX 0 = 10)) fl10_12 (by decide +kernel) ?_
    refine sm_getR 9 0 2 cls9 C (ltX (krX10_0 (by decide +kernel : kdX 0 = 10)) (by decide)) (krX10_0 (by decide +kernel : kdX 0 = 10)) (obX9 (krX10_0 (by decide +kernel : kdX 0 = 10))) (by decide) (frX9_0 (krX10_0 (by decide +kernel : kdX 0 = 10))) fl10_60 (by decide +kernel) ?_
    refine sm_getI 8 1 cls8 C (ltX (krX9_0 (krX10_0 (by decide +kernel : kdX 0 = 10))) (by decide)) (krX9_0 (krX10_0 (by decide +kernel : kdX 0 = 10))) (obX8 (krX9_0 (krX10_0 (by decide +kernel : kdX 0 = 10)))) (by decide) (fiX8_1 (krX9_0 (krX10_0 (by decide +kernel : kdX 0 = 10)))) fl10_81 (by decide +kernel) ?_
    refine sm_seg C [(.bipush 14, 14)] (pc' := 44) (L' := [(4, .int z0), (0, .ref 0), (1, .int a1), (2, .int a2), (3, .int a3)]) (S' := [.int 14, .int (τ 2 1)]) (by decide +kernel) rfl ?_
    refine sm_icmplt 49 (off := 5) C (by decide +kernel) (by decide) (fun _ => ?_) (fun _ => ?_)
    · refine sm_seg C [(.aload_n 0, 0)] (pc' := 50) (L' := [(4, .int z0), (0, .ref 0), (1, .int a1), (2, .int a2), (3, .int a3)]) (S' := [.ref 0]) (by decide +kernel) rfl ?_
      refine sm_getR 10 4 116 cls10 C (ltX (by decide +kernel : kdX 0 = 10) (by decide)) (by decide +kernel : kdX 0 = 10) (obX10 (by decide +kernel : kdX 0 = 10)) (by decide) (frX10_4 (by decide +kernel : kdX 0 = 10)) fl10_33 (by decide +kernel) ?_
      refine sm_vcalv [] [] rfl C mw_X1_forget ml_10_67 rfl (ci := 1) rfl (ltX (krX10_4 (by decide +kernel : kdX 0 = 10)) (by decide)) (krX10_4 (by decide +kernel : kdX 0 = 10)) (by decide) ⟨by decide, by decide⟩ (Nat.le_of_ble_eq_true rfl) (by decide +kernel) (c_X1_forget F τ) (fun r3 τ4 => ?_)
      refine sm_seg C [(.aload_n 0, 0)] (pc' := 57) (L' := [(4, .int z0), (0, .ref 0), (1, .int a1), (2, .int a2), (3, .int a3)]) (S' := [.ref 0]) (by decide +kernel) rfl ?_
      refine sm_getR 10 0 1 cls10 C (ltX (by decide +kernel : kdX 0 = 10) (by decide)) (by decide +kernel : kdX 0 = 10) (obX10 (by decide +kernel : kdX 0 = 10)) (by decide) (frX10_0 (by decide +kernel : kdX 0 = 10)) fl10_12 (by decide +kernel) ?_
      refine sm_getR 9 0 2 cls9 C (ltX (krX10_0 (by decide +kernel : kdX 0 = 10)) (by decide)) (krX10_0 (by decide +kernel : kdX 0 = 10)) (obX9 (krX10_0 (by decide +kernel : kdX 0 = 10))) (by decide) (frX9_0 (krX10_0 (by decide +kernel : kdX 0 = 10))) fl10_60 (by decide +kernel) ?_
      refine sm_seg C [(.iload_n 1, 0), (.iload_n 2, 0), (.iload_n 3, 0)] (pc' := 66) (L' := [(4, .int z0), (0, .ref 0), (1, .int a1), (2, .int a2), (3, .int a3)]) (S' := [.int a3, .int a2, .int a1, .ref 2]) (by decide +kernel) rfl ?_
      refine sm_vcal [.int a1, .int a2, .int a3] [] rfl C mw_X8_addMute ml_10_84 rfl (ci := 8) rfl (ltX (krX9_0 (krX10_0 (by decide +kernel : kdX 0 = 10))) (by decide)) (krX9_0 (krX10_0 (by decide +kernel : kdX 0 = 10))) (by decide) ⟨by decide, by decide⟩ (Nat.le_of_ble_eq_true rfl) (by decide +kernel) (c_X8_addMute F 2 (krX9_0 (krX10_0 (by decide +kernel : kdX 0 = 10))) a1 a2 a3 τ4) (fun r5 τ6 => ?_)
      exact sm_iret C hr rfl (by decide +kernel)
    · refine sm_seg C [(.iconst (-1), (-1))] (pc' := 48) (L' := [(4, .int z0), (0, .ref 0), (1, .int a1), (2, .int a2), (3, .int a3)]) (S' := [.int (-1)]) (by decide +kernel) rfl ?_
      exact sm_iret C hr rfl (by decide +kernel)
def X10_mute_j24 (F : Nat) (a1 : Int32) (a2 : Int32) (a3 : Int32) (τ : Tau) : Option (Int32 × Tau) :=
  X10_mute_j25 F a1 a2 a3 0 τ
theorem s_X10_mute_j24 (F : Nat) {K : Ctx} (C : Cx K sysX RX10 cX10_mute 5 2) (hr : Rt K (some .int)) (a1 : Int32) (a2 : Int32) (a3 : Int32) (τ : Tau) : Sm K sysX 5 (Qi K sysX) (X10_mute_j24 F a1 a2 a3 τ) 24 [(0, .ref 0), (1, .int a1), (2, .int a2), (3, .int a3)] [] τ := by
  unfold X10_mute_j24
  refine sm_seg C [(.iconst 0, 0)] (pc' := 25) (L' := [(0, .ref 0), (1, .int a1), (2, .int a2), (3, .int a3)]) (S' := [.int 0]) (by decide +kernel) rfl ?_
  exact sm_sub [0, 1, 2, 3] rfl (s_X10_mute_j25 F C hr a1 a2 a3 0 τ)
def X10_mute (F : Nat) (a1 : Int32) (a2 : Int32) (a3 : Int32) (τ : Tau) : Option (Int32 × Tau) :=
  cal (X10_within F a1 0 9 τ) fun r1 τ2 => if r1 = 0 then (X10_mute_j24 F a1 a2 a3 τ2) else (cal (X10_within F a2 0 9 τ2) fun r7 τ8 => if r7 = 0 then (X10_mute_j24 F a1 a2 a3 τ8) else (X10_mute_j25 F a1 a2 a3 1 τ8))
set_option maxRecDepth 20000 in
set_option maxHeartbeats 4000000 in
theorem c_X10_mute (F : Nat) (a1 : Int32) (a2 : Int32) (a3 : Int32) (τ : Tau) (r : Int32) (τ' : Tau) (h : X10_mute F a1 a2 a3 τ = some (r, τ')) : MCi sysX yX10_mute cX10_mute 5 (some .int) 2 [.ref 0, .int a1, .int a2, .int a3] τ r τ' :=
  mci_of (by decide +kernel) (Nat.le_of_ble_eq_true rfl) (fun K C hr => by
    show Sm K sysX 5 (Qi K sysX) (X10_mute F a1 a2 a3 τ) 0 [(0, .ref 0), (1, .int a1), (2, .int a2), (3, .int a3)] [] τ
    unfold X10_mute
    refine sm_seg C [(.iload_n 1, 0), (.iconst 0, 0), (.bipush 9, 9)] (pc' := 4) (L' := [(0, .ref 0), (1, .int a1), (2, .int a2), (3, .int a3)]) (S' := [.int 9, .int 0, .int a1]) (by decide +kernel) rfl ?_
    refine sm_scal [.int a1, .int 0, .int 9] [] rfl C mw_X10_within ml_10_70 rfl ⟨by decide, by decide⟩ (Nat.le_of_ble_eq_true rfl) (by decide +kernel) (c_X10_within F a1 0 9 τ) (fun r1 τ2 => ?_)
    refine sm_ifeq 24 (off := 17) C (by decide +kernel) (by decide) (fun _ => ?_) (fun _ => ?_)
    · exact sm_sub [0, 1, 2, 3] rfl (s_X10_mute_j24 F C hr a1 a2 a3 τ2)
    · refine sm_seg C [(.iload_n 2, 0), (.iconst 0, 0), (.bipush 9, 9)] (pc' := 14) (L' := [(0, .ref 0), (1, .int a1), (2, .int a2), (3, .int a3)]) (S' := [.int 9, .int 0, .int a2]) (by decide +kernel) rfl ?_
      refine sm_scal [.int a2, .int 0, .int 9] [] rfl C mw_X10_within ml_10_70 rfl ⟨by decide, by decide⟩ (Nat.le_of_ble_eq_true rfl) (by decide +kernel) (c_X10_within F a2 0 9 τ2) (fun r7 τ8 => ?_)
      refine sm_ifeq 24 (off := 7) C (by decide +kernel) (by decide) (fun _ => ?_) (fun _ => ?_)
      · exact sm_sub [0, 1, 2, 3] rfl (s_X10_mute_j24 F C hr a1 a2 a3 τ8)
      · refine sm_seg C [(.iconst 1, 1), (.goto 4, 0)] (pc' := 25) (L' := [(0, .ref 0), (1, .int a1), (2, .int a2), (3, .int a3)]) (S' := [.int 1]) (by decide +kernel) rfl ?_
        exact sm_sub [0, 1, 2, 3] rfl (s_X10_mute_j25 F C hr a1 a2 a3 1 τ8)) h
/-! BasketEnvoys.of -/
def X10_of (F : Nat) (a1 : Int32) (a2 : Int32) (τ : Tau) : Option (Int32 × Tau) :=
  cal (X8_hasMute F 2 a1 τ) fun r1 τ2 => if r1 = 0 then (some ((-2), τ2)) else (if a2 = 0 then (ald τ2 7 14 a1 fun v3 => some (v3, τ2)) else if a2 = 1 then (ald τ2 8 14 a1 fun v4 => some (v4, τ2)) else if a2 = 2 then (ald τ2 9 14 a1 fun v5 => some (v5, τ2)) else if a2 = 3 then (ald τ2 10 14 a1 fun v6 => some (v6, τ2)) else if a2 = 4 then (ald τ2 11 14 a1 fun v7 => some (v7, τ2)) else if a2 = 5 then (ald τ2 12 14 a1 fun v8 => some (v8, τ2)) else if a2 = 6 then (ald τ2 13 14 a1 fun v9 => some (v9, τ2)) else if a2 = 7 then (cal (X0_ask F 2 a1 1 τ2) fun r10 τ11 => some (r10, τ11)) else if a2 = 8 then (cal (X10_couldShow F a1 τ2) fun r12 τ13 => if r12 = 0 then (some ((-1), τ13)) else (cal (X0_ask F 2 a1 0 τ13) fun r14 τ15 => some (r14, τ15))) else if a2 = 9 then (cal (X10_couldShow F a1 τ2) fun r16 τ17 => if r16 = 0 then (some ((-1), τ17)) else (cal (X0_ask F 2 a1 2 τ17) fun r18 τ19 => some (r18, τ19))) else (cal (X10_within F a2 10 17 τ2) fun r20 τ21 => if r20 = 0 then (some ((-2), τ21)) else (cal (X8_thingOf F 2 a1 (a2 - 10) τ21) fun r22 τ23 => some (r22, τ23))))
set_option maxRecDepth 20000 in
set_option maxHeartbeats 4000000 in
theorem c_X10_of (F : Nat) (a1 : Int32) (a2 : Int32) (τ : Tau) (r : Int32) (τ' : Tau) (h : X10_of F a1 a2 τ = some (r, τ')) : MCi sysX yX10_of cX10_of 4 (some .int) 5 [.ref 0, .int a1, .int a2] τ r τ' :=
  mci_of (by decide +kernel) (Nat.le_of_ble_eq_true rfl) (fun K C hr => by
    show Sm K sysX 4 (Qi K sysX) (X10_of F a1 a2 τ) 0 [(0, .ref 0), (1, .int a1), (2, .int a2)] [] τ
    unfold X10_of
    refine sm_seg C [(.aload_n 0, 0)] (pc' := 1) (L' := [(0, .ref 0), (1, .int a1), (2, .int a2)]) (S' := [.ref 0]) (by decide +kernel) rfl ?_
    refine sm_getR 10 0 1 cls10 C (ltX (by decide +kernel : kdX 0 = 10) (by decide)) (by decide +kernel : kdX 0 = 10) (obX10 (by decide +kernel : kdX 0 = 10)) (by decide) (frX10_0 (by decide +kernel : kdX 0 = 10)) fl10_12 (by decide +kernel) ?_
    refine sm_getR 9 0 2 cls9 C (ltX (krX10_0 (by decide +kernel : kdX 0 = 10)) (by decide)) (krX10_0 (by decide +kernel : kdX 0 = 10)) (obX9 (krX10_0 (by decide +kernel : kdX 0 = 10))) (by decide) (frX9_0 (krX10_0 (by decide +kernel : kdX 0 = 10))) fl10_60 (by decide +kernel) ?_
    refine sm_seg C [(.astore_n 3, 0), (.aload_n 3, 0), (.iload_n 1, 0)] (pc' := 10) (L' := [(3, .ref 2), (0, .ref 0), (1, .int a1), (2, .int a2)]) (S' := [.int a1, .ref 2]) (by decide +kernel) rfl ?_
    refine sm_vcal [.int a1] [] rfl C mw_X8_hasMute ml_10_168 rfl (ci := 8) rfl (ltX (krX9_0 (krX10_0 (by decide +kernel : kdX 0 = 10))) (by decide)) (krX9_0 (krX10_0 (by decide +kernel : kdX 0 = 10))) (by decide) ⟨by decide, by decide⟩ (Nat.le_of_ble_eq_true rfl) (by decide +kernel) (c_X8_hasMute F 2 (krX9_0 (krX10_0 (by decide +kernel : kdX 0 = 10))) a1 τ) (fun r1 τ2 => ?_)
    refine sm_ifne 19 (off := 6) C (by decide +kernel) (by decide) (fun _ => ?_) (fun _ => ?_)
    · refine sm_seg C [(.bipush (-2), (-2))] (pc' := 18) (L' := [(3, .ref 2), (0, .ref 0), (1, .int a1), (2, .int a2)]) (S' := [.int (-2)]) (by decide +kernel) rfl ?_
      exact sm_iret C hr rfl (by decide +kernel)
    · refine sm_seg C [(.iload_n 2, 0)] (pc' := 20) (L' := [(3, .ref 2), (0, .ref 0), (1, .int a1), (2, .int a2)]) (S' := [.int a2]) (by decide +kernel) rfl ?_
      have hd20 : decode cX10_of 20 = .ok (.tableswitch 162 0 9 #[56, 63, 70, 77, 84, 91, 98, 105, 116, 139], 56) := by decide +kernel
      refine sm_ite (fun e => ?_) (fun n20_0 => ?_)
      · refine sm_tabIn (off := 56) 76 C hd20 (by rw [e]; decide) (by rw [e]; decide) (by rw [e]; decide) (by decide) ?_
        refine sm_seg C [(.aload_n 3, 0)] (pc' := 77) (L' := [(3, .ref 2), (0, .ref 0), (1, .int a1), (2, .int a2)]) (S' := [.ref 2]) (by decide +kernel) rfl ?_
        refine sm_getR 8 11 7 cls8 C (ltX (krX9_0 (krX10_0 (by decide +kernel : kdX 0 = 10))) (by decide)) (krX9_0 (krX10_0 (by decide +kernel : kdX 0 = 10))) (obX8 (krX9_0 (krX10_0 (by decide +kernel : kdX 0 = 10)))) (by decide) (frX8_11 (krX9_0 (krX10_0 (by decide +kernel : kdX 0 = 10)))) fl10_172 (by decide +kernel) ?_
        refine sm_seg C [(.iload_n 1, 0)] (pc' := 81) (L' := [(3, .ref 2), (0, .ref 0), (1, .int a1), (2, .int a2)]) (S' := [.int a1, .ref 7]) (by decide +kernel) rfl ?_
        refine sm_ald 14 C (ltX (krX8_11 (krX9_0 (krX10_0 (by decide +kernel : kdX 0 = 10)))) (by decide)) (krX8_11 (krX9_0 (krX10_0 (by decide +kernel : kdX 0 = 10)))) (nrX8_11 (krX9_0 (krX10_0 (by decide +kernel : kdX 0 = 10)))) (by decide +kernel) (fun v3 => ?_)
        exact sm_iret C hr rfl (by decide +kernel)
      refine sm_ite (fun e => ?_) (fun n20_1 => ?_)
      · refine sm_tabIn (off := 63) 83 C hd20 (by rw [e]; decide) (by rw [e]; decide) (by rw [e]; decide) (by decide) ?_
        refine sm_seg C [(.aload_n 3, 0)] (pc' := 84) (L' := [(3, .ref 2), (0, .ref 0), (1, .int a1), (2, .int a2)]) (S' := [.ref 2]) (by decide +kernel) rfl ?_
        refine sm_getR 8 12 8 cls8 C (ltX (krX9_0 (krX10_0 (by decide +kernel : kdX 0 = 10))) (by decide)) (krX9_0 (krX10_0 (by decide +kernel : kdX 0 = 10))) (obX8 (krX9_0 (krX10_0 (by decide +kernel : kdX 0 = 10)))) (by decide) (frX8_12 (krX9_0 (krX10_0 (by decide +kernel : kdX 0 = 10)))) fl10_175 (by decide +kernel) ?_
        refine sm_seg C [(.iload_n 1, 0)] (pc' := 88) (L' := [(3, .ref 2), (0, .ref 0), (1, .int a1), (2, .int a2)]) (S' := [.int a1, .ref 8]) (by decide +kernel) rfl ?_
        refine sm_ald 14 C (ltX (krX8_12 (krX9_0 (krX10_0 (by decide +kernel : kdX 0 = 10)))) (by decide)) (krX8_12 (krX9_0 (krX10_0 (by decide +kernel : kdX 0 = 10)))) (nrX8_12 (krX9_0 (krX10_0 (by decide +kernel : kdX 0 = 10)))) (by decide +kernel) (fun v4 => ?_)
        exact sm_iret C hr rfl (by decide +kernel)
      refine sm_ite (fun e => ?_) (fun n20_2 => ?_)
      · refine sm_tabIn (off := 70) 90 C hd20 (by rw [e]; decide) (by rw [e]; decide) (by rw [e]; decide) (by decide) ?_
        refine sm_seg C [(.aload_n 3, 0)] (pc' := 91) (L' := [(3, .ref 2), (0, .ref 0), (1, .int a1), (2, .int a2)]) (S' := [.ref 2]) (by decide +kernel) rfl ?_
        refine sm_getR 8 13 9 cls8 C (ltX (krX9_0 (krX10_0 (by decide +kernel : kdX 0 = 10))) (by decide)) (krX9_0 (krX10_0 (by decide +kernel : kdX 0 = 10))) (obX8 (krX9_0 (krX10_0 (by decide +kernel : kdX 0 = 10)))) (by decide) (frX8_13 (krX9_0 (krX10_0 (by decide +kernel : kdX 0 = 10)))) fl10_178 (by decide +kernel) ?_
        refine sm_seg C [(.iload_n 1, 0)] (pc' := 95) (L' := [(3, .ref 2), (0, .ref 0), (1, .int a1), (2, .int a2)]) (S' := [.int a1, .ref 9]) (by decide +kernel) rfl ?_
        refine sm_ald 14 C (ltX (krX8_13 (krX9_0 (krX10_0 (by decide +kernel : kdX 0 = 10)))) (by decide)) (krX8_13 (krX9_0 (krX10_0 (by decide +kernel : kdX 0 = 10)))) (nrX8_13 (krX9_0 (krX10_0 (by decide +kernel : kdX 0 = 10)))) (by decide +kernel) (fun v5 => ?_)
        exact sm_iret C hr rfl (by decide +kernel)
      refine sm_ite (fun e => ?_) (fun n20_3 => ?_)
      · refine sm_tabIn (off := 77) 97 C hd20 (by rw [e]; decide) (by rw [e]; decide) (by rw [e]; decide) (by decide) ?_
        refine sm_seg C [(.aload_n 3, 0)] (pc' := 98) (L' := [(3, .ref 2), (0, .ref 0), (1, .int a1), (2, .int a2)]) (S' := [.ref 2]) (by decide +kernel) rfl ?_
        refine sm_getR 8 14 10 cls8 C (ltX (krX9_0 (krX10_0 (by decide +kernel : kdX 0 = 10))) (by decide)) (krX9_0 (krX10_0 (by decide +kernel : kdX 0 = 10))) (obX8 (krX9_0 (krX10_0 (by decide +kernel : kdX 0 = 10)))) (by decide) (frX8_14 (krX9_0 (krX10_0 (by decide +kernel : kdX 0 = 10)))) fl10_181 (by decide +kernel) ?_
        refine sm_seg C [(.iload_n 1, 0)] (pc' := 102) (L' := [(3, .ref 2), (0, .ref 0), (1, .int a1), (2, .int a2)]) (S' := [.int a1, .ref 10]) (by decide +kernel) rfl ?_
        refine sm_ald 14 C (ltX (krX8_14 (krX9_0 (krX10_0 (by decide +kernel : kdX 0 = 10)))) (by decide)) (krX8_14 (krX9_0 (krX10_0 (by decide +kernel : kdX 0 = 10)))) (nrX8_14 (krX9_0 (krX10_0 (by decide +kernel : kdX 0 = 10)))) (by decide +kernel) (fun v6 => ?_)
        exact sm_iret C hr rfl (by decide +kernel)
      refine sm_ite (fun e => ?_) (fun n20_4 => ?_)
      · refine sm_tabIn (off := 84) 104 C hd20 (by rw [e]; decide) (by rw [e]; decide) (by rw [e]; decide) (by decide) ?_
        refine sm_seg C [(.aload_n 3, 0)] (pc' := 105) (L' := [(3, .ref 2), (0, .ref 0), (1, .int a1), (2, .int a2)]) (S' := [.ref 2]) (by decide +kernel) rfl ?_
        refine sm_getR 8 15 11 cls8 C (ltX (krX9_0 (krX10_0 (by decide +kernel : kdX 0 = 10))) (by decide)) (krX9_0 (krX10_0 (by decide +kernel : kdX 0 = 10))) (obX8 (krX9_0 (krX10_0 (by decide +kernel : kdX 0 = 10)))) (by decide) (frX8_15 (krX9_0 (krX10_0 (by decide +kernel : kdX 0 = 10)))) fl10_184 (by decide +kernel) ?_
        refine sm_seg C [(.iload_n 1, 0)] (pc' := 109) (L' := [(3, .ref 2), (0, .ref 0), (1, .int a1), (2, .int a2)]) (S' := [.int a1, .ref 11]) (by decide +kernel) rfl ?_
        refine sm_ald 14 C (ltX (krX8_15 (krX9_0 (krX10_0 (by decide +kernel : kdX 0 = 10)))) (by decide)) (krX8_15 (krX9_0 (krX10_0 (by decide +kernel : kdX 0 = 10)))) (nrX8_15 (krX9_0 (krX10_0 (by decide +kernel : kdX 0 = 10)))) (by decide +kernel) (fun v7 => ?_)
        exact sm_iret C hr rfl (by decide +kernel)
      refine sm_ite (fun e => ?_) (fun n20_5 => ?_)
      · refine sm_tabIn (off := 91) 111 C hd20 (by rw [e]; decide) (by rw [e]; decide) (by rw [e]; decide) (by decide) ?_
        refine sm_seg C [(.aload_n 3, 0)] (pc' := 112) (L' := [(3, .ref 2), (0, .ref 0), (1, .int a1), (2, .int a2)]) (S' := [.ref 2]) (by decide +kernel) rfl ?_
        refine sm_getR 8 16 12 cls8 C (ltX (krX9_0 (krX10_0 (by decide +kernel : kdX 0 = 10))) (by decide)) (krX9_0 (krX10_0 (by decide +kernel : kdX 0 = 10))) (obX8 (krX9_0 (krX10_0 (by decide +kernel : kdX 0 = 10)))) (by decide) (frX8_16 (krX9_0 (krX10_0 (by decide +kernel : kdX 0 = 10)))) fl10_187 (by decide +kernel) ?_
        refine sm_seg C [(.iload_n 1, 0)] (pc' := 116) (L' := [(3, .ref 2), (0, .ref 0), (1, .int a1), (2, .int a2)]) (S' := [.int a1, .ref 12]) (by decide +kernel) rfl ?_
        refine sm_ald 14 C (ltX (krX8_16 (krX9_0 (krX10_0 (by decide +kernel : kdX 0 = 10)))) (by decide)) (krX8_16 (krX9_0 (krX10_0 (by decide +kernel : kdX 0 = 10)))) (nrX8_16 (krX9_0 (krX10_0 (by decide +kernel : kdX 0 = 10)))) (by decide +kernel) (fun v8 => ?_)
        exact sm_iret C hr rfl (by decide +kernel)
      refine sm_ite (fun e => ?_) (fun n20_6 => ?_)
      · refine sm_tabIn (off := 98) 118 C hd20 (by rw [e]; decide) (by rw [e]; decide) (by rw [e]; decide) (by decide) ?_
        refine sm_seg C [(.aload_n 3, 0)] (pc' := 119) (L' := [(3, .ref 2), (0, .ref 0), (1, .int a1), (2, .int a2)]) (S' := [.ref 2]) (by decide +kernel) rfl ?_
        refine sm_getR 8 17 13 cls8 C (ltX (krX9_0 (krX10_0 (by decide +kernel : kdX 0 = 10))) (by decide)) (krX9_0 (krX10_0 (by decide +kernel : kdX 0 = 10))) (obX8 (krX9_0 (krX10_0 (by decide +kernel : kdX 0 = 10)))) (by decide) (frX8_17 (krX9_0 (krX10_0 (by decide +kernel : kdX 0 = 10)))) fl10_190 (by decide +kernel) ?_
        refine sm_seg C [(.iload_n 1, 0)] (pc' := 123) (L' := [(3, .ref 2), (0, .ref 0), (1, .int a1), (2, .int a2)]) (S' := [.int a1, .ref 13]) (by decide +kernel) rfl ?_
        refine sm_ald 14 C (ltX (krX8_17 (krX9_0 (krX10_0 (by decide +kernel : kdX 0 = 10)))) (by decide)) (krX8_17 (krX9_0 (krX10_0 (by decide +kernel : kdX 0 = 10)))) (nrX8_17 (krX9_0 (krX10_0 (by decide +kernel : kdX 0 = 10)))) (by decide +kernel) (fun v9 => ?_)
        exact sm_iret C hr rfl (by decide +kernel)
      refine sm_ite (fun e => ?_) (fun n20_7 => ?_)
      · refine sm_tabIn (off := 105) 125 C hd20 (by rw [e]; decide) (by rw [e]; decide) (by rw [e]; decide) (by decide) ?_
        refine sm_seg C [(.aload_n 0, 0)] (pc' := 126) (L' := [(3, .ref 2), (0, .ref 0), (1, .int a1), (2, .int a2)]) (S' := [.ref 0]) (by decide +kernel) rfl ?_
        refine sm_getR 10 6 211 cls10 C (ltX (by decide +kernel : kdX 0 = 10) (by decide)) (by decide +kernel : kdX 0 = 10) (obX10 (by decide +kernel : kdX 0 = 10)) (by decide) (frX10_6 (by decide +kernel : kdX 0 = 10)) fl10_49 (by decide +kernel) ?_
        refine sm_seg C [(.aload_n 3, 0), (.iload_n 1, 0), (.iconst 1, 1)] (pc' := 132) (L' := [(3, .ref 2), (0, .ref 0), (1, .int a1), (2, .int a2)]) (S' := [.int 1, .int a1, .ref 2, .ref 211]) (by decide +kernel) rfl ?_
        refine sm_vcal [.ref 2, .int a1, .int 1] [] rfl C mw_X0_ask ml_10_193 rfl (ci := 0) rfl (ltX (krX10_6 (by decide +kernel : kdX 0 = 10)) (by decide)) (krX10_6 (by decide +kernel : kdX 0 = 10)) (by decide) ⟨by decide, by decide⟩ (Nat.le_of_ble_eq_true rfl) (by decide +kernel) (c_X0_ask F 2 (krX9_0 (krX10_0 (by decide +kernel : kdX 0 = 10))) a1 1 τ2) (fun r10 τ11 => ?_)
        exact sm_iret C hr rfl (by decide +kernel)
      refine sm_ite (fun e => ?_) (fun n20_8 => ?_)
      · refine sm_tabIn (off := 116) 136 C hd20 (by rw [e]; decide) (by rw [e]; decide) (by rw [e]; decide) (by decide) ?_
        refine sm_seg C [(.aload_n 0, 0), (.iload_n 1, 0)] (pc' := 138) (L' := [(3, .ref 2), (0, .ref 0), (1, .int a1), (2, .int a2)]) (S' := [.int a1, .ref 0]) (by decide +kernel) rfl ?_
        refine sm_vcal [.int a1] [] rfl C mw_X10_couldShow ml_10_197 rfl (ci := 10) rfl (ltX (by decide +kernel : kdX 0 = 10) (by decide)) (by decide +kernel : kdX 0 = 10) (by decide) ⟨by decide, by decide⟩ (Nat.le_of_ble_eq_true rfl) (by decide +kernel) (c_X10_couldShow F a1 τ2) (fun r12 τ13 => ?_)
        refine sm_ifeq 157 (off := 16) C (by decide +kernel) (by decide) (fun _ => ?_) (fun _ => ?_)
        · refine sm_seg C [(.iconst (-1), (-1))] (pc' := 158) (L' := [(3, .ref 2), (0, .ref 0), (1, .int a1), (2, .int a2)]) (S' := [.int (-1)]) (by decide +kernel) rfl ?_
          exact sm_iret C hr rfl (by decide +kernel)
        · refine sm_seg C [(.aload_n 0, 0)] (pc' := 145) (L' := [(3, .ref 2), (0, .ref 0), (1, .int a1), (2, .int a2)]) (S' := [.ref 0]) (by decide +kernel) rfl ?_
          refine sm_getR 10 6 211 cls10 C (ltX (by decide +kernel : kdX 0 = 10) (by decide)) (by decide +kernel : kdX 0 = 10) (obX10 (by decide +kernel : kdX 0 = 10)) (by decide) (frX10_6 (by decide +kernel : kdX 0 = 10)) fl10_49 (by decide +kernel) ?_
          refine sm_seg C [(.aload_n 3, 0), (.iload_n 1, 0), (.iconst 0, 0)] (pc' := 151) (L' := [(3, .ref 2), (0, .ref 0), (1, .int a1), (2, .int a2)]) (S' := [.int 0, .int a1, .ref 2, .ref 211]) (by decide +kernel) rfl ?_
          refine sm_vcal [.ref 2, .int a1, .int 0] [] rfl C mw_X0_ask ml_10_193 rfl (ci := 0) rfl (ltX (krX10_6 (by decide +kernel : kdX 0 = 10)) (by decide)) (krX10_6 (by decide +kernel : kdX 0 = 10)) (by decide) ⟨by decide, by decide⟩ (Nat.le_of_ble_eq_true rfl) (by decide +kernel) (c_X0_ask F 2 (krX9_0 (krX10_0 (by decide +kernel : kdX 0 = 10))) a1 0 τ13) (fun r14 τ15 => ?_)
          refine sm_seg C [(.goto 4, 0)] (pc' := 158) (L' := [(3, .ref 2), (0, .ref 0), (1, .int a1), (2, .int a2)]) (S' := [.int r14]) (by decide +kernel) rfl ?_
          exact sm_iret C hr rfl (by decide +kernel)
      refine sm_ite (fun e => ?_) (fun n20_9 => ?_)
      · refine sm_tabIn (off := 139) 159 C hd20 (by rw [e]; decide) (by rw [e]; decide) (by rw [e]; decide) (by decide) ?_
        refine sm_seg C [(.aload_n 0, 0), (.iload_n 1, 0)] (pc' := 161) (L' := [(3, .ref 2), (0, .ref 0), (1, .int a1), (2, .int a2)]) (S' := [.int a1, .ref 0]) (by decide +kernel) rfl ?_
        refine sm_vcal [.int a1] [] rfl C mw_X10_couldShow ml_10_197 rfl (ci := 10) rfl (ltX (by decide +kernel : kdX 0 = 10) (by decide)) (by decide +kernel : kdX 0 = 10) (by decide) ⟨by decide, by decide⟩ (Nat.le_of_ble_eq_true rfl) (by decide +kernel) (c_X10_couldShow F a1 τ2) (fun r16 τ17 => ?_)
        refine sm_ifeq 180 (off := 16) C (by decide +kernel) (by decide) (fun _ => ?_) (fun _ => ?_)
        · refine sm_seg C [(.iconst (-1), (-1))] (pc' := 181) (L' := [(3, .ref 2), (0, .ref 0), (1, .int a1), (2, .int a2)]) (S' := [.int (-1)]) (by decide +kernel) rfl ?_
          exact sm_iret C hr rfl (by decide +kernel)
        · refine sm_seg C [(.aload_n 0, 0)] (pc' := 168) (L' := [(3, .ref 2), (0, .ref 0), (1, .int a1), (2, .int a2)]) (S' := [.ref 0]) (by decide +kernel) rfl ?_
          refine sm_getR 10 6 211 cls10 C (ltX (by decide +kernel : kdX 0 = 10) (by decide)) (by decide +kernel : kdX 0 = 10) (obX10 (by decide +kernel : kdX 0 = 10)) (by decide) (frX10_6 (by decide +kernel : kdX 0 = 10)) fl10_49 (by decide +kernel) ?_
          refine sm_seg C [(.aload_n 3, 0), (.iload_n 1, 0), (.iconst 2, 2)] (pc' := 174) (L' := [(3, .ref 2), (0, .ref 0), (1, .int a1), (2, .int a2)]) (S' := [.int 2, .int a1, .ref 2, .ref 211]) (by decide +kernel) rfl ?_
          refine sm_vcal [.ref 2, .int a1, .int 2] [] rfl C mw_X0_ask ml_10_193 rfl (ci := 0) rfl (ltX (krX10_6 (by decide +kernel : kdX 0 = 10)) (by decide)) (krX10_6 (by decide +kernel : kdX 0 = 10)) (by decide) ⟨by decide, by decide⟩ (Nat.le_of_ble_eq_true rfl) (by decide +kernel) (c_X0_ask F 2 (krX9_0 (krX10_0 (by decide +kernel : kdX 0 = 10))) a1 2 τ17) (fun r18 τ19 => ?_)
          refine sm_seg C [(.goto 4, 0)] (pc' := 181) (L' := [(3, .ref 2), (0, .ref 0), (1, .int a1), (2, .int a2)]) (S' := [.int r18]) (by decide +kernel) rfl ?_
          exact sm_iret C hr rfl (by decide +kernel)
      refine sm_tabOut 182 C hd20 (by have q0 := toInt_neZ (z := 0) n20_0 (by decide); have q1 := toInt_neZ (z := 1) n20_1 (by decide); have q2 := toInt_neZ (z := 2) n20_2 (by decide); have q3 := toInt_neZ (z := 3) n20_3 (by decide); have q4 := toInt_neZ (z := 4) n20_4 (by decide); have q5 := toInt_neZ (z := 5) n20_5 (by decide); have q6 := toInt_neZ (z := 6) n20_6 (by decide); have q7 := toInt_neZ (z := 7) n20_7 (by decide); have q8 := toInt_neZ (z := 8) n20_8 (by decide); have q9 := toInt_neZ (z := 9) n20_9 (by decide); omega) (by decide) ?_
      refine sm_seg C [(.iload_n 2, 0), (.bipush 10, 10), (.bipush 17, 17)] (pc' := 187) (L' := [(3, .ref 2), (0, .ref 0), (1, .int a1), (2, .int a2)]) (S' := [.int 17, .int 10, .int a2]) (by decide +kernel) rfl ?_
      refine sm_scal [.int a2, .int 10, .int 17] [] rfl C mw_X10_within ml_10_70 rfl ⟨by decide, by decide⟩ (Nat.le_of_ble_eq_true rfl) (by decide +kernel) (c_X10_within F a2 10 17 τ2) (fun r20 τ21 => ?_)
      refine sm_ifeq 205 (off := 15) C (by decide +kernel) (by decide) (fun _ => ?_) (fun _ => ?_)
      · refine sm_seg C [(.bipush (-2), (-2))] (pc' := 207) (L' := [(3, .ref 2), (0, .ref 0), (1, .int a1), (2, .int a2)]) (S' := [.int (-2)]) (by decide +kernel) rfl ?_
        exact sm_iret C hr rfl (by decide +kernel)
      · refine sm_seg C [(.aload_n 3, 0), (.iload_n 1, 0), (.iload_n 2, 0), (.bipush 10, 10), (.isub, 0)] (pc' := 199) (L' := [(3, .ref 2), (0, .ref 0), (1, .int a1), (2, .int a2)]) (S' := [.int (a2 - 10), .int a1, .ref 2]) (by decide +kernel) rfl ?_
        refine sm_vcal [.int a1, .int (a2 - 10)] [] rfl C mw_X8_thingOf ml_10_200 rfl (ci := 8) rfl (ltX (krX9_0 (krX10_0 (by decide +kernel : kdX 0 = 10))) (by decide)) (krX9_0 (krX10_0 (by decide +kernel : kdX 0 = 10))) (by decide) ⟨by decide, by decide⟩ (Nat.le_of_ble_eq_true rfl) (by decide +kernel) (c_X8_thingOf F 2 (krX9_0 (krX10_0 (by decide +kernel : kdX 0 = 10))) a1 (a2 - 10) τ21) (fun r22 τ23 => ?_)
        refine sm_seg C [(.goto 5, 0)] (pc' := 207) (L' := [(3, .ref 2), (0, .ref 0), (1, .int a1), (2, .int a2)]) (S' := [.int r22]) (by decide +kernel) rfl ?_
        exact sm_iret C hr rfl (by decide +kernel)) h
/-! BasketEnvoys.peace -/
def X10_peace_L32 (F : Nat) : Nat → Int32 → Int32 → Tau → Option (Int32 × Tau)
  | 0, _, _, _ => none
  | n + 1, a1, a2, τ =>
    if 60 < a2 then (some ((-1), τ)) else (cal (X0_pass F 103 0 τ) fun r5 τ6 => ald τ6 107 10 a1 fun v7 => ald τ6 6 10 a1 fun v8 => if v7 ≤ v8 then (X10_peace_L32 F n a1 (a2 + 1) τ6) else (some (a2, τ6)))
theorem s_X10_peace_L32 (F : Nat) {K : Ctx} (C : Cx K sysX RX10 cX10_peace 3 8) (hr : Rt K (some .int)) : ∀ (n : Nat) (a1 : Int32) (a2 : Int32) (τ : Tau), Sm K sysX 3 (Qi K sysX) (X10_peace_L32 F n a1 a2 τ) 32 [(0, .ref 0), (1, .int a1), (2, .int a2)] [] τ := by
  intro n
  induction n with
  | zero => intro a1 a2 τ; exact sm_none
  | succ n ih =>
    intro a1 a2 τ
    rw [X10_peace_L32]
    refine sm_seg C [(.iload_n 2, 0), (.bipush 60, 60)] (pc' := 35) (L' := [(0, .ref 0), (1, .int a1), (2, .int a2)]) (S' := [.int 60, .int a2]) (by decide +kernel) rfl ?_
    refine sm_icmpgt 82 (off := 47) C (by decide +kernel) (by decide) (fun _ => ?_) (fun _ => ?_)
    · refine sm_seg C [(.iconst (-1), (-1))] (pc' := 83) (L' := [(0, .ref 0), (1, .int a1), (2, .int a2)]) (S' := [.int (-1)]) (by decide +kernel) rfl ?_
      exact sm_iret C hr rfl (by decide +kernel)
    · refine sm_seg C [(.aload_n 0, 0)] (pc' := 39) (L' := [(0, .ref 0), (1, .int a1), (2, .int a2)]) (S' := [.ref 0]) (by decide +kernel) rfl ?_
      refine sm_getR 10 6 211 cls10 C (ltX (by decide +kernel : kdX 0 = 10) (by decide)) (by decide +kernel : kdX 0 = 10) (obX10 (by decide +kernel : kdX 0 = 10)) (by decide) (frX10_6 (by decide +kernel : kdX 0 = 10)) fl10_49 (by decide +kernel) ?_
      refine sm_seg C [(.aload_n 0, 0)] (pc' := 43) (L' := [(0, .ref 0), (1, .int a1), (2, .int a2)]) (S' := [.ref 0, .ref 211]) (by decide +kernel) rfl ?_
      refine sm_getR 10 3 103 cls10 C (ltX (by decide +kernel : kdX 0 = 10) (by decide)) (by decide +kernel : kdX 0 = 10) (obX10 (by decide +kernel : kdX 0 = 10)) (by decide) (frX10_3 (by decide +kernel : kdX 0 = 10)) fl10_26 (by decide +kernel) ?_
      refine sm_seg C [(.iconst 0, 0)] (pc' := 47) (L' := [(0, .ref 0), (1, .int a1), (2, .int a2)]) (S' := [.int 0, .ref 103, .ref 211]) (by decide +kernel) rfl ?_
      refine sm_vcalv [.ref 103, .int 0] [] rfl C mw_X0_pass ml_10_113 rfl (ci := 0) rfl (ltX (krX10_6 (by decide +kernel : kdX 0 = 10)) (by decide)) (krX10_6 (by decide +kernel : kdX 0 = 10)) (by decide) ⟨by decide, by decide⟩ (Nat.le_of_ble_eq_true rfl) (by decide +kernel) (c_X0_pass F 103 (krX10_3 (by decide +kernel : kdX 0 = 10)) 0 τ) (fun r5 τ6 => ?_)
      refine sm_seg C [(.aload_n 0, 0)] (pc' := 51) (L' := [(0, .ref 0), (1, .int a1), (2, .int a2)]) (S' := [.ref 0]) (by decide +kernel) rfl ?_
      refine sm_getR 10 3 103 cls10 C (ltX (by decide +kernel : kdX 0 = 10) (by decide)) (by decide +kernel : kdX 0 = 10) (obX10 (by decide +kernel : kdX 0 = 10)) (by decide) (frX10_3 (by decide +kernel : kdX 0 = 10)) fl10_26 (by decide +kernel) ?_
      refine sm_getR 8 10 107 cls8 C (ltX (krX10_3 (by decide +kernel : kdX 0 = 10)) (by decide)) (krX10_3 (by decide +kernel : kdX 0 = 10)) (obX8 (krX10_3 (by decide +kernel : kdX 0 = 10))) (by decide) (frX8_10 (krX10_3 (by decide +kernel : kdX 0 = 10))) fl10_213 (by decide +kernel) ?_
      refine sm_seg C [(.iload_n 1, 0)] (pc' := 58) (L' := [(0, .ref 0), (1, .int a1), (2, .int a2)]) (S' := [.int a1, .ref 107]) (by decide +kernel) rfl ?_
      refine sm_ald 10 C (ltX (krX8_10 (krX10_3 (by decide +kernel : kdX 0 = 10))) (by decide)) (krX8_10 (krX10_3 (by decide +kernel : kdX 0 = 10))) (nrX8_10 (krX10_3 (by decide +kernel : kdX 0 = 10))) (by decide +kernel) (fun v7 => ?_)
      refine sm_seg C [(.aload_n 0, 0)] (pc' := 60) (L' := [(0, .ref 0), (1, .int a1), (2, .int a2)]) (S' := [.ref 0, .int v7]) (by decide +kernel) rfl ?_
      refine sm_getR 10 0 1 cls10 C (ltX (by decide +kernel : kdX 0 = 10) (by decide)) (by decide +kernel : kdX 0 = 10) (obX10 (by decide +kernel : kdX 0 = 10)) (by decide) (frX10_0 (by decide +kernel : kdX 0 = 10)) fl10_12 (by decide +kernel) ?_
      refine sm_getR 9 0 2 cls9 C (ltX (krX10_0 (by decide +kernel : kdX 0 = 10)) (by decide)) (krX10_0 (by decide +kernel : kdX 0 = 10)) (obX9 (krX10_0 (by decide +kernel : kdX 0 = 10))) (by decide) (frX9_0 (krX10_0 (by decide +kernel : kdX 0 = 10))) fl10_60 (by decide +kernel) ?_
      refine sm_getR 8 10 6 cls8 C (ltX (krX9_0 (krX10_0 (by decide +kernel : kdX 0 = 10))) (by decide)) (krX9_0 (krX10_0 (by decide +kernel : kdX 0 = 10))) (obX8 (krX9_0 (krX10_0 (by decide +kernel : kdX 0 = 10)))) (by decide) (frX8_10 (krX9_0 (krX10_0 (by decide +kernel : kdX 0 = 10)))) fl10_213 (by decide +kernel) ?_
      refine sm_seg C [(.iload_n 1, 0)] (pc' := 70) (L' := [(0, .ref 0), (1, .int a1), (2, .int a2)]) (S' := [.int a1, .ref 6, .int v7]) (by decide +kernel) rfl ?_
      refine sm_ald 10 C (ltX (krX8_10 (krX9_0 (krX10_0 (by decide +kernel : kdX 0 = 10)))) (by decide)) (krX8_10 (krX9_0 (krX10_0 (by decide +kernel : kdX 0 = 10)))) (nrX8_10 (krX9_0 (krX10_0 (by decide +kernel : kdX 0 = 10)))) (by decide +kernel) (fun v8 => ?_)
      refine sm_icmple 76 (off := 5) C (by decide +kernel) (by decide) (fun _ => ?_) (fun _ => ?_)
      · refine sm_seg C [(.iinc 2 1, 1), (.goto (-47), 0)] (pc' := 32) (L' := [(2, .int (a2 + 1)), (0, .ref 0), (1, .int a1)]) (S' := []) (by decide +kernel) rfl ?_
        exact sm_sub [1, 2, 0] rfl (ih a1 (a2 + 1) τ6)
      · refine sm_seg C [(.iload_n 2, 0)] (pc' := 75) (L' := [(0, .ref 0), (1, .int a1), (2, .int a2)]) (S' := [.int a2]) (by decide +kernel) rfl ?_
        exact sm_iret C hr rfl (by decide +kernel)
def X10_peace (F : Nat) (a1 : Int32) (τ : Tau) : Option (Int32 × Tau) :=
  cal (X8_hasPower F 2 a1 τ) fun r1 τ2 => if r1 = 0 then (some ((-1), τ2)) else (cal (X8_copyFrom F 103 2 τ2) fun r3 τ4 => X10_peace_L32 F F a1 1 τ4)
set_option maxRecDepth 20000 in
set_option maxHeartbeats 4000000 in
theorem c_X10_peace (F : Nat) (a1 : Int32) (τ : Tau) (r : Int32) (τ' : Tau) (h : X10_peace F a1 τ = some (r, τ')) : MCi sysX yX10_peace cX10_peace 3 (some .int) 8 [.ref 0, .int a1] τ r τ' :=
  mci_of (by decide +kernel) (Nat.le_of_ble_eq_true rfl) (fun K C hr => by
    show Sm K sysX 3 (Qi K sysX) (X10_peace F a1 τ) 0 [(0, .ref 0), (1, .int a1)] [] τ
    unfold X10_peace
    refine sm_seg C [(.aload_n 0, 0)] (pc' := 1) (L' := [(0, .ref 0), (1, .int a1)]) (S' := [.ref 0]) (by decide +kernel) rfl ?_
    refine sm_getR 10 0 1 cls10 C (ltX (by decide +kernel : kdX 0 = 10) (by decide)) (by decide +kernel : kdX 0 = 10) (obX10 (by decide +kernel : kdX 0 = 10)) (by decide) (frX10_0 (by decide +kernel : kdX 0 = 10)) fl10_12 (by decide +kernel) ?_
    refine sm_getR 9 0 2 cls9 C (ltX (krX10_0 (by decide +kernel : kdX 0 = 10)) (by decide)) (krX10_0 (by decide +kernel : kdX 0 = 10)) (obX9 (krX10_0 (by decide +kernel : kdX 0 = 10))) (by decide) (frX9_0 (krX10_0 (by decide +kernel : kdX 0 = 10))) fl10_60 (by decide +kernel) ?_
    refine sm_seg C [(.iload_n 1, 0)] (pc' := 8) (L' := [(0, .ref 0), (1, .int a1)]) (S' := [.int a1, .ref 2]) (by decide +kernel) rfl ?_
    refine sm_vcal [.int a1] [] rfl C mw_X8_hasPower ml_10_204 rfl (ci := 8) rfl (ltX (krX9_0 (krX10_0 (by decide +kernel : kdX 0 = 10))) (by decide)) (krX9_0 (krX10_0 (by decide +kernel : kdX 0 = 10))) (by decide) ⟨by decide, by decide⟩ (Nat.le_of_ble_eq_true rfl) (by decide +kernel) (c_X8_hasPower F 2 (krX9_0 (krX10_0 (by decide +kernel : kdX 0 = 10))) a1 τ) (fun r1 τ2 => ?_)
    refine sm_ifne 16 (off := 5) C (by decide +kernel) (by decide) (fun _ => ?_) (fun _ => ?_)
    · refine sm_seg C [(.iconst (-1), (-1))] (pc' := 15) (L' := [(0, .ref 0), (1, .int a1)]) (S' := [.int (-1)]) (by decide +kernel) rfl ?_
      exact sm_iret C hr rfl (by decide +kernel)
    · refine sm_seg C [(.aload_n 0, 0)] (pc' := 17) (L' := [(0, .ref 0), (1, .int a1)]) (S' := [.ref 0]) (by decide +kernel) rfl ?_
      refine sm_getR 10 3 103 cls10 C (ltX (by decide +kernel : kdX 0 = 10) (by decide)) (by decide +kernel : kdX 0 = 10) (obX10 (by decide +kernel : kdX 0 = 10)) (by decide) (frX10_3 (by decide +kernel : kdX 0 = 10)) fl10_26 (by decide +kernel) ?_
      refine sm_seg C [(.aload_n 0, 0)] (pc' := 21) (L' := [(0, .ref 0), (1, .int a1)]) (S' := [.ref 0, .ref 103]) (by decide +kernel) rfl ?_
      refine sm_getR 10 0 1 cls10 C (ltX (by decide +kernel : kdX 0 = 10) (by decide)) (by decide +kernel : kdX 0 = 10) (obX10 (by decide +kernel : kdX 0 = 10)) (by decide) (frX10_0 (by decide +kernel : kdX 0 = 10)) fl10_12 (by decide +kernel) ?_
      refine sm_getR 9 0 2 cls9 C (ltX (krX10_0 (by decide +kernel : kdX 0 = 10)) (by decide)) (krX10_0 (by decide +kernel : kdX 0 = 10)) (obX9 (krX10_0 (by decide +kernel : kdX 0 = 10))) (by decide) (frX9_0 (krX10_0 (by decide +kernel : kdX 0 = 10))) fl10_60 (by decide +kernel) ?_
      refine sm_vcalv [.ref 2] [] rfl C mw_X8_copyFrom ml_10_238 rfl (ci := 8) rfl (ltX (krX10_3 (by decide +kernel : kdX 0 = 10)) (by decide)) (krX10_3 (by decide +kernel : kdX 0 = 10)) (by decide) ⟨by decide, by decide⟩ (Nat.le_of_ble_eq_true rfl) (by decide +kernel) (c_X8_copyFrom F 103 2 (krX10_3 (by decide +kernel : kdX 0 = 10)) (krX9_0 (krX10_0 (by decide +kernel : kdX 0 = 10))) τ2) (fun r3 τ4 => ?_)
      refine sm_seg C [(.iconst 1, 1), (.istore_n 2, 0)] (pc' := 32) (L' := [(2, .int 1), (0, .ref 0), (1, .int a1)]) (S' := []) (by decide +kernel) rfl ?_
      exact sm_sub [1, 2, 0] rfl (s_X10_peace_L32 F C hr F a1 1 τ4)) h
/-! BasketEnvoys_Riddles.fewestPricks -/
def X4_fewestPricks_j35 (F : Nat) (self2 : Int32 → Int32 → Int32 → Tau → Option (Int32 × Tau)) (a1 : Int32) (a2 : Int32) (a3 : Int32) (z0 : Int32) (τ : Tau) : Option (Int32 × Tau) :=
  if (shl 1 a3) < z0 then (self2 a1 a2 (a3 + 1) τ) else (some (a3, τ))
theorem s_X4_fewestPricks_j35 (F : Nat) {K : Ctx} (C : Cx K sysX RX4 cX4_fewestPricks 5 1) (hr : Rt K (some .int)) (self2 : Int32 → Int32 → Int32 → Tau → Option (Int32 × Tau)) (ih2 : ∀ (a1 : Int32) (a2 : Int32) (a3 : Int32) (τ : Tau), Sm K sysX 5 (Qi K sysX) (self2 a1 a2 a3 τ) 2 [(1, .int a1), (2, .int a2), (3, .int a3)] [] τ) (a1 : Int32) (a2 : Int32) (a3 : Int32) (z0 : Int32) (τ : Tau) : Sm K sysX 5 (Qi K sysX) (X4_fewestPricks_j35 F self2 a1 a2 a3 z0 τ) 35 [(1, .int a1), (2, .int a2), (3, .int a3)] [.int z0] τ := by
  unfold X4_fewestPricks_j35
  refine sm_seg C [(.istore 4, 0), (.iload 4, 0), (.iconst 1, 1), (.iload_n 3, 0), (.ishl, 0)] (pc' := 42) (L' := [(4, .int z0), (1, .int a1), (2, .int a2), (3, .int a3)]) (S' := [.int (shl 1 a3), .int z0]) (by decide +kernel) rfl ?_
  refine sm_icmpgt 47 (off := 5) C (by decide +kernel) (by decide) (fun _ => ?_) (fun _ => ?_)
  · refine sm_seg C [(.iinc 3 1, 1), (.goto (-48), 0)] (pc' := 2) (L' := [(3, .int (a3 + 1)), (4, .int z0), (1, .int a1), (2, .int a2)]) (S' := []) (by decide +kernel) rfl ?_
    exact sm_sub [2, 3, 0] rfl (ih2 a1 a2 (a3 + 1) τ)
  · refine sm_seg C [(.iload_n 3, 0)] (pc' := 46) (L' := [(4, .int z0), (1, .int a1), (2, .int a2), (3, .int a3)]) (S' := [.int a3]) (by decide +kernel) rfl ?_
    exact sm_iret C hr rfl (by decide +kernel)
def X4_fewestPricks_j34 (F : Nat) (self2 : Int32 → Int32 → Int32 → Tau → Option (Int32 × Tau)) (a1 : Int32) (a2 : Int32) (a3 : Int32) (z0 : Int32) (z1 : Int32) (τ : Tau) : Option (Int32 × Tau) :=
  X4_fewestPricks_j35 F self2 a1 a2 a3 (z1 + z0) τ
theorem s_X4_fewestPricks_j34 (F : Nat) {K : Ctx} (C : Cx K sysX RX4 cX4_fewestPricks 5 1) (hr : Rt K (some .int)) (self2 : Int32 → Int32 → Int32 → Tau → Option (Int32 × Tau)) (ih2 : ∀ (a1 : Int32) (a2 : Int32) (a3 : Int32) (τ : Tau), Sm K sysX 5 (Qi K sysX) (self2 a1 a2 a3 τ) 2 [(1, .int a1), (2, .int a2), (3, .int a3)] [] τ) (a1 : Int32) (a2 : Int32) (a3 : Int32) (z0 : Int32) (z1 : Int32) (τ : Tau) : Sm K sysX 5 (Qi K sysX) (X4_fewestPricks_j34 F self2 a1 a2 a3 z0 z1 τ) 34 [(1, .int a1), (2, .int a2), (3, .int a3)] [.int z0, .int z1] τ := by
  unfold X4_fewestPricks_j34
  refine sm_seg C [(.iadd, 0)] (pc' := 35) (L' := [(1, .int a1), (2, .int a2), (3, .int a3)]) (S' := [.int (z1 + z0)]) (by decide +kernel) rfl ?_
  exact sm_sub [0, 1, 2] rfl (s_X4_fewestPricks_j35 F C hr self2 ih2 a1 a2 a3 (z1 + z0) τ)
def X4_fewestPricks_L2 (F : Nat) : Nat → Int32 → Int32 → Int32 → Tau → Option (Int32 × Tau)
  | 0, _, _, _, _ => none
  | n + 1, a1, a2, a3, τ =>
    if 20 ≤ a3 then (some ((-1), τ)) else (if a2 = 0 then (X4_fewestPricks_j35 F (X4_fewestPricks_L2 F n) a1 a2 a3 a1 τ) else (if (rmd a1 2) = 0 then (X4_fewestPricks_j34 F (X4_fewestPricks_L2 F n) a1 a2 a3 0 (a1 * (a3 + 1)) τ) else (X4_fewestPricks_j34 F (X4_fewestPricks_L2 F n) a1 a2 a3 (a3 - 1) (a1 * (a3 + 1)) τ)))
theorem s_X4_fewestPricks_L2 (F : Nat) {K : Ctx} (C : Cx K sysX RX4 cX4_fewestPricks 5 1) (hr : Rt K (some .int)) : ∀ (n : Nat) (a1 : Int32) (a2 : Int32) (a3 : Int32) (τ : Tau), Sm K sysX 5 (Qi K sysX) (X4_fewestPricks_L2 F n a1 a2 a3 τ) 2 [(1, .int a1), (2, .int a2), (3, .int a3)] [] τ := by
  intro n
  induction n with
  | zero => intro a1 a2 a3 τ; exact sm_none
  | succ n ih =>
    intro a1 a2 a3 τ
    rw [X4_fewestPricks_L2]
    refine sm_seg C [(.iload_n 3, 0), (.bipush 20, 20)] (pc' := 5) (L' := [(1, .int a1), (2, .int a2), (3, .int a3)]) (S' := [.int 20, .int a3]) (by decide +kernel) rfl ?_
    refine sm_icmpge 53 (off := 48) C (by decide +kernel) (by decide) (fun _ => ?_) (fun _ => ?_)
    · refine sm_seg C [(.iconst (-1), (-1))] (pc' := 54) (L' := [(1, .int a1), (2, .int a2), (3, .int a3)]) (S' := [.int (-1)]) (by decide +kernel) rfl ?_
      exact sm_iret C hr rfl (by decide +kernel)
    · refine sm_seg C [(.iload_n 2, 0)] (pc' := 9) (L' := [(1, .int a1), (2, .int a2), (3, .int a3)]) (S' := [.int a2]) (by decide +kernel) rfl ?_
      refine sm_ifne 16 (off := 7) C (by decide +kernel) (by decide) (fun _ => ?_) (fun _ => ?_)
      · refine sm_seg C [(.iload_n 1, 0), (.goto 22, 0)] (pc' := 35) (L' := [(1, .int a1), (2, .int a2), (3, .int a3)]) (S' := [.int a1]) (by decide +kernel) rfl ?_
        exact sm_sub [0, 1, 2] rfl (s_X4_fewestPricks_j35 F C hr (X4_fewestPricks_L2 F n) ih a1 a2 a3 a1 τ)
      · refine sm_seg C [(.iload_n 1, 0), (.iload_n 3, 0), (.iconst 1, 1), (.iadd, 0), (.imul, 0), (.iload_n 1, 0), (.iconst 2, 2)] (pc' := 23) (L' := [(1, .int a1), (2, .int a2), (3, .int a3)]) (S' := [.int 2, .int a1, .int (a1 * (a3 + 1))]) (by decide +kernel) rfl ?_
        refine sm_irem C (by decide +kernel) (by decide) ?_
        refine sm_ifne 31 (off := 7) C (by decide +kernel) (by decide) (fun _ => ?_) (fun _ => ?_)
        · refine sm_seg C [(.iconst 0, 0), (.goto 6, 0)] (pc' := 34) (L' := [(1, .int a1), (2, .int a2), (3, .int a3)]) (S' := [.int 0, .int (a1 * (a3 + 1))]) (by decide +kernel) rfl ?_
          exact sm_sub [0, 1, 2] rfl (s_X4_fewestPricks_j34 F C hr (X4_fewestPricks_L2 F n) ih a1 a2 a3 0 (a1 * (a3 + 1)) τ)
        · refine sm_seg C [(.iload_n 3, 0), (.iconst 1, 1), (.isub, 0)] (pc' := 34) (L' := [(1, .int a1), (2, .int a2), (3, .int a3)]) (S' := [.int (a3 - 1), .int (a1 * (a3 + 1))]) (by decide +kernel) rfl ?_
          exact sm_sub [0, 1, 2] rfl (s_X4_fewestPricks_j34 F C hr (X4_fewestPricks_L2 F n) ih a1 a2 a3 (a3 - 1) (a1 * (a3 + 1)) τ)
def X4_fewestPricks (F : Nat) (a1 : Int32) (a2 : Int32) (τ : Tau) : Option (Int32 × Tau) :=
  X4_fewestPricks_L2 F F a1 a2 0 τ
set_option maxRecDepth 20000 in
set_option maxHeartbeats 4000000 in
theorem c_X4_fewestPricks (F : Nat) (a1 : Int32) (a2 : Int32) (τ : Tau) (r : Int32) (τ' : Tau) (h : X4_fewestPricks F a1 a2 τ = some (r, τ')) : MCi sysX yX4_fewestPricks cX4_fewestPricks 5 (some .int) 1 [.ref 213, .int a1, .int a2] τ r τ' :=
  mci_of (by decide +kernel) (Nat.le_of_ble_eq_true rfl) (fun K C hr => by
    show Sm K sysX 5 (Qi K sysX) (X4_fewestPricks F a1 a2 τ) 0 [(0, .ref 213), (1, .int a1), (2, .int a2)] [] τ
    unfold X4_fewestPricks
    refine sm_seg C [(.iconst 0, 0), (.istore_n 3, 0)] (pc' := 2) (L' := [(3, .int 0), (0, .ref 213), (1, .int a1), (2, .int a2)]) (S' := []) (by decide +kernel) rfl ?_
    exact sm_sub [2, 3, 0] rfl (s_X4_fewestPricks_L2 F C hr F a1 a2 0 τ)) h
/-! BasketEnvoys.pins -/
def X10_pins (F : Nat) (a1 : Int32) (a2 : Int32) (τ : Tau) : Option (Int32 × Tau) :=
  cal (X10_within F a1 1 20 τ) fun r1 τ2 => if r1 = 0 then (some ((-1), τ2)) else (cal (X10_within F a2 0 1 τ2) fun r3 τ4 => if r3 = 0 then (some ((-1), τ4)) else (cal (X4_fewestPricks F a1 a2 τ4) fun r5 τ6 => some (r5, τ6)))
set_option maxRecDepth 20000 in
set_option maxHeartbeats 4000000 in
theorem c_X10_pins (F : Nat) (a1 : Int32) (a2 : Int32) (τ : Tau) (r : Int32) (τ' : Tau) (h : X10_pins F a1 a2 τ = some (r, τ')) : MCi sysX yX10_pins cX10_pins 3 (some .int) 2 [.ref 0, .int a1, .int a2] τ r τ' :=
  mci_of (by decide +kernel) (Nat.le_of_ble_eq_true rfl) (fun K C hr => by
    show Sm K sysX 3 (Qi K sysX) (X10_pins F a1 a2 τ) 0 [(0, .ref 0), (1, .int a1), (2, .int a2)] [] τ
    unfold X10_pins
    refine sm_seg C [(.iload_n 1, 0), (.iconst 1, 1), (.bipush 20, 20)] (pc' := 4) (L' := [(0, .ref 0), (1, .int a1), (2, .int a2)]) (S' := [.int 20, .int 1, .int a1]) (by decide +kernel) rfl ?_
    refine sm_scal [.int a1, .int 1, .int 20] [] rfl C mw_X10_within ml_10_70 rfl ⟨by decide, by decide⟩ (Nat.le_of_ble_eq_true rfl) (by decide +kernel) (c_X10_within F a1 1 20 τ) (fun r1 τ2 => ?_)
    refine sm_ifeq 19 (off := 12) C (by decide +kernel) (by decide) (fun _ => ?_) (fun _ => ?_)
    · refine sm_seg C [(.iconst (-1), (-1))] (pc' := 20) (L' := [(0, .ref 0), (1, .int a1), (2, .int a2)]) (S' := [.int (-1)]) (by decide +kernel) rfl ?_
      exact sm_iret C hr rfl (by decide +kernel)
    · refine sm_seg C [(.iload_n 2, 0), (.iconst 0, 0), (.iconst 1, 1)] (pc' := 13) (L' := [(0, .ref 0), (1, .int a1), (2, .int a2)]) (S' := [.int 1, .int 0, .int a2]) (by decide +kernel) rfl ?_
      refine sm_scal [.int a2, .int 0, .int 1] [] rfl C mw_X10_within ml_10_70 rfl ⟨by decide, by decide⟩ (Nat.le_of_ble_eq_true rfl) (by decide +kernel) (c_X10_within F a2 0 1 τ2) (fun r3 τ4 => ?_)
      refine sm_ifne 21 (off := 5) C (by decide +kernel) (by decide) (fun _ => ?_) (fun _ => ?_)
      · refine sm_seg C [(.iconst (-1), (-1))] (pc' := 20) (L' := [(0, .ref 0), (1, .int a1), (2, .int a2)]) (S' := [.int (-1)]) (by decide +kernel) rfl ?_
        exact sm_iret C hr rfl (by decide +kernel)
      · refine sm_seg C [(.aload_n 0, 0)] (pc' := 22) (L' := [(0, .ref 0), (1, .int a1), (2, .int a2)]) (S' := [.ref 0]) (by decide +kernel) rfl ?_
        refine sm_getR 10 7 213 cls10 C (ltX (by decide +kernel : kdX 0 = 10) (by decide)) (by decide +kernel : kdX 0 = 10) (obX10 (by decide +kernel : kdX 0 = 10)) (by decide) (frX10_7 (by decide +kernel : kdX 0 = 10)) fl10_56 (by decide +kernel) ?_
        refine sm_seg C [(.iload_n 1, 0), (.iload_n 2, 0)] (pc' := 27) (L' := [(0, .ref 0), (1, .int a1), (2, .int a2)]) (S' := [.int a2, .int a1, .ref 213]) (by decide +kernel) rfl ?_
        refine sm_vcal [.int a1, .int a2] [] rfl C mw_X4_fewestPricks ml_10_289 rfl (ci := 4) rfl (ltX (krX10_7 (by decide +kernel : kdX 0 = 10)) (by decide)) (krX10_7 (by decide +kernel : kdX 0 = 10)) (by decide) ⟨by decide, by decide⟩ (Nat.le_of_ble_eq_true rfl) (by decide +kernel) (c_X4_fewestPricks F a1 a2 τ4) (fun r5 τ6 => ?_)
        exact sm_iret C hr rfl (by decide +kernel)) h
/-! BasketEnvoys_Town.addPower -/
def X8_addPower (F : Nat) (t0 : Nat) (a1 : Int32) (τ : Tau) : Option (Int32 × Tau) :=
  if (τ t0 0) < 10 then (ast τ (t0 + 1) 10 (τ t0 0) a1 fun τ1 => ast τ1 (t0 + 2) 10 (τ1 t0 0) 0 fun τ2 => ast τ2 (t0 + 3) 10 (τ2 t0 0) 0 fun τ3 => ast τ3 (t0 + 4) 10 (τ3 t0 0) 0 fun τ4 => pst τ4 t0 0 ((τ4 t0 0) + 1) fun τ5 => some (((τ5 t0 0) - 1), τ5)) else (some ((-1), τ))
set_option maxRecDepth 20000 in
set_option maxHeartbeats 4000000 in
theorem c_X8_addPower (F : Nat) (t0 : Nat) (h0 : kdX t0 = 8) (a1 : Int32) (τ : Tau) (r : Int32) (τ' : Tau) (h : X8_addPower F t0 a1 τ = some (r, τ')) : MCi sysX yX8_addPower cX8_addPower 2 (some .int) 1 [.ref t0, .int a1] τ r τ' :=
  mci_of (by decide +kernel) (Nat.le_of_ble_eq_true rfl) (fun K C hr => by
    show Sm K sysX 2 (Qi K sysX) (X8_addPower F t0 a1 τ) 0 [(0, .ref t0), (1, .int a1)] [] τ
    unfold X8_addPower
    refine sm_seg C [(.aload_n 0, 0)] (pc' := 1) (L' := [(0, .ref t0), (1, .int a1)]) (S' := [.ref t0]) (by decide +kernel) rfl ?_
    refine sm_getI 8 0 cls8 C (ltX h0 (by decide)) h0 (obX8 h0) (by decide) (fiX8_0 h0) fl8_9 (by decide +kernel) ?_
    refine sm_seg C [(.bipush 10, 10)] (pc' := 6) (L' := [(0, .ref t0), (1, .int a1)]) (S' := [.int 10, .int (τ t0 0)]) (by decide +kernel) rfl ?_
    refine sm_icmplt 11 (off := 5) C (by decide +kernel) (by decide) (fun _ => ?_) (fun _ => ?_)
    · refine sm_seg C [(.aload_n 0, 0)] (pc' := 12) (L' := [(0, .ref t0), (1, .int a1)]) (S' := [.ref t0]) (by decide +kernel) rfl ?_
      refine sm_getR 8 7 (t0 + 1) cls8 C (ltX h0 (by decide)) h0 (obX8 h0) (by decide) (frX8_7 h0) fl8_33 (by decide +kernel) ?_
      refine sm_seg C [(.aload_n 0, 0)] (pc' := 16) (L' := [(0, .ref t0), (1, .int a1)]) (S' := [.ref t0, .ref (t0 + 1)]) (by decide +kernel) rfl ?_
      refine sm_getI 8 0 cls8 C (ltX h0 (by decide)) h0 (obX8 h0) (by decide) (fiX8_0 h0) fl8_9 (by decide +kernel) ?_
      refine sm_seg C [(.iload_n 1, 0)] (pc' := 20) (L' := [(0, .ref t0), (1, .int a1)]) (S' := [.int a1, .int (τ t0 0), .ref (t0 + 1)]) (by decide +kernel) rfl ?_
      refine sm_ast 10 C (ltX (krX8_7 h0) (by decide)) (krX8_7 h0) (nrX8_7 h0) (by decide +kernel) (fun τ1 => ?_)
      refine sm_seg C [(.aload_n 0, 0)] (pc' := 22) (L' := [(0, .ref t0), (1, .int a1)]) (S' := [.ref t0]) (by decide +kernel) rfl ?_
      refine sm_getR 8 8 (t0 + 2) cls8 C (ltX h0 (by decide)) h0 (obX8 h0) (by decide) (frX8_8 h0) fl8_37 (by decide +kernel) ?_
      refine sm_seg C [(.aload_n 0, 0)] (pc' := 26) (L' := [(0, .ref t0), (1, .int a1)]) (S' := [.ref t0, .ref (t0 + 2)]) (by decide +kernel) rfl ?_
      refine sm_getI 8 0 cls8 C (ltX h0 (by decide)) h0 (obX8 h0) (by decide) (fiX8_0 h0) fl8_9 (by decide +kernel) ?_
      refine sm_seg C [(.iconst 0, 0)] (pc' := 30) (L' := [(0, .ref t0), (1, .int a1)]) (S' := [.int 0, .int (τ1 t0 0), .ref (t0 + 2)]) (by decide +kernel) rfl ?_
      refine sm_ast 10 C (ltX (krX8_8 h0) (by decide)) (krX8_8 h0) (nrX8_8 h0) (by decide +kernel) (fun τ2 => ?_)
      refine sm_seg C [(.aload_n 0, 0)] (pc' := 32) (L' := [(0, .ref t0), (1, .int a1)]) (S' := [.ref t0]) (by decide +kernel) rfl ?_
      refine sm_getR 8 9 (t0 + 3) cls8 C (ltX h0 (by decide)) h0 (obX8 h0) (by decide) (frX8_9 h0) fl8_40 (by decide +kernel) ?_
      refine sm_seg C [(.aload_n 0, 0)] (pc' := 36) (L' := [(0, .ref t0), (1, .int a1)]) (S' := [.ref t0, .ref (t0 + 3)]) (by decide +kernel) rfl ?_
      refine sm_getI 8 0 cls8 C (ltX h0 (by decide)) h0 (obX8 h0) (by decide) (fiX8_0 h0) fl8_9 (by decide +kernel) ?_
      refine sm_seg C [(.iconst 0, 0)] (pc' := 40) (L' := [(0, .ref t0), (1, .int a1)]) (S' := [.int 0, .int (τ2 t0 0), .ref (t0 + 3)]) (by decide +kernel) rfl ?_
      refine sm_ast 10 C (ltX (krX8_9 h0) (by decide)) (krX8_9 h0) (nrX8_9 h0) (by decide +kernel) (fun τ3 => ?_)
      refine sm_seg C [(.aload_n 0, 0)] (pc' := 42) (L' := [(0, .ref t0), (1, .int a1)]) (S' := [.ref t0]) (by decide +kernel) rfl ?_
      refine sm_getR 8 10 (t0 + 4) cls8 C (ltX h0 (by decide)) h0 (obX8 h0) (by decide) (frX8_10 h0) fl8_43 (by decide +kernel) ?_
      refine sm_seg C [(.aload_n 0, 0)] (pc' := 46) (L' := [(0, .ref t0), (1, .int a1)]) (S' := [.ref t0, .ref (t0 + 4)]) (by decide +kernel) rfl ?_
      refine sm_getI 8 0 cls8 C (ltX h0 (by decide)) h0 (obX8 h0) (by decide) (fiX8_0 h0) fl8_9 (by decide +kernel) ?_
      refine sm_seg C [(.iconst 0, 0)] (pc' := 50) (L' := [(0, .ref t0), (1, .int a1)]) (S' := [.int 0, .int (τ3 t0 0), .ref (t0 + 4)]) (by decide +kernel) rfl ?_
      refine sm_ast 10 C (ltX (krX8_10 h0) (by decide)) (krX8_10 h0) (nrX8_10 h0) (by decide +kernel) (fun τ4 => ?_)
      refine sm_seg C [(.aload_n 0, 0), (.dup, 0)] (pc' := 53) (L' := [(0, .ref t0), (1, .int a1)]) (S' := [.ref t0, .ref t0]) (by decide +kernel) rfl ?_
      refine sm_getI 8 0 cls8 C (ltX h0 (by decide)) h0 (obX8 h0) (by decide) (fiX8_0 h0) fl8_9 (by decide +kernel) ?_
      refine sm_seg C [(.iconst 1, 1), (.iadd, 0)] (pc' := 58) (L' := [(0, .ref t0), (1, .int a1)]) (S' := [.int ((τ4 t0 0) + 1), .ref t0]) (by decide +kernel) rfl ?_
      refine sm_pst 8 0 cls8 C (ltX h0 (by decide)) h0 (obX8 h0) (by decide) (fiX8_0 h0) rfl rfl rfl fl8_9 (by decide +kernel) (fun τ5 => ?_)
      refine sm_seg C [(.aload_n 0, 0)] (pc' := 62) (L' := [(0, .ref t0), (1, .int a1)]) (S' := [.ref t0]) (by decide +kernel) rfl ?_
      refine sm_getI 8 0 cls8 C (ltX h0 (by decide)) h0 (obX8 h0) (by decide) (fiX8_0 h0) fl8_9 (by decide +kernel) ?_
      refine sm_seg C [(.iconst 1, 1), (.isub, 0)] (pc' := 67) (L' := [(0, .ref t0), (1, .int a1)]) (S' := [.int ((τ5 t0 0) - 1)]) (by decide +kernel) rfl ?_
      exact sm_iret C hr rfl (by decide +kernel)
    · refine sm_seg C [(.iconst (-1), (-1))] (pc' := 10) (L' := [(0, .ref t0), (1, .int a1)]) (S' := [.int (-1)]) (by decide +kernel) rfl ?_
      exact sm_iret C hr rfl (by decide +kernel)) h
/-! BasketEnvoys.power -/
def X10_power (F : Nat) (a1 : Int32) (τ : Tau) : Option (Int32 × Tau) :=
  cal (X10_within F a1 0 99 τ) fun r1 τ2 => if r1 = 0 then (some ((-1), τ2)) else (if (τ2 2 0) < 10 then (cal (X1_forget F τ2) fun r3 τ4 => cal (X8_addPower F 2 a1 τ4) fun r5 τ6 => some (r5, τ6)) else (some ((-1), τ2)))
set_option maxRecDepth 20000 in
set_option maxHeartbeats 4000000 in
theorem c_X10_power (F : Nat) (a1 : Int32) (τ : Tau) (r : Int32) (τ' : Tau) (h : X10_power F a1 τ = some (r, τ')) : MCi sysX yX10_power cX10_power 2 (some .int) 2 [.ref 0, .int a1] τ r τ' :=
  mci_of (by decide +kernel) (Nat.le_of_ble_eq_true rfl) (fun K C hr => by
    show Sm K sysX 2 (Qi K sysX) (X10_power F a1 τ) 0 [(0, .ref 0), (1, .int a1)] [] τ
    unfold X10_power
    refine sm_seg C [(.iload_n 1, 0), (.iconst 0, 0), (.bipush 99, 99)] (pc' := 4) (L' := [(0, .ref 0), (1, .int a1)]) (S' := [.int 99, .int 0, .int a1]) (by decide +kernel) rfl ?_
    refine sm_scal [.int a1, .int 0, .int 99] [] rfl C mw_X10_within ml_10_70 rfl ⟨by decide, by decide⟩ (Nat.le_of_ble_eq_true rfl) (by decide +kernel) (c_X10_within F a1 0 99 τ) (fun r1 τ2 => ?_)
    refine sm_ifeq 25 (off := 18) C (by decide +kernel) (by decide) (fun _ => ?_) (fun _ => ?_)
    · refine sm_seg C [(.iconst (-1), (-1))] (pc' := 26) (L' := [(0, .ref 0), (1, .int a1)]) (S' := [.int (-1)]) (by decide +kernel) rfl ?_
      exact sm_iret C hr rfl (by decide +kernel)
    · refine sm_seg C [(.aload_n 0, 0)] (pc' := 11) (L' := [(0, .ref 0), (1, .int a1)]) (S' := [.ref 0]) (by decide +kernel) rfl ?_
      refine sm_getR 10 0 1 cls10 C (ltX (by decide +kernel : kdX 0 = 10) (by decide)) (by decide +kernel : kdX 0 = 10) (obX10 (by decide +kernel : kdX 0 = 10)) (by decide) (frX10_0 (by decide +kernel : kdX 0 = 10)) fl10_12 (by decide +kernel) ?_
      refine sm_getR 9 0 2 cls9 C (ltX (krX10_0 (by decide +kernel : kdX 0 = 10)) (by decide)) (krX10_0 (by decide +kernel : kdX 0 = 10)) (obX9 (krX10_0 (by decide +kernel : kdX 0 = 10))) (by decide) (frX9_0 (krX10_0 (by decide +kernel : kdX 0 = 10))) fl10_60 (by decide +kernel) ?_
      refine sm_getI 8 0 cls8 C (ltX (krX9_0 (krX10_0 (by decide +kernel : kdX 0 = 10))) (by decide)) (krX9_0 (krX10_0 (by decide +kernel : kdX 0 = 10))) (obX8 (krX9_0 (krX10_0 (by decide +kernel : kdX 0 = 10)))) (by decide) (fiX8_0 (krX9_0 (krX10_0 (by decide +kernel : kdX 0 = 10)))) fl10_74 (by decide +kernel) ?_
      refine sm_seg C [(.bipush 10, 10)] (pc' := 22) (L' := [(0, .ref 0), (1, .int a1)]) (S' := [.int 10, .int (τ2 2 0)]) (by decide +kernel) rfl ?_
      refine sm_icmplt 27 (off := 5) C (by decide +kernel) (by decide) (fun _ => ?_) (fun _ => ?_)
      · refine sm_seg C [(.aload_n 0, 0)] (pc' := 28) (L' := [(0, .ref 0), (1, .int a1)]) (S' := [.ref 0]) (by decide +kernel) rfl ?_
        refine sm_getR 10 4 116 cls10 C (ltX (by decide +kernel : kdX 0 = 10) (by decide)) (by decide +kernel : kdX 0 = 10) (obX10 (by decide +kernel : kdX 0 = 10)) (by decide) (frX10_4 (by decide +kernel : kdX 0 = 10)) fl10_33 (by decide +kernel) ?_
        refine sm_vcalv [] [] rfl C mw_X1_forget ml_10_67 rfl (ci := 1) rfl (ltX (krX10_4 (by decide +kernel : kdX 0 = 10)) (by decide)) (krX10_4 (by decide +kernel : kdX 0 = 10)) (by decide) ⟨by decide, by decide⟩ (Nat.le_of_ble_eq_true rfl) (by decide +kernel) (c_X1_forget F τ2) (fun r3 τ4 => ?_)
        refine sm_seg C [(.aload_n 0, 0)] (pc' := 35) (L' := [(0, .ref 0), (1, .int a1)]) (S' := [.ref 0]) (by decide +kernel) rfl ?_
        refine sm_getR 10 0 1 cls10 C (ltX (by decide +kernel : kdX 0 = 10) (by decide)) (by decide +kernel : kdX 0 = 10) (obX10 (by decide +kernel : kdX 0 = 10)) (by decide) (frX10_0 (by decide +kernel : kdX 0 = 10)) fl10_12 (by decide +kernel) ?_
        refine sm_getR 9 0 2 cls9 C (ltX (krX10_0 (by decide +kernel : kdX 0 = 10)) (by decide)) (krX10_0 (by decide +kernel : kdX 0 = 10)) (obX9 (krX10_0 (by decide +kernel : kdX 0 = 10))) (by decide) (frX9_0 (krX10_0 (by decide +kernel : kdX 0 = 10))) fl10_60 (by decide +kernel) ?_
        refine sm_seg C [(.iload_n 1, 0)] (pc' := 42) (L' := [(0, .ref 0), (1, .int a1)]) (S' := [.int a1, .ref 2]) (by decide +kernel) rfl ?_
        refine sm_vcal [.int a1] [] rfl C mw_X8_addPower ml_10_77 rfl (ci := 8) rfl (ltX (krX9_0 (krX10_0 (by decide +kernel : kdX 0 = 10))) (by decide)) (krX9_0 (krX10_0 (by decide +kernel : kdX 0 = 10))) (by decide) ⟨by decide, by decide⟩ (Nat.le_of_ble_eq_true rfl) (by decide +kernel) (c_X8_addPower F 2 (krX9_0 (krX10_0 (by decide +kernel : kdX 0 = 10))) a1 τ4) (fun r5 τ6 => ?_)
        exact sm_iret C hr rfl (by decide +kernel)
      · refine sm_seg C [(.iconst (-1), (-1))] (pc' := 26) (L' := [(0, .ref 0), (1, .int a1)]) (S' := [.int (-1)]) (by decide +kernel) rfl ?_
        exact sm_iret C hr rfl (by decide +kernel)) h
/-! BasketEnvoys_Town.whoIsAt -/
def X8_whoIsAt_j32 (F : Nat) (self4 : Int32 → Int32 → Int32 → Tau → Option (Int32 × Tau)) (t0 : Nat) (a1 : Int32) (a3 : Int32) (z0 : Int32) (z1 : Int32) (τ : Tau) : Option (Int32 × Tau) :=
  self4 a1 (z1 ||| z0) (a3 + 1) τ
theorem s_X8_whoIsAt_j32 (F : Nat) (t0 : Nat) {K : Ctx} (C : Cx K sysX RX8 cX8_whoIsAt 4 2) (hr : Rt K (some .int)) (h0 : kdX t0 = 8) (self4 : Int32 → Int32 → Int32 → Tau → Option (Int32 × Tau)) (ih4 : ∀ (a1 : Int32) (a2 : Int32) (a3 : Int32) (τ : Tau), Sm K sysX 4 (Qi K sysX) (self4 a1 a2 a3 τ) 4 [(0, .ref t0), (1, .int a1), (2, .int a2), (3, .int a3)] [] τ) (a1 : Int32) (a3 : Int32) (z0 : Int32) (z1 : Int32) (τ : Tau) : Sm K sysX 4 (Qi K sysX) (X8_whoIsAt_j32 F self4 t0 a1 a3 z0 z1 τ) 32 [(0, .ref t0), (1, .int a1), (3, .int a3)] [.int z0, .int z1] τ := by
  unfold X8_whoIsAt_j32
  refine sm_seg C [(.ior, 0), (.istore_n 2, 0), (.iinc 3 1, 1), (.goto (-33), 0)] (pc' := 4) (L' := [(3, .int (a3 + 1)), (2, .int (z1 ||| z0)), (0, .ref t0), (1, .int a1)]) (S' := []) (by decide +kernel) rfl ?_
  exact sm_sub [2, 3, 1, 0] rfl (ih4 a1 (z1 ||| z0) (a3 + 1) τ)
def X8_whoIsAt_L4 (F : Nat) (t0 : Nat) : Nat → Int32 → Int32 → Int32 → Tau → Option (Int32 × Tau)
  | 0, _, _, _, _ => none
  | n + 1, a1, a2, a3, τ =>
    if (τ t0 1) ≤ a3 then (some (a2, τ)) else (cal (X10_entry F (t0 + 8) a3 τ) fun r1 τ2 => if r1 = a1 then (X8_whoIsAt_j32 F (X8_whoIsAt_L4 F t0 n) t0 a1 a3 (shl 1 a3) a2 τ2) else (X8_whoIsAt_j32 F (X8_whoIsAt_L4 F t0 n) t0 a1 a3 0 a2 τ2))
theorem s_X8_whoIsAt_L4 (F : Nat) (t0 : Nat) {K : Ctx} (C : Cx K sysX RX8 cX8_whoIsAt 4 2) (hr : Rt K (some .int)) (h0 : kdX t0 = 8) : ∀ (n : Nat) (a1 : Int32) (a2 : Int32) (a3 : Int32) (τ : Tau), Sm K sysX 4 (Qi K sysX) (X8_whoIsAt_L4 F t0 n a1 a2 a3 τ) 4 [(0, .ref t0), (1, .int a1), (2, .int a2), (3, .int a3)] [] τ := by
  intro n
  induction n with
  | zero => intro a1 a2 a3 τ; exact sm_none
  | succ n ih =>
    intro a1 a2 a3 τ
    rw [X8_whoIsAt_L4]
    refine sm_seg C [(.iload_n 3, 0), (.aload_n 0, 0)] (pc' := 6) (L' := [(0, .ref t0), (1, .int a1), (2, .int a2), (3, .int a3)]) (S' := [.ref t0, .int a3]) (by decide +kernel) rfl ?_
    refine sm_getI 8 1 cls8 C (ltX h0 (by decide)) h0 (obX8 h0) (by decide) (fiX8_1 h0) fl8_15 (by decide +kernel) ?_
    refine sm_icmpge 40 (off := 31) C (by decide +kernel) (by decide) (fun _ => ?_) (fun _ => ?_)
    · refine sm_seg C [(.iload_n 2, 0)] (pc' := 41) (L' := [(0, .ref t0), (1, .int a1), (2, .int a2), (3, .int a3)]) (S' := [.int a2]) (by decide +kernel) rfl ?_
      exact sm_iret C hr rfl (by decide +kernel)
    · refine sm_seg C [(.iload_n 2, 0), (.aload_n 0, 0)] (pc' := 14) (L' := [(0, .ref t0), (1, .int a1), (2, .int a2), (3, .int a3)]) (S' := [.ref t0, .int a2]) (by decide +kernel) rfl ?_
      refine sm_getR 8 14 (t0 + 8) cls8 C (ltX h0 (by decide)) h0 (obX8 h0) (by decide) (frX8_14 h0) fl8_55 (by decide +kernel) ?_
      refine sm_seg C [(.iload_n 3, 0)] (pc' := 18) (L' := [(0, .ref t0), (1, .int a1), (2, .int a2), (3, .int a3)]) (S' := [.int a3, .ref (t0 + 8), .int a2]) (by decide +kernel) rfl ?_
      refine sm_ncal "BasketEnvoys" [.ref (t0 + 8), .int a3] [.int a2] rfl C mw_X10_entry ml_8_95 rfl ⟨by decide, by decide⟩ (Nat.le_of_ble_eq_true rfl) (by decide +kernel) (c_X10_entry F (t0 + 8) (krX8_14 h0) a3 τ) (fun r1 τ2 => ?_)
      refine sm_seg C [(.iload_n 1, 0)] (pc' := 22) (L' := [(0, .ref t0), (1, .int a1), (2, .int a2), (3, .int a3)]) (S' := [.int a1, .int r1, .int a2]) (by decide +kernel) rfl ?_
      refine sm_icmpne 31 (off := 9) C (by decide +kernel) (by decide) (fun _ => ?_) (fun _ => ?_)
      · refine sm_seg C [(.iconst 1, 1), (.iload_n 3, 0), (.ishl, 0), (.goto 4, 0)] (pc' := 32) (L' := [(0, .ref t0), (1, .int a1), (2, .int a2), (3, .int a3)]) (S' := [.int (shl 1 a3), .int a2]) (by decide +kernel) rfl ?_
        exact sm_sub [0, 1, 3] rfl (s_X8_whoIsAt_j32 F t0 C hr h0 (X8_whoIsAt_L4 F t0 n) ih a1 a3 (shl 1 a3) a2 τ2)
      · refine sm_seg C [(.iconst 0, 0)] (pc' := 32) (L' := [(0, .ref t0), (1, .int a1), (2, .int a2), (3, .int a3)]) (S' := [.int 0, .int a2]) (by decide +kernel) rfl ?_
        exact sm_sub [0, 1, 3] rfl (s_X8_whoIsAt_j32 F t0 C hr h0 (X8_whoIsAt_L4 F t0 n) ih a1 a3 0 a2 τ2)
def X8_whoIsAt (F : Nat) (t0 : Nat) (a1 : Int32) (τ : Tau) : Option (Int32 × Tau) :=
  X8_whoIsAt_L4 F t0 F a1 0 0 τ
set_option maxRecDepth 20000 in
set_option maxHeartbeats 4000000 in
theorem c_X8_whoIsAt (F : Nat) (t0 : Nat) (h0 : kdX t0 = 8) (a1 : Int32) (τ : Tau) (r : Int32) (τ' : Tau) (h : X8_whoIsAt F t0 a1 τ = some (r, τ')) : MCi sysX yX8_whoIsAt cX8_whoIsAt 4 (some .int) 2 [.ref t0, .int a1] τ r τ' :=
  mci_of (by decide +kernel) (Nat.le_of_ble_eq_true rfl) (fun K C hr => by
    show Sm K sysX 4 (Qi K sysX) (X8_whoIsAt F t0 a1 τ) 0 [(0, .ref t0), (1, .int a1)] [] τ
    unfold X8_whoIsAt
    refine sm_seg C [(.iconst 0, 0), (.istore_n 2, 0), (.iconst 0, 0), (.istore_n 3, 0)] (pc' := 4) (L' := [(3, .int 0), (2, .int 0), (0, .ref t0), (1, .int a1)]) (S' := []) (by decide +kernel) rfl ?_
    exact sm_sub [2, 3, 1, 0] rfl (s_X8_whoIsAt_L4 F t0 C hr h0 F a1 0 0 τ)) h
/-! BasketEnvoys.powerOf -/
def X10_powerOf (F : Nat) (a1 : Int32) (a2 : Int32) (τ : Tau) : Option (Int32 × Tau) :=
  cal (X8_hasPower F 2 a1 τ) fun r1 τ2 => if r1 = 0 then (some ((-2), τ2)) else (if a2 = 0 then (ald τ2 3 10 a1 fun v3 => some (v3, τ2)) else if a2 = 1 then (ald τ2 4 10 a1 fun v4 => some (v4, τ2)) else if a2 = 2 then (ald τ2 5 10 a1 fun v5 => some (v5, τ2)) else if a2 = 3 then (ald τ2 6 10 a1 fun v6 => some (v6, τ2)) else if a2 = 4 then (cal (X9_wantedBy F 1 a1 τ2) fun r7 τ8 => some (r7, τ8)) else if a2 = 5 then (cal (X8_whoIsAt F 2 a1 τ2) fun r9 τ10 => some (r9, τ10)) else (cal (X10_within F a2 10 15 τ2) fun r11 τ12 => if r11 = 0 then (cal (X10_within F a2 100 111 τ12) fun r13 τ14 => if r13 = 0 then (some ((-2), τ14)) else (cal (X9_saysTo F 1 a1 (a2 - 100) τ14) fun r15 τ16 => some (r15, τ16))) else (cal (X9_wantAt F 1 a1 (a2 - 10) τ12) fun r17 τ18 => some (r17, τ18))))
set_option maxRecDepth 20000 in
set_option maxHeartbeats 4000000 in
theorem c_X10_powerOf (F : Nat) (a1 : Int32) (a2 : Int32) (τ : Tau) (r : Int32) (τ' : Tau) (h : X10_powerOf F a1 a2 τ = some (r, τ')) : MCi sysX yX10_powerOf cX10_powerOf 4 (some .int) 3 [.ref 0, .int a1, .int a2] τ r τ' :=
  mci_of (by decide +kernel) (Nat.le_of_ble_eq_true rfl) (fun K C hr => by
    show Sm K sysX 4 (Qi K sysX) (X10_powerOf F a1 a2 τ) 0 [(0, .ref 0), (1, .int a1), (2, .int a2)] [] τ
    unfold X10_powerOf
    refine sm_seg C [(.aload_n 0, 0)] (pc' := 1) (L' := [(0, .ref 0), (1, .int a1), (2, .int a2)]) (S' := [.ref 0]) (by decide +kernel) rfl ?_
    refine sm_getR 10 0 1 cls10 C (ltX (by decide +kernel : kdX 0 = 10) (by decide)) (by decide +kernel : kdX 0 = 10) (obX10 (by decide +kernel : kdX 0 = 10)) (by decide) (frX10_0 (by decide +kernel : kdX 0 = 10)) fl10_12 (by decide +kernel) ?_
    refine sm_getR 9 0 2 cls9 C (ltX (krX10_0 (by decide +kernel : kdX 0 = 10)) (by decide)) (krX10_0 (by decide +kernel : kdX 0 = 10)) (obX9 (krX10_0 (by decide +kernel : kdX 0 = 10))) (by decide) (frX9_0 (krX10_0 (by decide +kernel : kdX 0 = 10))) fl10_60 (by decide +kernel) ?_
    refine sm_seg C [(.astore_n 3, 0), (.aload_n 3, 0), (.iload_n 1, 0)] (pc' := 10) (L' := [(3, .ref 2), (0, .ref 0), (1, .int a1), (2, .int a2)]) (S' := [.int a1, .ref 2]) (by decide +kernel) rfl ?_
    refine sm_vcal [.int a1] [] rfl C mw_X8_hasPower ml_10_204 rfl (ci := 8) rfl (ltX (krX9_0 (krX10_0 (by decide +kernel : kdX 0 = 10))) (by decide)) (krX9_0 (krX10_0 (by decide +kernel : kdX 0 = 10))) (by decide) ⟨by decide, by decide⟩ (Nat.le_of_ble_eq_true rfl) (by decide +kernel) (c_X8_hasPower F 2 (krX9_0 (krX10_0 (by decide +kernel : kdX 0 = 10))) a1 τ) (fun r1 τ2 => ?_)
    refine sm_ifne 19 (off := 6) C (by decide +kernel) (by decide) (fun _ => ?_) (fun _ => ?_)
    · refine sm_seg C [(.bipush (-2), (-2))] (pc' := 18) (L' := [(3, .ref 2), (0, .ref 0), (1, .int a1), (2, .int a2)]) (S' := [.int (-2)]) (by decide +kernel) rfl ?_
      exact sm_iret C hr rfl (by decide +kernel)
    · refine sm_seg C [(.iload_n 2, 0)] (pc' := 20) (L' := [(3, .ref 2), (0, .ref 0), (1, .int a1), (2, .int a2)]) (S' := [.int a2]) (by decide +kernel) rfl ?_
      have hd20 : decode cX10_powerOf 20 = .ok (.tableswitch 83 0 5 #[40, 47, 54, 61, 68, 77], 40) := by decide +kernel
      refine sm_ite (fun e => ?_) (fun n20_0 => ?_)
      · refine sm_tabIn (off := 40) 60 C hd20 (by rw [e]; decide) (by rw [e]; decide) (by rw [e]; decide) (by decide) ?_
        refine sm_seg C [(.aload_n 3, 0)] (pc' := 61) (L' := [(3, .ref 2), (0, .ref 0), (1, .int a1), (2, .int a2)]) (S' := [.ref 2]) (by decide +kernel) rfl ?_
        refine sm_getR 8 7 3 cls8 C (ltX (krX9_0 (krX10_0 (by decide +kernel : kdX 0 = 10))) (by decide)) (krX9_0 (krX10_0 (by decide +kernel : kdX 0 = 10))) (obX8 (krX9_0 (krX10_0 (by decide +kernel : kdX 0 = 10)))) (by decide) (frX8_7 (krX9_0 (krX10_0 (by decide +kernel : kdX 0 = 10)))) fl10_207 (by decide +kernel) ?_
        refine sm_seg C [(.iload_n 1, 0)] (pc' := 65) (L' := [(3, .ref 2), (0, .ref 0), (1, .int a1), (2, .int a2)]) (S' := [.int a1, .ref 3]) (by decide +kernel) rfl ?_
        refine sm_ald 10 C (ltX (krX8_7 (krX9_0 (krX10_0 (by decide +kernel : kdX 0 = 10)))) (by decide)) (krX8_7 (krX9_0 (krX10_0 (by decide +kernel : kdX 0 = 10)))) (nrX8_7 (krX9_0 (krX10_0 (by decide +kernel : kdX 0 = 10)))) (by decide +kernel) (fun v3 => ?_)
        exact sm_iret C hr rfl (by decide +kernel)
      refine sm_ite (fun e => ?_) (fun n20_1 => ?_)
      · refine sm_tabIn (off := 47) 67 C hd20 (by rw [e]; decide) (by rw [e]; decide) (by rw [e]; decide) (by decide) ?_
        refine sm_seg C [(.aload_n 3, 0)] (pc' := 68) (L' := [(3, .ref 2), (0, .ref 0), (1, .int a1), (2, .int a2)]) (S' := [.ref 2]) (by decide +kernel) rfl ?_
        refine sm_getR 8 8 4 cls8 C (ltX (krX9_0 (krX10_0 (by decide +kernel : kdX 0 = 10))) (by decide)) (krX9_0 (krX10_0 (by decide +kernel : kdX 0 = 10))) (obX8 (krX9_0 (krX10_0 (by decide +kernel : kdX 0 = 10)))) (by decide) (frX8_8 (krX9_0 (krX10_0 (by decide +kernel : kdX 0 = 10)))) fl10_210 (by decide +kernel) ?_
        refine sm_seg C [(.iload_n 1, 0)] (pc' := 72) (L' := [(3, .ref 2), (0, .ref 0), (1, .int a1), (2, .int a2)]) (S' := [.int a1, .ref 4]) (by decide +kernel) rfl ?_
        refine sm_ald 10 C (ltX (krX8_8 (krX9_0 (krX10_0 (by decide +kernel : kdX 0 = 10)))) (by decide)) (krX8_8 (krX9_0 (krX10_0 (by decide +kernel : kdX 0 = 10)))) (nrX8_8 (krX9_0 (krX10_0 (by decide +kernel : kdX 0 = 10)))) (by decide +kernel) (fun v4 => ?_)
        exact sm_iret C hr rfl (by decide +kernel)
      refine sm_ite (fun e => ?_) (fun n20_2 => ?_)
      · refine sm_tabIn (off := 54) 74 C hd20 (by rw [e]; decide) (by rw [e]; decide) (by rw [e]; decide) (by decide) ?_
        refine sm_seg C [(.aload_n 3, 0)] (pc' := 75) (L' := [(3, .ref 2), (0, .ref 0), (1, .int a1), (2, .int a2)]) (S' := [.ref 2]) (by decide +kernel) rfl ?_
        refine sm_getR 8 9 5 cls8 C (ltX (krX9_0 (krX10_0 (by decide +kernel : kdX 0 = 10))) (by decide)) (krX9_0 (krX10_0 (by decide +kernel : kdX 0 = 10))) (obX8 (krX9_0 (krX10_0 (by decide +kernel : kdX 0 = 10)))) (by decide) (frX8_9 (krX9_0 (krX10_0 (by decide +kernel : kdX 0 = 10)))) fl10_105 (by decide +kernel) ?_
        refine sm_seg C [(.iload_n 1, 0)] (pc' := 79) (L' := [(3, .ref 2), (0, .ref 0), (1, .int a1), (2, .int a2)]) (S' := [.int a1, .ref 5]) (by decide +kernel) rfl ?_
        refine sm_ald 10 C (ltX (krX8_9 (krX9_0 (krX10_0 (by decide +kernel : kdX 0 = 10)))) (by decide)) (krX8_9 (krX9_0 (krX10_0 (by decide +kernel : kdX 0 = 10)))) (nrX8_9 (krX9_0 (krX10_0 (by decide +kernel : kdX 0 = 10)))) (by decide +kernel) (fun v5 => ?_)
        exact sm_iret C hr rfl (by decide +kernel)
      refine sm_ite (fun e => ?_) (fun n20_3 => ?_)
      · refine sm_tabIn (off := 61) 81 C hd20 (by rw [e]; decide) (by rw [e]; decide) (by rw [e]; decide) (by decide) ?_
        refine sm_seg C [(.aload_n 3, 0)] (pc' := 82) (L' := [(3, .ref 2), (0, .ref 0), (1, .int a1), (2, .int a2)]) (S' := [.ref 2]) (by decide +kernel) rfl ?_
        refine sm_getR 8 10 6 cls8 C (ltX (krX9_0 (krX10_0 (by decide +kernel : kdX 0 = 10))) (by decide)) (krX9_0 (krX10_0 (by decide +kernel : kdX 0 = 10))) (obX8 (krX9_0 (krX10_0 (by decide +kernel : kdX 0 = 10)))) (by decide) (frX8_10 (krX9_0 (krX10_0 (by decide +kernel : kdX 0 = 10)))) fl10_213 (by decide +kernel) ?_
        refine sm_seg C [(.iload_n 1, 0)] (pc' := 86) (L' := [(3, .ref 2), (0, .ref 0), (1, .int a1), (2, .int a2)]) (S' := [.int a1, .ref 6]) (by decide +kernel) rfl ?_
        refine sm_ald 10 C (ltX (krX8_10 (krX9_0 (krX10_0 (by decide +kernel : kdX 0 = 10)))) (by decide)) (krX8_10 (krX9_0 (krX10_0 (by decide +kernel : kdX 0 = 10)))) (nrX8_10 (krX9_0 (krX10_0 (by decide +kernel : kdX 0 = 10)))) (by decide +kernel) (fun v6 => ?_)
        exact sm_iret C hr rfl (by decide +kernel)
      refine sm_ite (fun e => ?_) (fun n20_4 => ?_)
      · refine sm_tabIn (off := 68) 88 C hd20 (by rw [e]; decide) (by rw [e]; decide) (by rw [e]; decide) (by decide) ?_
        refine sm_seg C [(.aload_n 0, 0)] (pc' := 89) (L' := [(3, .ref 2), (0, .ref 0), (1, .int a1), (2, .int a2)]) (S' := [.ref 0]) (by decide +kernel) rfl ?_
        refine sm_getR 10 0 1 cls10 C (ltX (by decide +kernel : kdX 0 = 10) (by decide)) (by decide +kernel : kdX 0 = 10) (obX10 (by decide +kernel : kdX 0 = 10)) (by decide) (frX10_0 (by decide +kernel : kdX 0 = 10)) fl10_12 (by decide +kernel) ?_
        refine sm_seg C [(.iload_n 1, 0)] (pc' := 93) (L' := [(3, .ref 2), (0, .ref 0), (1, .int a1), (2, .int a2)]) (S' := [.int a1, .ref 1]) (by decide +kernel) rfl ?_
        refine sm_vcal [.int a1] [] rfl C mw_X9_wantedBy ml_10_216 rfl (ci := 9) rfl (ltX (krX10_0 (by decide +kernel : kdX 0 = 10)) (by decide)) (krX10_0 (by decide +kernel : kdX 0 = 10)) (by decide) ⟨by decide, by decide⟩ (Nat.le_of_ble_eq_true rfl) (by decide +kernel) (c_X9_wantedBy F 1 (krX10_0 (by decide +kernel : kdX 0 = 10)) a1 τ2) (fun r7 τ8 => ?_)
        exact sm_iret C hr rfl (by decide +kernel)
      refine sm_ite (fun e => ?_) (fun n20_5 => ?_)
      · refine sm_tabIn (off := 77) 97 C hd20 (by rw [e]; decide) (by rw [e]; decide) (by rw [e]; decide) (by decide) ?_
        refine sm_seg C [(.aload_n 3, 0), (.iload_n 1, 0)] (pc' := 99) (L' := [(3, .ref 2), (0, .ref 0), (1, .int a1), (2, .int a2)]) (S' := [.int a1, .ref 2]) (by decide +kernel) rfl ?_
        refine sm_vcal [.int a1] [] rfl C mw_X8_whoIsAt ml_10_219 rfl (ci := 8) rfl (ltX (krX9_0 (krX10_0 (by decide +kernel : kdX 0 = 10))) (by decide)) (krX9_0 (krX10_0 (by decide +kernel : kdX 0 = 10))) (by decide) ⟨by decide, by decide⟩ (Nat.le_of_ble_eq_true rfl) (by decide +kernel) (c_X8_whoIsAt F 2 (krX9_0 (krX10_0 (by decide +kernel : kdX 0 = 10))) a1 τ2) (fun r9 τ10 => ?_)
        exact sm_iret C hr rfl (by decide +kernel)
      refine sm_tabOut 103 C hd20 (by have q0 := toInt_neZ (z := 0) n20_0 (by decide); have q1 := toInt_neZ (z := 1) n20_1 (by decide); have q2 := toInt_neZ (z := 2) n20_2 (by decide); have q3 := toInt_neZ (z := 3) n20_3 (by decide); have q4 := toInt_neZ (z := 4) n20_4 (by decide); have q5 := toInt_neZ (z := 5) n20_5 (by decide); omega) (by decide) ?_
      refine sm_seg C [(.iload_n 2, 0), (.bipush 10, 10), (.bipush 15, 15)] (pc' := 108) (L' := [(3, .ref 2), (0, .ref 0), (1, .int a1), (2, .int a2)]) (S' := [.int 15, .int 10, .int a2]) (by decide +kernel) rfl ?_
      refine sm_scal [.int a2, .int 10, .int 15] [] rfl C mw_X10_within ml_10_70 rfl ⟨by decide, by decide⟩ (Nat.le_of_ble_eq_true rfl) (by decide +kernel) (c_X10_within F a2 10 15 τ2) (fun r11 τ12 => ?_)
      refine sm_ifeq 127 (off := 16) C (by decide +kernel) (by decide) (fun _ => ?_) (fun _ => ?_)
      · refine sm_seg C [(.iload_n 2, 0), (.bipush 100, 100), (.bipush 111, 111)] (pc' := 132) (L' := [(3, .ref 2), (0, .ref 0), (1, .int a1), (2, .int a2)]) (S' := [.int 111, .int 100, .int a2]) (by decide +kernel) rfl ?_
        refine sm_scal [.int a2, .int 100, .int 111] [] rfl C mw_X10_within ml_10_70 rfl ⟨by decide, by decide⟩ (Nat.le_of_ble_eq_true rfl) (by decide +kernel) (c_X10_within F a2 100 111 τ12) (fun r13 τ14 => ?_)
        refine sm_ifeq 153 (off := 18) C (by decide +kernel) (by decide) (fun _ => ?_) (fun _ => ?_)
        · refine sm_seg C [(.bipush (-2), (-2))] (pc' := 155) (L' := [(3, .ref 2), (0, .ref 0), (1, .int a1), (2, .int a2)]) (S' := [.int (-2)]) (by decide +kernel) rfl ?_
          exact sm_iret C hr rfl (by decide +kernel)
        · refine sm_seg C [(.aload_n 0, 0)] (pc' := 139) (L' := [(3, .ref 2), (0, .ref 0), (1, .int a1), (2, .int a2)]) (S' := [.ref 0]) (by decide +kernel) rfl ?_
          refine sm_getR 10 0 1 cls10 C (ltX (by decide +kernel : kdX 0 = 10) (by decide)) (by decide +kernel : kdX 0 = 10) (obX10 (by decide +kernel : kdX 0 = 10)) (by decide) (frX10_0 (by decide +kernel : kdX 0 = 10)) fl10_12 (by decide +kernel) ?_
          refine sm_seg C [(.iload_n 1, 0), (.iload_n 2, 0), (.bipush 100, 100), (.isub, 0)] (pc' := 147) (L' := [(3, .ref 2), (0, .ref 0), (1, .int a1), (2, .int a2)]) (S' := [.int (a2 - 100), .int a1, .ref 1]) (by decide +kernel) rfl ?_
          refine sm_vcal [.int a1, .int (a2 - 100)] [] rfl C mw_X9_saysTo ml_10_225 rfl (ci := 9) rfl (ltX (krX10_0 (by decide +kernel : kdX 0 = 10)) (by decide)) (krX10_0 (by decide +kernel : kdX 0 = 10)) (by decide) ⟨by decide, by decide⟩ (Nat.le_of_ble_eq_true rfl) (by decide +kernel) (c_X9_saysTo F 1 (krX10_0 (by decide +kernel : kdX 0 = 10)) a1 (a2 - 100) τ14) (fun r15 τ16 => ?_)
          refine sm_seg C [(.goto 5, 0)] (pc' := 155) (L' := [(3, .ref 2), (0, .ref 0), (1, .int a1), (2, .int a2)]) (S' := [.int r15]) (by decide +kernel) rfl ?_
          exact sm_iret C hr rfl (by decide +kernel)
      · refine sm_seg C [(.aload_n 0, 0)] (pc' := 115) (L' := [(3, .ref 2), (0, .ref 0), (1, .int a1), (2, .int a2)]) (S' := [.ref 0]) (by decide +kernel) rfl ?_
        refine sm_getR 10 0 1 cls10 C (ltX (by decide +kernel : kdX 0 = 10) (by decide)) (by decide +kernel : kdX 0 = 10) (obX10 (by decide +kernel : kdX 0 = 10)) (by decide) (frX10_0 (by decide +kernel : kdX 0 = 10)) fl10_12 (by decide +kernel) ?_
        refine sm_seg C [(.iload_n 1, 0), (.iload_n 2, 0), (.bipush 10, 10), (.isub, 0)] (pc' := 123) (L' := [(3, .ref 2), (0, .ref 0), (1, .int a1), (2, .int a2)]) (S' := [.int (a2 - 10), .int a1, .ref 1]) (by decide +kernel) rfl ?_
        refine sm_vcal [.int a1, .int (a2 - 10)] [] rfl C mw_X9_wantAt ml_10_222 rfl (ci := 9) rfl (ltX (krX10_0 (by decide +kernel : kdX 0 = 10)) (by decide)) (krX10_0 (by decide +kernel : kdX 0 = 10)) (by decide) ⟨by decide, by decide⟩ (Nat.le_of_ble_eq_true rfl) (by decide +kernel) (c_X9_wantAt F 1 (krX10_0 (by decide +kernel : kdX 0 = 10)) a1 (a2 - 10) τ12) (fun r17 τ18 => ?_)
        exact sm_iret C hr rfl (by decide +kernel)) h
/-! BasketEnvoys.promise -/
def X10_promise_j39 (F : Nat) (a1 : Int32) (a2 : Int32) (a3 : Int32) (z0 : Int32) (τ : Tau) : Option (Int32 × Tau) :=
  if a1 = (-1) then (cal (X5_empty F 24 τ) fun r3 τ4 => some (r3, τ4)) else (cal (X5_add F 24 (((64 * a3) + (8 * a2)) + a1) z0 τ) fun r5 τ6 => some (r5, τ6))
theorem s_X10_promise_j39 (F : Nat) {K : Ctx} (C : Cx K sysX RX10 cX10_promise 5 2) (hr : Rt K (some .int)) (a1 : Int32) (a2 : Int32) (a3 : Int32) (z0 : Int32) (τ : Tau) : Sm K sysX 5 (Qi K sysX) (X10_promise_j39 F a1 a2 a3 z0 τ) 39 [(0, .ref 0), (1, .int a1), (2, .int a2), (3, .int a3)] [.int z0] τ := by
  unfold X10_promise_j39
  refine sm_seg C [(.istore 4, 0), (.iload_n 1, 0), (.iconst (-1), (-1))] (pc' := 43) (L' := [(4, .int z0), (0, .ref 0), (1, .int a1), (2, .int a2), (3, .int a3)]) (S' := [.int (-1), .int a1]) (by decide +kernel) rfl ?_
  refine sm_icmpne 62 (off := 19) C (by decide +kernel) (by decide) (fun _ => ?_) (fun _ => ?_)
  · refine sm_seg C [(.aload_n 0, 0)] (pc' := 47) (L' := [(4, .int z0), (0, .ref 0), (1, .int a1), (2, .int a2), (3, .int a3)]) (S' := [.ref 0]) (by decide +kernel) rfl ?_
    refine sm_getR 10 0 1 cls10 C (ltX (by decide +kernel : kdX 0 = 10) (by decide)) (by decide +kernel : kdX 0 = 10) (obX10 (by decide +kernel : kdX 0 = 10)) (by decide) (frX10_0 (by decide +kernel : kdX 0 = 10)) fl10_12 (by decide +kernel) ?_
    refine sm_getR 9 1 15 cls9 C (ltX (krX10_0 (by decide +kernel : kdX 0 = 10)) (by decide)) (krX10_0 (by decide +kernel : kdX 0 = 10)) (obX9 (krX10_0 (by decide +kernel : kdX 0 = 10))) (by decide) (frX9_1 (krX10_0 (by decide +kernel : kdX 0 = 10))) fl10_243 (by decide +kernel) ?_
    refine sm_getR 7 4 24 cls7 C (ltX (krX9_1 (krX10_0 (by decide +kernel : kdX 0 = 10))) (by decide)) (krX9_1 (krX10_0 (by decide +kernel : kdX 0 = 10))) (obX7 (krX9_1 (krX10_0 (by decide +kernel : kdX 0 = 10)))) (by decide) (frX7_4 (krX9_1 (krX10_0 (by decide +kernel : kdX 0 = 10)))) fl10_345 (by decide +kernel) ?_
    refine sm_vcal [] [] rfl C mw_X5_empty ml_10_333 rfl (ci := 5) rfl (ltX (krX7_4 (krX9_1 (krX10_0 (by decide +kernel : kdX 0 = 10)))) (by decide)) (krX7_4 (krX9_1 (krX10_0 (by decide +kernel : kdX 0 = 10)))) (by decide) ⟨by decide, by decide⟩ (Nat.le_of_ble_eq_true rfl) (by decide +kernel) (c_X5_empty F 24 (krX7_4 (krX9_1 (krX10_0 (by decide +kernel : kdX 0 = 10)))) τ) (fun r3 τ4 => ?_)
    refine sm_seg C [(.goto 29, 0)] (pc' := 88) (L' := [(4, .int z0), (0, .ref 0), (1, .int a1), (2, .int a2), (3, .int a3)]) (S' := [.int r3]) (by decide +kernel) rfl ?_
    exact sm_iret C hr rfl (by decide +kernel)
  · refine sm_seg C [(.aload_n 0, 0)] (pc' := 63) (L' := [(4, .int z0), (0, .ref 0), (1, .int a1), (2, .int a2), (3, .int a3)]) (S' := [.ref 0]) (by decide +kernel) rfl ?_
    refine sm_getR 10 0 1 cls10 C (ltX (by decide +kernel : kdX 0 = 10) (by decide)) (by decide +kernel : kdX 0 = 10) (obX10 (by decide +kernel : kdX 0 = 10)) (by decide) (frX10_0 (by decide +kernel : kdX 0 = 10)) fl10_12 (by decide +kernel) ?_
    refine sm_getR 9 1 15 cls9 C (ltX (krX10_0 (by decide +kernel : kdX 0 = 10)) (by decide)) (krX10_0 (by decide +kernel : kdX 0 = 10)) (obX9 (krX10_0 (by decide +kernel : kdX 0 = 10))) (by decide) (frX9_1 (krX10_0 (by decide +kernel : kdX 0 = 10))) fl10_243 (by decide +kernel) ?_
    refine sm_getR 7 4 24 cls7 C (ltX (krX9_1 (krX10_0 (by decide +kernel : kdX 0 = 10))) (by decide)) (krX9_1 (krX10_0 (by decide +kernel : kdX 0 = 10))) (obX7 (krX9_1 (krX10_0 (by decide +kernel : kdX 0 = 10)))) (by decide) (frX7_4 (krX9_1 (krX10_0 (by decide +kernel : kdX 0 = 10)))) fl10_345 (by decide +kernel) ?_
    refine sm_seg C [(.bipush 64, 64), (.iload_n 3, 0), (.imul, 0), (.bipush 8, 8), (.iload_n 2, 0), (.imul, 0), (.iadd, 0), (.iload_n 1, 0), (.iadd, 0), (.iload 4, 0)] (pc' := 85) (L' := [(4, .int z0), (0, .ref 0), (1, .int a1), (2, .int a2), (3, .int a3)]) (S' := [.int z0, .int (((64 * a3) + (8 * a2)) + a1), .ref 24]) (by decide +kernel) rfl ?_
    refine sm_vcal [.int (((64 * a3) + (8 * a2)) + a1), .int z0] [] rfl C mw_X5_add ml_10_336 rfl (ci := 5) rfl (ltX (krX7_4 (krX9_1 (krX10_0 (by decide +kernel : kdX 0 = 10)))) (by decide)) (krX7_4 (krX9_1 (krX10_0 (by decide +kernel : kdX 0 = 10)))) (by decide) ⟨by decide, by decide⟩ (Nat.le_of_ble_eq_true rfl) (by decide +kernel) (c_X5_add F 24 (krX7_4 (krX9_1 (krX10_0 (by decide +kernel : kdX 0 = 10)))) (((64 * a3) + (8 * a2)) + a1) z0 τ) (fun r5 τ6 => ?_)
    exact sm_iret C hr rfl (by decide +kernel)
def X10_promise_j38 (F : Nat) (a1 : Int32) (a2 : Int32) (a3 : Int32) (τ : Tau) : Option (Int32 × Tau) :=
  X10_promise_j39 F a1 a2 a3 0 τ
theorem s_X10_promise_j38 (F : Nat) {K : Ctx} (C : Cx K sysX RX10 cX10_promise 5 2) (hr : Rt K (some .int)) (a1 : Int32) (a2 : Int32) (a3 : Int32) (τ : Tau) : Sm K sysX 5 (Qi K sysX) (X10_promise_j38 F a1 a2 a3 τ) 38 [(0, .ref 0), (1, .int a1), (2, .int a2), (3, .int a3)] [] τ := by
  unfold X10_promise_j38
  refine sm_seg C [(.iconst 0, 0)] (pc' := 39) (L' := [(0, .ref 0), (1, .int a1), (2, .int a2), (3, .int a3)]) (S' := [.int 0]) (by decide +kernel) rfl ?_
  exact sm_sub [0, 1, 2, 3] rfl (s_X10_promise_j39 F C hr a1 a2 a3 0 τ)
def X10_promise (F : Nat) (a1 : Int32) (a2 : Int32) (a3 : Int32) (τ : Tau) : Option (Int32 × Tau) :=
  cal (X10_within F a1 0 7 τ) fun r1 τ2 => if r1 = 0 then (X10_promise_j38 F a1 a2 a3 τ2) else (cal (X10_within F a2 0 7 τ2) fun r7 τ8 => if r7 = 0 then (X10_promise_j38 F a1 a2 a3 τ8) else (if a1 = a2 then (X10_promise_j38 F a1 a2 a3 τ8) else (cal (X10_within F a3 0 3 τ8) fun r9 τ10 => if r9 = 0 then (X10_promise_j38 F a1 a2 a3 τ10) else (X10_promise_j39 F a1 a2 a3 1 τ10))))
set_option maxRecDepth 20000 in
set_option maxHeartbeats 4000000 in
theorem c_X10_promise (F : Nat) (a1 : Int32) (a2 : Int32) (a3 : Int32) (τ : Tau) (r : Int32) (τ' : Tau) (h : X10_promise F a1 a2 a3 τ = some (r, τ')) : MCi sysX yX10_promise cX10_promise 5 (some .int) 2 [.ref 0, .int a1, .int a2, .int a3] τ r τ' :=
  mci_of (by decide +kernel) (Nat.le_of_ble_eq_true rfl) (fun K C hr => by
    show Sm K sysX 5 (Qi K sysX) (X10_promise F a1 a2 a3 τ) 0 [(0, .ref 0), (1, .int a1), (2, .int a2), (3, .int a3)] [] τ
    unfold X10_promise
    refine sm_seg C [(.iload_n 1, 0), (.iconst 0, 0), (.bipush 7, 7)] (pc' := 4) (L' := [(0, .ref 0), (1, .int a1), (2, .int a2), (3, .int a3)]) (S' := [.int 7, .int 0, .int a1]) (by decide +kernel) rfl ?_
    refine sm_scal [.int a1, .int 0, .int 7] [] rfl C mw_X10_within ml_10_70 rfl ⟨by decide, by decide⟩ (Nat.le_of_ble_eq_true rfl) (by decide +kernel) (c_X10_within F a1 0 7 τ) (fun r1 τ2 => ?_)
    refine sm_ifeq 38 (off := 31) C (by decide +kernel) (by decide) (fun _ => ?_) (fun _ => ?_)
    · exact sm_sub [0, 1, 2, 3] rfl (s_X10_promise_j38 F C hr a1 a2 a3 τ2)
    · refine sm_seg C [(.iload_n 2, 0), (.iconst 0, 0), (.bipush 7, 7)] (pc' := 14) (L' := [(0, .ref 0), (1, .int a1), (2, .int a2), (3, .int a3)]) (S' := [.int 7, .int 0, .int a2]) (by decide +kernel) rfl ?_
      refine sm_scal [.int a2, .int 0, .int 7] [] rfl C mw_X10_within ml_10_70 rfl ⟨by decide, by decide⟩ (Nat.le_of_ble_eq_true rfl) (by decide +kernel) (c_X10_within F a2 0 7 τ2) (fun r7 τ8 => ?_)
      refine sm_ifeq 38 (off := 21) C (by decide +kernel) (by decide) (fun _ => ?_) (fun _ => ?_)
      · exact sm_sub [0, 1, 2, 3] rfl (s_X10_promise_j38 F C hr a1 a2 a3 τ8)
      · refine sm_seg C [(.iload_n 1, 0), (.iload_n 2, 0)] (pc' := 22) (L' := [(0, .ref 0), (1, .int a1), (2, .int a2), (3, .int a3)]) (S' := [.int a2, .int a1]) (by decide +kernel) rfl ?_
        refine sm_icmpeq 38 (off := 16) C (by decide +kernel) (by decide) (fun _ => ?_) (fun _ => ?_)
        · exact sm_sub [0, 1, 2, 3] rfl (s_X10_promise_j38 F C hr a1 a2 a3 τ8)
        · refine sm_seg C [(.iload_n 3, 0), (.iconst 0, 0), (.iconst 3, 3)] (pc' := 28) (L' := [(0, .ref 0), (1, .int a1), (2, .int a2), (3, .int a3)]) (S' := [.int 3, .int 0, .int a3]) (by decide +kernel) rfl ?_
          refine sm_scal [.int a3, .int 0, .int 3] [] rfl C mw_X10_within ml_10_70 rfl ⟨by decide, by decide⟩ (Nat.le_of_ble_eq_true rfl) (by decide +kernel) (c_X10_within F a3 0 3 τ8) (fun r9 τ10 => ?_)
          refine sm_ifeq 38 (off := 7) C (by decide +kernel) (by decide) (fun _ => ?_) (fun _ => ?_)
          · exact sm_sub [0, 1, 2, 3] rfl (s_X10_promise_j38 F C hr a1 a2 a3 τ10)
          · refine sm_seg C [(.iconst 1, 1), (.goto 4, 0)] (pc' := 39) (L' := [(0, .ref 0), (1, .int a1), (2, .int a2), (3, .int a3)]) (S' := [.int 1]) (by decide +kernel) rfl ?_
            exact sm_sub [0, 1, 2, 3] rfl (s_X10_promise_j39 F C hr a1 a2 a3 1 τ10)) h
/-! BasketEnvoys_Riddles.worthIfSent -/
def X4_worthIfSent (F : Nat) (a1 : Int32) (a2 : Int32) (a3 : Int32) (τ : Tau) : Option (Int32 × Tau) :=
  if ((shr a3 a2) &&& 1) = 0 then (cal (X10_entry F 37 ((6 * a1) + a2) τ) fun r1 τ2 => cal (X10_entry F 214 (a3 ||| (shl 1 a2)) τ2) fun r3 τ4 => some ((r1 + r3), τ4)) else (some ((-1), τ))
set_option maxRecDepth 20000 in
set_option maxHeartbeats 4000000 in
theorem c_X4_worthIfSent (F : Nat) (a1 : Int32) (a2 : Int32) (a3 : Int32) (τ : Tau) (r : Int32) (τ' : Tau) (h : X4_worthIfSent F a1 a2 a3 τ = some (r, τ')) : MCi sysX yX4_worthIfSent cX4_worthIfSent 4 (some .int) 2 [.ref 213, .int a1, .int a2, .int a3] τ r τ' :=
  mci_of (by decide +kernel) (Nat.le_of_ble_eq_true rfl) (fun K C hr => by
    show Sm K sysX 4 (Qi K sysX) (X4_worthIfSent F a1 a2 a3 τ) 0 [(0, .ref 213), (1, .int a1), (2, .int a2), (3, .int a3)] [] τ
    unfold X4_worthIfSent
    refine sm_seg C [(.iload_n 3, 0), (.iload_n 2, 0), (.ishr, 0), (.iconst 1, 1), (.iand, 0)] (pc' := 5) (L' := [(0, .ref 213), (1, .int a1), (2, .int a2), (3, .int a3)]) (S' := [.int ((shr a3 a2) &&& 1)]) (by decide +kernel) rfl ?_
    refine sm_ifeq 10 (off := 5) C (by decide +kernel) (by decide) (fun _ => ?_) (fun _ => ?_)
    · refine sm_seg C [(.aload_n 0, 0)] (pc' := 11) (L' := [(0, .ref 213), (1, .int a1), (2, .int a2), (3, .int a3)]) (S' := [.ref 213]) (by decide +kernel) rfl ?_
      refine sm_getR 4 1 15 cls4 C (ltX (by decide +kernel : kdX 213 = 4) (by decide)) (by decide +kernel : kdX 213 = 4) (obX4 (by decide +kernel : kdX 213 = 4)) (by decide) (frX4_1 (by decide +kernel : kdX 213 = 4)) fl4_51 (by decide +kernel) ?_
      refine sm_getR 7 12 37 cls7 C (ltX (krX4_1 (by decide +kernel : kdX 213 = 4)) (by decide)) (krX4_1 (by decide +kernel : kdX 213 = 4)) (obX7 (krX4_1 (by decide +kernel : kdX 213 = 4))) (by decide) (frX7_12 (krX4_1 (by decide +kernel : kdX 213 = 4))) fl4_146 (by decide +kernel) ?_
      refine sm_seg C [(.bipush 6, 6), (.iload_n 1, 0), (.imul, 0), (.iload_n 2, 0), (.iadd, 0)] (pc' := 23) (L' := [(0, .ref 213), (1, .int a1), (2, .int a2), (3, .int a3)]) (S' := [.int ((6 * a1) + a2), .ref 37]) (by decide +kernel) rfl ?_
      refine sm_ncal "BasketEnvoys" [.ref 37, .int ((6 * a1) + a2)] [] rfl C mw_X10_entry ml_4_108 rfl ⟨by decide, by decide⟩ (Nat.le_of_ble_eq_true rfl) (by decide +kernel) (c_X10_entry F 37 (krX7_12 (krX4_1 (by decide +kernel : kdX 213 = 4))) ((6 * a1) + a2) τ) (fun r1 τ2 => ?_)
      refine sm_seg C [(.aload_n 0, 0)] (pc' := 27) (L' := [(0, .ref 213), (1, .int a1), (2, .int a2), (3, .int a3)]) (S' := [.ref 213, .int r1]) (by decide +kernel) rfl ?_
      refine sm_getR 4 2 214 cls4 C (ltX (by decide +kernel : kdX 213 = 4) (by decide)) (by decide +kernel : kdX 213 = 4) (obX4 (by decide +kernel : kdX 213 = 4)) (by decide) (frX4_2 (by decide +kernel : kdX 213 = 4)) fl4_9 (by decide +kernel) ?_
      refine sm_seg C [(.iload_n 3, 0), (.iconst 1, 1), (.iload_n 2, 0), (.ishl, 0), (.ior, 0)] (pc' := 35) (L' := [(0, .ref 213), (1, .int a1), (2, .int a2), (3, .int a3)]) (S' := [.int (a3 ||| (shl 1 a2)), .ref 214, .int r1]) (by decide +kernel) rfl ?_
      refine sm_ncal "BasketEnvoys" [.ref 214, .int (a3 ||| (shl 1 a2))] [.int r1] rfl C mw_X10_entry ml_4_108 rfl ⟨by decide, by decide⟩ (Nat.le_of_ble_eq_true rfl) (by decide +kernel) (c_X10_entry F 214 (krX4_2 (by decide +kernel : kdX 213 = 4)) (a3 ||| (shl 1 a2)) τ2) (fun r3 τ4 => ?_)
      refine sm_seg C [(.iadd, 0)] (pc' := 39) (L' := [(0, .ref 213), (1, .int a1), (2, .int a2), (3, .int a3)]) (S' := [.int (r1 + r3)]) (by decide +kernel) rfl ?_
      exact sm_iret C hr rfl (by decide +kernel)
    · refine sm_seg C [(.iconst (-1), (-1))] (pc' := 9) (L' := [(0, .ref 213), (1, .int a1), (2, .int a2), (3, .int a3)]) (S' := [.int (-1)]) (by decide +kernel) rfl ?_
      exact sm_iret C hr rfl (by decide +kernel)) h
/-! BasketEnvoys_Riddles.planSending -/
def X4_planSending_L37 (F : Nat) (self21 : Int32 → Int32 → Tau → Option (Int32 × Tau)) : Nat → Int32 → Int32 → Int32 → Int32 → Int32 → Tau → Option (Int32 × Tau)
  | 0, _, _, _, _, _, _ => none
  | n + 1, a1, a3, a4, a5, a6, τ =>
    if a1 ≤ a6 then (cal (X10_put F 214 a3 a5 1 τ) fun r5 τ6 => self21 a1 (a3 + (-1)) τ6) else (cal (X4_worthIfSent F a4 a6 a3 τ) fun r7 τ8 => X4_planSending_L37 F self21 n a1 a3 a4 (imax a5 r7) (a6 + 1) τ8)
theorem s_X4_planSending_L37 (F : Nat) {K : Ctx} (C : Cx K sysX RX4 cX4_planSending 7 3) (hr : Rt K none) (self21 : Int32 → Int32 → Tau → Option (Int32 × Tau)) (ih21 : ∀ (a1 : Int32) (a3 : Int32) (τ : Tau), Sm K sysX 7 (Qv K sysX) (self21 a1 a3 τ) 21 [(0, .ref 213), (1, .int a1), (3, .int a3)] [] τ) : ∀ (n : Nat) (a1 : Int32) (a3 : Int32) (a4 : Int32) (a5 : Int32) (a6 : Int32) (τ : Tau), Sm K sysX 7 (Qv K sysX) (X4_planSending_L37 F self21 n a1 a3 a4 a5 a6 τ) 37 [(0, .ref 213), (1, .int a1), (3, .int a3), (4, .int a4), (5, .int a5), (6, .int a6)] [] τ := by
  intro n
  induction n with
  | zero => intro a1 a3 a4 a5 a6 τ; exact sm_none
  | succ n ih =>
    intro a1 a3 a4 a5 a6 τ
    rw [X4_planSending_L37]
    refine sm_seg C [(.iload 6, 0), (.iload_n 1, 0)] (pc' := 40) (L' := [(0, .ref 213), (1, .int a1), (3, .int a3), (4, .int a4), (5, .int a5), (6, .int a6)]) (S' := [.int a1, .int a6]) (by decide +kernel) rfl ?_
    refine sm_icmpge 65 (off := 25) C (by decide +kernel) (by decide) (fun _ => ?_) (fun _ => ?_)
    · refine sm_seg C [(.aload_n 0, 0)] (pc' := 66) (L' := [(0, .ref 213), (1, .int a1), (3, .int a3), (4, .int a4), (5, .int a5), (6, .int a6)]) (S' := [.ref 213]) (by decide +kernel) rfl ?_
      refine sm_getR 4 2 214 cls4 C (ltX (by decide +kernel : kdX 213 = 4) (by decide)) (by decide +kernel : kdX 213 = 4) (obX4 (by decide +kernel : kdX 213 = 4)) (by decide) (frX4_2 (by decide +kernel : kdX 213 = 4)) fl4_9 (by decide +kernel) ?_
      refine sm_seg C [(.iload_n 3, 0), (.iload 5, 0), (.iconst 1, 1)] (pc' := 73) (L' := [(0, .ref 213), (1, .int a1), (3, .int a3), (4, .int a4), (5, .int a5), (6, .int a6)]) (S' := [.int 1, .int a5, .int a3, .ref 214]) (by decide +kernel) rfl ?_
      refine sm_ncal "BasketEnvoys" [.ref 214, .int a3, .int a5, .int 1] [] rfl C mw_X10_put ml_4_101 rfl ⟨by decide, by decide⟩ (Nat.le_of_ble_eq_true rfl) (by decide +kernel) (c_X10_put F 214 (krX4_2 (by decide +kernel : kdX 213 = 4)) a3 a5 1 τ) (fun r5 τ6 => ?_)
      refine sm_seg C [(.pop, 0), (.iinc 3 (-1), (-1)), (.goto (-59), 0)] (pc' := 21) (L' := [(3, .int (a3 + (-1))), (0, .ref 213), (1, .int a1), (4, .int a4), (5, .int a5), (6, .int a6)]) (S' := []) (by decide +kernel) rfl ?_
      exact sm_sub [1, 2, 0] rfl (ih21 a1 (a3 + (-1)) τ6)
    · refine sm_seg C [(.iload 5, 0), (.aload_n 0, 0), (.iload 4, 0), (.iload 6, 0), (.iload_n 3, 0)] (pc' := 51) (L' := [(0, .ref 213), (1, .int a1), (3, .int a3), (4, .int a4), (5, .int a5), (6, .int a6)]) (S' := [.int a3, .int a6, .int a4, .ref 213, .int a5]) (by decide +kernel) rfl ?_
      refine sm_vcal [.int a4, .int a6, .int a3] [.int a5] rfl C mw_X4_worthIfSent ml_4_137 rfl (ci := 4) rfl (ltX (by decide +kernel : kdX 213 = 4) (by decide)) (by decide +kernel : kdX 213 = 4) (by decide) ⟨by decide, by decide⟩ (Nat.le_of_ble_eq_true rfl) (by decide +kernel) (c_X4_worthIfSent F a4 a6 a3 τ) (fun r7 τ8 => ?_)
      refine sm_max C (by decide) ml_4_125 jw_maxs jw_math jw_maxc (Nat.le_of_ble_eq_true rfl) (by decide +kernel) ?_
      refine sm_seg C [(.istore 5, 0), (.iinc 6 1, 1), (.goto (-25), 0)] (pc' := 37) (L' := [(6, .int (a6 + 1)), (5, .int (imax a5 r7)), (0, .ref 213), (1, .int a1), (3, .int a3), (4, .int a4)]) (S' := []) (by decide +kernel) rfl ?_
      exact sm_sub [2, 3, 4, 5, 1, 0] rfl (ih a1 a3 a4 (imax a5 r7) (a6 + 1) τ8)
def X4_planSending_L21 (F : Nat) : Nat → Int32 → Int32 → Tau → Option (Int32 × Tau)
  | 0, _, _, _ => none
  | n + 1, a1, a3, τ =>
    if a3 < 0 then (some (0, τ)) else (cal (X_Integer_bitCount__I_I F a3 τ) fun r3 τ4 => X4_planSending_L37 F (X4_planSending_L21 F n) F a1 a3 r3 0 0 τ4)
theorem s_X4_planSending_L21 (F : Nat) {K : Ctx} (C : Cx K sysX RX4 cX4_planSending 7 3) (hr : Rt K none) : ∀ (n : Nat) (a1 : Int32) (a3 : Int32) (τ : Tau), Sm K sysX 7 (Qv K sysX) (X4_planSending_L21 F n a1 a3 τ) 21 [(0, .ref 213), (1, .int a1), (3, .int a3)] [] τ := by
  intro n
  induction n with
  | zero => intro a1 a3 τ; exact sm_none
  | succ n ih =>
    intro a1 a3 τ
    rw [X4_planSending_L21]
    refine sm_seg C [(.iload_n 3, 0)] (pc' := 22) (L' := [(0, .ref 213), (1, .int a1), (3, .int a3)]) (S' := [.int a3]) (by decide +kernel) rfl ?_
    refine sm_iflt 83 (off := 61) C (by decide +kernel) (by decide) (fun _ => ?_) (fun _ => ?_)
    · exact sm_vret C hr (by decide +kernel)
    · refine sm_seg C [(.iload_n 3, 0)] (pc' := 26) (L' := [(0, .ref 213), (1, .int a1), (3, .int a3)]) (S' := [.int a3]) (by decide +kernel) rfl ?_
      refine sm_scal [.int a3] [] rfl C mw_Integer_bitCount__I_I ml_4_141 rfl ⟨by decide, by decide⟩ (Nat.le_of_ble_eq_true rfl) (by decide +kernel) (c_X_Integer_bitCount__I_I F a3 τ) (fun r3 τ4 => ?_)
      refine sm_seg C [(.istore 4, 0), (.iconst 0, 0), (.istore 5, 0), (.iconst 0, 0), (.istore 6, 0)] (pc' := 37) (L' := [(6, .int 0), (5, .int 0), (4, .int r3), (0, .ref 213), (1, .int a1), (3, .int a3)]) (S' := []) (by decide +kernel) rfl ?_
      exact sm_sub [3, 4, 5, 2, 1, 0] rfl (s_X4_planSending_L37 F C hr (X4_planSending_L21 F n) ih F a1 a3 r3 0 0 τ4)
def X4_planSending (F : Nat) (a1 : Int32) (τ : Tau) : Option (Int32 × Tau) :=
  cal (X10_put F 214 ((shl 1 a1) - 1) 0 1 τ) fun r1 τ2 => X4_planSending_L21 F F a1 (((shl 1 a1) - 1) - 1) τ2
set_option maxRecDepth 20000 in
set_option maxHeartbeats 4000000 in
theorem c_X4_planSending (F : Nat) (a1 : Int32) (τ : Tau) (r : Int32) (τ' : Tau) (h : X4_planSending F a1 τ = some (r, τ')) : MCv sysX yX4_planSending cX4_planSending 7 3 [.ref 213, .int a1] τ τ' :=
  mcv_of (by decide +kernel) (Nat.le_of_ble_eq_true rfl) (fun K C hr => by
    show Sm K sysX 7 (Qv K sysX) (X4_planSending F a1 τ) 0 [(0, .ref 213), (1, .int a1)] [] τ
    unfold X4_planSending
    refine sm_seg C [(.iconst 1, 1), (.iload_n 1, 0), (.ishl, 0), (.iconst 1, 1), (.isub, 0), (.istore_n 2, 0), (.aload_n 0, 0)] (pc' := 7) (L' := [(2, .int ((shl 1 a1) - 1)), (0, .ref 213), (1, .int a1)]) (S' := [.ref 213]) (by decide +kernel) rfl ?_
    refine sm_getR 4 2 214 cls4 C (ltX (by decide +kernel : kdX 213 = 4) (by decide)) (by decide +kernel : kdX 213 = 4) (obX4 (by decide +kernel : kdX 213 = 4)) (by decide) (frX4_2 (by decide +kernel : kdX 213 = 4)) fl4_9 (by decide +kernel) ?_
    refine sm_seg C [(.iload_n 2, 0), (.iconst 0, 0), (.iconst 1, 1)] (pc' := 13) (L' := [(2, .int ((shl 1 a1) - 1)), (0, .ref 213), (1, .int a1)]) (S' := [.int 1, .int 0, .int ((shl 1 a1) - 1), .ref 214]) (by decide +kernel) rfl ?_
    refine sm_ncal "BasketEnvoys" [.ref 214, .int ((shl 1 a1) - 1), .int 0, .int 1] [] rfl C mw_X10_put ml_4_101 rfl ⟨by decide, by decide⟩ (Nat.le_of_ble_eq_true rfl) (by decide +kernel) (c_X10_put F 214 (krX4_2 (by decide +kernel : kdX 213 = 4)) ((shl 1 a1) - 1) 0 1 τ) (fun r1 τ2 => ?_)
    refine sm_seg C [(.pop, 0), (.iload_n 2, 0), (.iconst 1, 1), (.isub, 0), (.istore_n 3, 0)] (pc' := 21) (L' := [(3, .int (((shl 1 a1) - 1) - 1)), (2, .int ((shl 1 a1) - 1)), (0, .ref 213), (1, .int a1)]) (S' := []) (by decide +kernel) rfl ?_
    exact sm_sub [2, 3, 0] rfl (s_X4_planSending_L21 F C hr F a1 (((shl 1 a1) - 1) - 1) τ2)) h
/-! BasketEnvoys_Riddles.mostSent -/
def X4_mostSent (F : Nat) (a1 : Int32) (τ : Tau) : Option (Int32 × Tau) :=
  cal (X4_planSending F a1 τ) fun r1 τ2 => ald τ2 214 1024 0 fun v3 => some (v3, τ2)
set_option maxRecDepth 20000 in
set_option maxHeartbeats 4000000 in
theorem c_X4_mostSent (F : Nat) (a1 : Int32) (τ : Tau) (r : Int32) (τ' : Tau) (h : X4_mostSent F a1 τ = some (r, τ')) : MCi sysX yX4_mostSent cX4_mostSent 2 (some .int) 4 [.ref 213, .int a1] τ r τ' :=
  mci_of (by decide +kernel) (Nat.le_of_ble_eq_true rfl) (fun K C hr => by
    show Sm K sysX 2 (Qi K sysX) (X4_mostSent F a1 τ) 0 [(0, .ref 213), (1, .int a1)] [] τ
    unfold X4_mostSent
    refine sm_seg C [(.aload_n 0, 0), (.iload_n 1, 0)] (pc' := 2) (L' := [(0, .ref 213), (1, .int a1)]) (S' := [.int a1, .ref 213]) (by decide +kernel) rfl ?_
    refine sm_vcalv [.int a1] [] rfl C mw_X4_planSending ml_4_133 rfl (ci := 4) rfl (ltX (by decide +kernel : kdX 213 = 4) (by decide)) (by decide +kernel : kdX 213 = 4) (by decide) ⟨by decide, by decide⟩ (Nat.le_of_ble_eq_true rfl) (by decide +kernel) (c_X4_planSending F a1 τ) (fun r1 τ2 => ?_)
    refine sm_seg C [(.aload_n 0, 0)] (pc' := 6) (L' := [(0, .ref 213), (1, .int a1)]) (S' := [.ref 213]) (by decide +kernel) rfl ?_
    refine sm_getR 4 2 214 cls4 C (ltX (by decide +kernel : kdX 213 = 4) (by decide)) (by decide +kernel : kdX 213 = 4) (obX4 (by decide +kernel : kdX 213 = 4)) (by decide) (frX4_2 (by decide +kernel : kdX 213 = 4)) fl4_9 (by decide +kernel) ?_
    refine sm_seg C [(.iconst 0, 0)] (pc' := 10) (L' := [(0, .ref 213), (1, .int a1)]) (S' := [.int 0, .ref 214]) (by decide +kernel) rfl ?_
    refine sm_ald 1024 C (ltX (krX4_2 (by decide +kernel : kdX 213 = 4)) (by decide)) (krX4_2 (by decide +kernel : kdX 213 = 4)) (nrX4_2 (by decide +kernel : kdX 213 = 4)) (by decide +kernel) (fun v3 => ?_)
    exact sm_iret C hr rfl (by decide +kernel)) h
/-! BasketEnvoys_Riddles.howSent -/
def X4_howSent_j63 (F : Nat) (self12 : Int32 → Int32 → Int32 → Int32 → Tau → Option (Int32 × Tau)) (a1 : Int32) (a2 : Int32) (a3 : Int32) (a4 : Int32) (a5 : Int32) (τ : Tau) : Option (Int32 × Tau) :=
  self12 a1 ((10 * a2) + a5) (a3 ||| (shl 1 a5)) (a4 + 1) τ
theorem s_X4_howSent_j63 (F : Nat) {K : Ctx} (C : Cx K sysX RX4 cX4_howSent 7 4) (hr : Rt K (some .int)) (self12 : Int32 → Int32 → Int32 → Int32 → Tau → Option (Int32 × Tau)) (ih12 : ∀ (a1 : Int32) (a2 : Int32) (a3 : Int32) (a4 : Int32) (τ : Tau), Sm K sysX 7 (Qi K sysX) (self12 a1 a2 a3 a4 τ) 12 [(0, .ref 213), (1, .int a1), (2, .int a2), (3, .int a3), (4, .int a4)] [] τ) (a1 : Int32) (a2 : Int32) (a3 : Int32) (a4 : Int32) (a5 : Int32) (τ : Tau) : Sm K sysX 7 (Qi K sysX) (X4_howSent_j63 F self12 a1 a2 a3 a4 a5 τ) 63 [(0, .ref 213), (1, .int a1), (2, .int a2), (3, .int a3), (4, .int a4), (5, .int a5)] [] τ := by
  unfold X4_howSent_j63
  refine sm_seg C [(.bipush 10, 10), (.iload_n 2, 0), (.imul, 0), (.iload 5, 0), (.iadd, 0), (.istore_n 2, 0), (.iload_n 3, 0), (.iconst 1, 1), (.iload 5, 0), (.ishl, 0), (.ior, 0), (.istore_n 3, 0), (.iinc 4 1, 1), (.goto (-69), 0)] (pc' := 12) (L' := [(4, .int (a4 + 1)), (3, .int (a3 ||| (shl 1 a5))), (2, .int ((10 * a2) + a5)), (0, .ref 213), (1, .int a1), (5, .int a5)]) (S' := []) (by decide +kernel) rfl ?_
  exact sm_sub [3, 4, 2, 1, 0] rfl (ih12 a1 ((10 * a2) + a5) (a3 ||| (shl 1 a5)) (a4 + 1) τ)
def X4_howSent_L24 (F : Nat) (self12 : Int32 → Int32 → Int32 → Int32 → Tau → Option (Int32 × Tau)) : Nat → Int32 → Int32 → Int32 → Int32 → Int32 → Int32 → Tau → Option (Int32 × Tau)
  | 0, _, _, _, _, _, _, _ => none
  | n + 1, a1, a2, a3, a4, a5, a6, τ =>
    if a1 ≤ a6 then (X4_howSent_j63 F self12 a1 a2 a3 a4 a5 τ) else (cal (X4_worthIfSent F a4 a6 a3 τ) fun r3 τ4 => cal (X10_entry F 214 a3 τ4) fun r5 τ6 => if r3 = r5 then (X4_howSent_j63 F self12 a1 a2 a3 a4 a6 τ6) else (X4_howSent_L24 F self12 n a1 a2 a3 a4 a5 (a6 + 1) τ6))
theorem s_X4_howSent_L24 (F : Nat) {K : Ctx} (C : Cx K sysX RX4 cX4_howSent 7 4) (hr : Rt K (some .int)) (self12 : Int32 → Int32 → Int32 → Int32 → Tau → Option (Int32 × Tau)) (ih12 : ∀ (a1 : Int32) (a2 : Int32) (a3 : Int32) (a4 : Int32) (τ : Tau), Sm K sysX 7 (Qi K sysX) (self12 a1 a2 a3 a4 τ) 12 [(0, .ref 213), (1, .int a1), (2, .int a2), (3, .int a3), (4, .int a4)] [] τ) : ∀ (n : Nat) (a1 : Int32) (a2 : Int32) (a3 : Int32) (a4 : Int32) (a5 : Int32) (a6 : Int32) (τ : Tau), Sm K sysX 7 (Qi K sysX) (X4_howSent_L24 F self12 n a1 a2 a3 a4 a5 a6 τ) 24 [(0, .ref 213), (1, .int a1), (2, .int a2), (3, .int a3), (4, .int a4), (5, .int a5), (6, .int a6)] [] τ := by
  intro n
  induction n with
  | zero => intro a1 a2 a3 a4 a5 a6 τ; exact sm_none
  | succ n ih =>
    intro a1 a2 a3 a4 a5 a6 τ
    rw [X4_howSent_L24]
    refine sm_seg C [(.iload 6, 0), (.iload_n 1, 0)] (pc' := 27) (L' := [(0, .ref 213), (1, .int a1), (2, .int a2), (3, .int a3), (4, .int a4), (5, .int a5), (6, .int a6)]) (S' := [.int a1, .int a6]) (by decide +kernel) rfl ?_
    refine sm_icmpge 63 (off := 36) C (by decide +kernel) (by decide) (fun _ => ?_) (fun _ => ?_)
    · exact sm_sub [0, 1, 2, 3, 4, 5] rfl (s_X4_howSent_j63 F C hr self12 ih12 a1 a2 a3 a4 a5 τ)
    · refine sm_seg C [(.aload_n 0, 0), (.iload 4, 0), (.iload 6, 0), (.iload_n 3, 0)] (pc' := 36) (L' := [(0, .ref 213), (1, .int a1), (2, .int a2), (3, .int a3), (4, .int a4), (5, .int a5), (6, .int a6)]) (S' := [.int a3, .int a6, .int a4, .ref 213]) (by decide +kernel) rfl ?_
      refine sm_vcal [.int a4, .int a6, .int a3] [] rfl C mw_X4_worthIfSent ml_4_137 rfl (ci := 4) rfl (ltX (by decide +kernel : kdX 213 = 4) (by decide)) (by decide +kernel : kdX 213 = 4) (by decide) ⟨by decide, by decide⟩ (Nat.le_of_ble_eq_true rfl) (by decide +kernel) (c_X4_worthIfSent F a4 a6 a3 τ) (fun r3 τ4 => ?_)
      refine sm_seg C [(.aload_n 0, 0)] (pc' := 40) (L' := [(0, .ref 213), (1, .int a1), (2, .int a2), (3, .int a3), (4, .int a4), (5, .int a5), (6, .int a6)]) (S' := [.ref 213, .int r3]) (by decide +kernel) rfl ?_
      refine sm_getR 4 2 214 cls4 C (ltX (by decide +kernel : kdX 213 = 4) (by decide)) (by decide +kernel : kdX 213 = 4) (obX4 (by decide +kernel : kdX 213 = 4)) (by decide) (frX4_2 (by decide +kernel : kdX 213 = 4)) fl4_9 (by decide +kernel) ?_
      refine sm_seg C [(.iload_n 3, 0)] (pc' := 44) (L' := [(0, .ref 213), (1, .int a1), (2, .int a2), (3, .int a3), (4, .int a4), (5, .int a5), (6, .int a6)]) (S' := [.int a3, .ref 214, .int r3]) (by decide +kernel) rfl ?_
      refine sm_ncal "BasketEnvoys" [.ref 214, .int a3] [.int r3] rfl C mw_X10_entry ml_4_108 rfl ⟨by decide, by decide⟩ (Nat.le_of_ble_eq_true rfl) (by decide +kernel) (c_X10_entry F 214 (krX4_2 (by decide +kernel : kdX 213 = 4)) a3 τ4) (fun r5 τ6 => ?_)
      refine sm_icmpne 57 (off := 10) C (by decide +kernel) (by decide) (fun _ => ?_) (fun _ => ?_)
      · refine sm_seg C [(.iload 6, 0), (.istore 5, 0), (.goto 9, 0)] (pc' := 63) (L' := [(5, .int a6), (0, .ref 213), (1, .int a1), (2, .int a2), (3, .int a3), (4, .int a4), (6, .int a6)]) (S' := []) (by decide +kernel) rfl ?_
        exact sm_sub [1, 2, 3, 4, 5, 0] rfl (s_X4_howSent_j63 F C hr self12 ih12 a1 a2 a3 a4 a6 τ6)
      · refine sm_seg C [(.iinc 6 1, 1), (.goto (-36), 0)] (pc' := 24) (L' := [(6, .int (a6 + 1)), (0, .ref 213), (1, .int a1), (2, .int a2), (3, .int a3), (4, .int a4), (5, .int a5)]) (S' := []) (by decide +kernel) rfl ?_
        exact sm_sub [1, 2, 3, 4, 5, 6, 0] rfl (ih a1 a2 a3 a4 a5 (a6 + 1) τ6)
def X4_howSent_L12 (F : Nat) : Nat → Int32 → Int32 → Int32 → Int32 → Tau → Option (Int32 × Tau)
  | 0, _, _, _, _, _ => none
  | n + 1, a1, a2, a3, a4, τ =>
    if a1 ≤ a4 then (some (a2, τ)) else (X4_howSent_L24 F (X4_howSent_L12 F n) F a1 a2 a3 a4 0 0 τ)
theorem s_X4_howSent_L12 (F : Nat) {K : Ctx} (C : Cx K sysX RX4 cX4_howSent 7 4) (hr : Rt K (some .int)) : ∀ (n : Nat) (a1 : Int32) (a2 : Int32) (a3 : Int32) (a4 : Int32) (τ : Tau), Sm K sysX 7 (Qi K sysX) (X4_howSent_L12 F n a1 a2 a3 a4 τ) 12 [(0, .ref 213), (1, .int a1), (2, .int a2), (3, .int a3), (4, .int a4)] [] τ := by
  intro n
  induction n with
  | zero => intro a1 a2 a3 a4 τ; exact sm_none
  | succ n ih =>
    intro a1 a2 a3 a4 τ
    rw [X4_howSent_L12]
    refine sm_seg C [(.iload 4, 0), (.iload_n 1, 0)] (pc' := 15) (L' := [(0, .ref 213), (1, .int a1), (2, .int a2), (3, .int a3), (4, .int a4)]) (S' := [.int a1, .int a4]) (by decide +kernel) rfl ?_
    refine sm_icmpge 84 (off := 69) C (by decide +kernel) (by decide) (fun _ => ?_) (fun _ => ?_)
    · refine sm_seg C [(.iload_n 2, 0)] (pc' := 85) (L' := [(0, .ref 213), (1, .int a1), (2, .int a2), (3, .int a3), (4, .int a4)]) (S' := [.int a2]) (by decide +kernel) rfl ?_
      exact sm_iret C hr rfl (by decide +kernel)
    · refine sm_seg C [(.iconst 0, 0), (.istore 5, 0), (.iconst 0, 0), (.istore 6, 0)] (pc' := 24) (L' := [(6, .int 0), (5, .int 0), (0, .ref 213), (1, .int a1), (2, .int a2), (3, .int a3), (4, .int a4)]) (S' := []) (by decide +kernel) rfl ?_
      exact sm_sub [2, 3, 4, 5, 6, 1, 0] rfl (s_X4_howSent_L24 F C hr (X4_howSent_L12 F n) ih F a1 a2 a3 a4 0 0 τ)
def X4_howSent (F : Nat) (a1 : Int32) (τ : Tau) : Option (Int32 × Tau) :=
  cal (X4_planSending F a1 τ) fun r1 τ2 => X4_howSent_L12 F F a1 0 0 0 τ2
set_option maxRecDepth 20000 in
set_option maxHeartbeats 4000000 in
theorem c_X4_howSent (F : Nat) (a1 : Int32) (τ : Tau) (r : Int32) (τ' : Tau) (h : X4_howSent F a1 τ = some (r, τ')) : MCi sysX yX4_howSent cX4_howSent 7 (some .int) 4 [.ref 213, .int a1] τ r τ' :=
  mci_of (by decide +kernel) (Nat.le_of_ble_eq_true rfl) (fun K C hr => by
    show Sm K sysX 7 (Qi K sysX) (X4_howSent F a1 τ) 0 [(0, .ref 213), (1, .int a1)] [] τ
    unfold X4_howSent
    refine sm_seg C [(.aload_n 0, 0), (.iload_n 1, 0)] (pc' := 2) (L' := [(0, .ref 213), (1, .int a1)]) (S' := [.int a1, .ref 213]) (by decide +kernel) rfl ?_
    refine sm_vcalv [.int a1] [] rfl C mw_X4_planSending ml_4_133 rfl (ci := 4) rfl (ltX (by decide +kernel : kdX 213 = 4) (by decide)) (by decide +kernel : kdX 213 = 4) (by decide) ⟨by decide, by decide⟩ (Nat.le_of_ble_eq_true rfl) (by decide +kernel) (c_X4_planSending F a1 τ) (fun r1 τ2 => ?_)
    refine sm_seg C [(.iconst 0, 0), (.istore_n 2, 0), (.iconst 0, 0), (.istore_n 3, 0), (.iconst 0, 0), (.istore 4, 0)] (pc' := 12) (L' := [(4, .int 0), (3, .int 0), (2, .int 0), (0, .ref 213), (1, .int a1)]) (S' := []) (by decide +kernel) rfl ?_
    exact sm_sub [3, 4, 2, 1, 0] rfl (s_X4_howSent_L12 F C hr F a1 0 0 0 τ2)) h
/-! BasketEnvoys.sent -/
def X10_sent (F : Nat) (a1 : Int32) (a2 : Int32) (τ : Tau) : Option (Int32 × Tau) :=
  cal (X10_within F a1 1 6 τ) fun r1 τ2 => if r1 = 0 then (some ((-1), τ2)) else (if a2 = 0 then (cal (X4_mostSent F a1 τ2) fun r3 τ4 => some (r3, τ4)) else if a2 = 1 then (cal (X4_howSent F a1 τ2) fun r5 τ6 => some (r5, τ6)) else (some ((-1), τ2)))
set_option maxRecDepth 20000 in
set_option maxHeartbeats 4000000 in
theorem c_X10_sent (F : Nat) (a1 : Int32) (a2 : Int32) (τ : Tau) (r : Int32) (τ' : Tau) (h : X10_sent F a1 a2 τ = some (r, τ')) : MCi sysX yX10_sent cX10_sent 3 (some .int) 5 [.ref 0, .int a1, .int a2] τ r τ' :=
  mci_of (by decide +kernel) (Nat.le_of_ble_eq_true rfl) (fun K C hr => by
    show Sm K sysX 3 (Qi K sysX) (X10_sent F a1 a2 τ) 0 [(0, .ref 0), (1, .int a1), (2, .int a2)] [] τ
    unfold X10_sent
    refine sm_seg C [(.iload_n 1, 0), (.iconst 1, 1), (.bipush 6, 6)] (pc' := 4) (L' := [(0, .ref 0), (1, .int a1), (2, .int a2)]) (S' := [.int 6, .int 1, .int a1]) (by decide +kernel) rfl ?_
    refine sm_scal [.int a1, .int 1, .int 6] [] rfl C mw_X10_within ml_10_70 rfl ⟨by decide, by decide⟩ (Nat.le_of_ble_eq_true rfl) (by decide +kernel) (c_X10_within F a1 1 6 τ) (fun r1 τ2 => ?_)
    refine sm_ifne 12 (off := 5) C (by decide +kernel) (by decide) (fun _ => ?_) (fun _ => ?_)
    · refine sm_seg C [(.iconst (-1), (-1))] (pc' := 11) (L' := [(0, .ref 0), (1, .int a1), (2, .int a2)]) (S' := [.int (-1)]) (by decide +kernel) rfl ?_
      exact sm_iret C hr rfl (by decide +kernel)
    · refine sm_seg C [(.iload_n 2, 0)] (pc' := 13) (L' := [(0, .ref 0), (1, .int a1), (2, .int a2)]) (S' := [.int a2]) (by decide +kernel) rfl ?_
      have hd13 : decode cX10_sent 13 = .ok (.lookupswitch 45 #[(0, 27), (1, 36)], 27) := by decide +kernel
      refine sm_ite (fun e => ?_) (fun n13_0 => ?_)
      · refine sm_look (off := 27) 40 C hd13 (by decide) (by rw [e]; decide) (by decide) ?_
        refine sm_seg C [(.aload_n 0, 0)] (pc' := 41) (L' := [(0, .ref 0), (1, .int a1), (2, .int a2)]) (S' := [.ref 0]) (by decide +kernel) rfl ?_
        refine sm_getR 10 7 213 cls10 C (ltX (by decide +kernel : kdX 0 = 10) (by decide)) (by decide +kernel : kdX 0 = 10) (obX10 (by decide +kernel : kdX 0 = 10)) (by decide) (frX10_7 (by decide +kernel : kdX 0 = 10)) fl10_56 (by decide +kernel) ?_
        refine sm_seg C [(.iload_n 1, 0)] (pc' := 45) (L' := [(0, .ref 0), (1, .int a1), (2, .int a2)]) (S' := [.int a1, .ref 213]) (by decide +kernel) rfl ?_
        refine sm_vcal [.int a1] [] rfl C mw_X4_mostSent ml_10_324 rfl (ci := 4) rfl (ltX (krX10_7 (by decide +kernel : kdX 0 = 10)) (by decide)) (krX10_7 (by decide +kernel : kdX 0 = 10)) (by decide) ⟨by decide, by decide⟩ (Nat.le_of_ble_eq_true rfl) (by decide +kernel) (c_X4_mostSent F a1 τ2) (fun r3 τ4 => ?_)
        exact sm_iret C hr rfl (by decide +kernel)
      refine sm_ite (fun e => ?_) (fun n13_1 => ?_)
      · refine sm_look (off := 36) 49 C hd13 (by decide) (by rw [e]; decide) (by decide) ?_
        refine sm_seg C [(.aload_n 0, 0)] (pc' := 50) (L' := [(0, .ref 0), (1, .int a1), (2, .int a2)]) (S' := [.ref 0]) (by decide +kernel) rfl ?_
        refine sm_getR 10 7 213 cls10 C (ltX (by decide +kernel : kdX 0 = 10) (by decide)) (by decide +kernel : kdX 0 = 10) (obX10 (by decide +kernel : kdX 0 = 10)) (by decide) (frX10_7 (by decide +kernel : kdX 0 = 10)) fl10_56 (by decide +kernel) ?_
        refine sm_seg C [(.iload_n 1, 0)] (pc' := 54) (L' := [(0, .ref 0), (1, .int a1), (2, .int a2)]) (S' := [.int a1, .ref 213]) (by decide +kernel) rfl ?_
        refine sm_vcal [.int a1] [] rfl C mw_X4_howSent ml_10_327 rfl (ci := 4) rfl (ltX (krX10_7 (by decide +kernel : kdX 0 = 10)) (by decide)) (krX10_7 (by decide +kernel : kdX 0 = 10)) (by decide) ⟨by decide, by decide⟩ (Nat.le_of_ble_eq_true rfl) (by decide +kernel) (c_X4_howSent F a1 τ2) (fun r5 τ6 => ?_)
        exact sm_iret C hr rfl (by decide +kernel)
      refine sm_look (off := 45) 58 C hd13 (by decide) (by show Op.lookupswitch.offset [(0, 27), (1, 36)] 45 _ = _; rw [look_ne (toInt_neZ (z := 0) n13_0 (by decide)), look_ne (toInt_neZ (z := 1) n13_1 (by decide))]; rfl) (by decide) ?_
      refine sm_seg C [(.iconst (-1), (-1))] (pc' := 59) (L' := [(0, .ref 0), (1, .int a1), (2, .int a2)]) (S' := [.int (-1)]) (by decide +kernel) rfl ?_
      exact sm_iret C hr rfl (by decide +kernel)) h
/-! BasketEnvoys_Town.change -/
def X8_change (F : Nat) (t0 : Nat) (a1 : Int32) (a2 : Int32) (a3 : Int32) (τ : Tau) : Option (Int32 × Tau) :=
  if a1 = 0 then (cal (X8_hasPower F t0 a2 τ) fun r1 τ2 => if r1 = 0 then (some (0, τ2)) else (cal (X10_within F a3 0 99 τ2) fun r3 τ4 => cal (X10_put F (t0 + 1) a2 a3 r3 τ4) fun r5 τ6 => if r5 = 0 then (some (0, τ6)) else (some (1, τ6)))) else if a1 = 1 then (cal (X8_hasMute F t0 a2 τ) fun r7 τ8 => if r7 = 0 then (some (0, τ8)) else (cal (X10_within F a3 0 9 τ8) fun r9 τ10 => cal (X10_put F (t0 + 5) a2 a3 r9 τ10) fun r11 τ12 => if r11 = 0 then (some (0, τ12)) else (some (1, τ12)))) else if a1 = 2 then (cal (X8_hasMute F t0 a2 τ) fun r13 τ14 => if r13 = 0 then (some (0, τ14)) else (cal (X10_within F a3 0 9 τ14) fun r15 τ16 => cal (X10_put F (t0 + 6) a2 a3 r15 τ16) fun r17 τ18 => if r17 = 0 then (some (0, τ18)) else (some (1, τ18)))) else if a1 = 3 then (cal (X8_hasMute F t0 a2 τ) fun r19 τ20 => if r19 = 0 then (some (0, τ20)) else (cal (X10_within F a3 0 1 τ20) fun r21 τ22 => cal (X10_put F (t0 + 7) a2 a3 r21 τ22) fun r23 τ24 => if r23 = 0 then (some (0, τ24)) else (some (1, τ24)))) else if a1 = 4 then (cal (X10_within F a3 0 99 τ) fun r25 τ26 => if r25 = 0 then (some (0, τ26)) else (pst τ26 t0 2 a3 fun τ27 => some (1, τ27))) else (some (0, τ))
set_option maxRecDepth 20000 in
set_option maxHeartbeats 4000000 in
theorem c_X8_change (F : Nat) (t0 : Nat) (h0 : kdX t0 = 8) (a1 : Int32) (a2 : Int32) (a3 : Int32) (τ : Tau) (r : Int32) (τ' : Tau) (h : X8_change F t0 a1 a2 a3 τ = some (r, τ')) : MCi sysX yX8_change cX8_change 4 (some .boolean) 2 [.ref t0, .int a1, .int a2, .int a3] τ r τ' :=
  mci_of (by decide +kernel) (Nat.le_of_ble_eq_true rfl) (fun K C hr => by
    show Sm K sysX 4 (Qi K sysX) (X8_change F t0 a1 a2 a3 τ) 0 [(0, .ref t0), (1, .int a1), (2, .int a2), (3, .int a3)] [] τ
    unfold X8_change
    refine sm_seg C [(.iload_n 1, 0)] (pc' := 1) (L' := [(0, .ref t0), (1, .int a1), (2, .int a2), (3, .int a3)]) (S' := [.int a1]) (by decide +kernel) rfl ?_
    have hd1 : decode cX8_change 1 = .ok (.tableswitch 169 0 4 #[35, 68, 101, 134, 166], 35) := by decide +kernel
    refine sm_ite (fun e => ?_) (fun n1_0 => ?_)
    · refine sm_tabIn (off := 35) 36 C hd1 (by rw [e]; decide) (by rw [e]; decide) (by rw [e]; decide) (by decide) ?_
      refine sm_seg C [(.aload_n 0, 0), (.iload_n 2, 0)] (pc' := 38) (L' := [(0, .ref t0), (1, .int a1), (2, .int a2), (3, .int a3)]) (S' := [.int a2, .ref t0]) (by decide +kernel) rfl ?_
      refine sm_vcal [.int a2] [] rfl C mw_X8_hasPower ml_8_74 rfl (ci := 8) rfl (ltX h0 (by decide)) h0 (by decide) ⟨by decide, by decide⟩ (Nat.le_of_ble_eq_true rfl) (by decide +kernel) (c_X8_hasPower F t0 h0 a2 τ) (fun r1 τ2 => ?_)
      refine sm_ifeq 67 (off := 26) C (by decide +kernel) (by decide) (fun _ => ?_) (fun _ => ?_)
      · refine sm_seg C [(.iconst 0, 0)] (pc' := 68) (L' := [(0, .ref t0), (1, .int a1), (2, .int a2), (3, .int a3)]) (S' := [.int 0]) (by decide +kernel) rfl ?_
        exact sm_iret C hr rfl (by decide +kernel)
      · refine sm_seg C [(.aload_n 0, 0)] (pc' := 45) (L' := [(0, .ref t0), (1, .int a1), (2, .int a2), (3, .int a3)]) (S' := [.ref t0]) (by decide +kernel) rfl ?_
        refine sm_getR 8 7 (t0 + 1) cls8 C (ltX h0 (by decide)) h0 (obX8 h0) (by decide) (frX8_7 h0) fl8_33 (by decide +kernel) ?_
        refine sm_seg C [(.iload_n 2, 0), (.iload_n 3, 0), (.iload_n 3, 0), (.iconst 0, 0), (.bipush 99, 99)] (pc' := 54) (L' := [(0, .ref t0), (1, .int a1), (2, .int a2), (3, .int a3)]) (S' := [.int 99, .int 0, .int a3, .int a3, .int a2, .ref (t0 + 1)]) (by decide +kernel) rfl ?_
        refine sm_ncal "BasketEnvoys" [.int a3, .int 0, .int 99] [.int a3, .int a2, .ref (t0 + 1)] rfl C mw_X10_within ml_8_78 rfl ⟨by decide, by decide⟩ (Nat.le_of_ble_eq_true rfl) (by decide +kernel) (c_X10_within F a3 0 99 τ2) (fun r3 τ4 => ?_)
        refine sm_ncal "BasketEnvoys" [.ref (t0 + 1), .int a2, .int a3, .int r3] [] rfl C mw_X10_put ml_8_82 rfl ⟨by decide, by decide⟩ (Nat.le_of_ble_eq_true rfl) (by decide +kernel) (c_X10_put F (t0 + 1) (krX8_7 h0) a2 a3 r3 τ4) (fun r5 τ6 => ?_)
        refine sm_ifeq 67 (off := 7) C (by decide +kernel) (by decide) (fun _ => ?_) (fun _ => ?_)
        · refine sm_seg C [(.iconst 0, 0)] (pc' := 68) (L' := [(0, .ref t0), (1, .int a1), (2, .int a2), (3, .int a3)]) (S' := [.int 0]) (by decide +kernel) rfl ?_
          exact sm_iret C hr rfl (by decide +kernel)
        · refine sm_seg C [(.iconst 1, 1), (.goto 4, 0)] (pc' := 68) (L' := [(0, .ref t0), (1, .int a1), (2, .int a2), (3, .int a3)]) (S' := [.int 1]) (by decide +kernel) rfl ?_
          exact sm_iret C hr rfl (by decide +kernel)
    refine sm_ite (fun e => ?_) (fun n1_1 => ?_)
    · refine sm_tabIn (off := 68) 69 C hd1 (by rw [e]; decide) (by rw [e]; decide) (by rw [e]; decide) (by decide) ?_
      refine sm_seg C [(.aload_n 0, 0), (.iload_n 2, 0)] (pc' := 71) (L' := [(0, .ref t0), (1, .int a1), (2, .int a2), (3, .int a3)]) (S' := [.int a2, .ref t0]) (by decide +kernel) rfl ?_
      refine sm_vcal [.int a2] [] rfl C mw_X8_hasMute ml_8_86 rfl (ci := 8) rfl (ltX h0 (by decide)) h0 (by decide) ⟨by decide, by decide⟩ (Nat.le_of_ble_eq_true rfl) (by decide +kernel) (c_X8_hasMute F t0 h0 a2 τ) (fun r7 τ8 => ?_)
      refine sm_ifeq 100 (off := 26) C (by decide +kernel) (by decide) (fun _ => ?_) (fun _ => ?_)
      · refine sm_seg C [(.iconst 0, 0)] (pc' := 101) (L' := [(0, .ref t0), (1, .int a1), (2, .int a2), (3, .int a3)]) (S' := [.int 0]) (by decide +kernel) rfl ?_
        exact sm_iret C hr rfl (by decide +kernel)
      · refine sm_seg C [(.aload_n 0, 0)] (pc' := 78) (L' := [(0, .ref t0), (1, .int a1), (2, .int a2), (3, .int a3)]) (S' := [.ref t0]) (by decide +kernel) rfl ?_
        refine sm_getR 8 11 (t0 + 5) cls8 C (ltX h0 (by decide)) h0 (obX8 h0) (by decide) (frX8_11 h0) fl8_46 (by decide +kernel) ?_
        refine sm_seg C [(.iload_n 2, 0), (.iload_n 3, 0), (.iload_n 3, 0), (.iconst 0, 0), (.bipush 9, 9)] (pc' := 87) (L' := [(0, .ref t0), (1, .int a1), (2, .int a2), (3, .int a3)]) (S' := [.int 9, .int 0, .int a3, .int a3, .int a2, .ref (t0 + 5)]) (by decide +kernel) rfl ?_
        refine sm_ncal "BasketEnvoys" [.int a3, .int 0, .int 9] [.int a3, .int a2, .ref (t0 + 5)] rfl C mw_X10_within ml_8_78 rfl ⟨by decide, by decide⟩ (Nat.le_of_ble_eq_true rfl) (by decide +kernel) (c_X10_within F a3 0 9 τ8) (fun r9 τ10 => ?_)
        refine sm_ncal "BasketEnvoys" [.ref (t0 + 5), .int a2, .int a3, .int r9] [] rfl C mw_X10_put ml_8_82 rfl ⟨by decide, by decide⟩ (Nat.le_of_ble_eq_true rfl) (by decide +kernel) (c_X10_put F (t0 + 5) (krX8_11 h0) a2 a3 r9 τ10) (fun r11 τ12 => ?_)
        refine sm_ifeq 100 (off := 7) C (by decide +kernel) (by decide) (fun _ => ?_) (fun _ => ?_)
        · refine sm_seg C [(.iconst 0, 0)] (pc' := 101) (L' := [(0, .ref t0), (1, .int a1), (2, .int a2), (3, .int a3)]) (S' := [.int 0]) (by decide +kernel) rfl ?_
          exact sm_iret C hr rfl (by decide +kernel)
        · refine sm_seg C [(.iconst 1, 1), (.goto 4, 0)] (pc' := 101) (L' := [(0, .ref t0), (1, .int a1), (2, .int a2), (3, .int a3)]) (S' := [.int 1]) (by decide +kernel) rfl ?_
          exact sm_iret C hr rfl (by decide +kernel)
    refine sm_ite (fun e => ?_) (fun n1_2 => ?_)
    · refine sm_tabIn (off := 101) 102 C hd1 (by rw [e]; decide) (by rw [e]; decide) (by rw [e]; decide) (by decide) ?_
      refine sm_seg C [(.aload_n 0, 0), (.iload_n 2, 0)] (pc' := 104) (L' := [(0, .ref t0), (1, .int a1), (2, .int a2), (3, .int a3)]) (S' := [.int a2, .ref t0]) (by decide +kernel) rfl ?_
      refine sm_vcal [.int a2] [] rfl C mw_X8_hasMute ml_8_86 rfl (ci := 8) rfl (ltX h0 (by decide)) h0 (by decide) ⟨by decide, by decide⟩ (Nat.le_of_ble_eq_true rfl) (by decide +kernel) (c_X8_hasMute F t0 h0 a2 τ) (fun r13 τ14 => ?_)
      refine sm_ifeq 133 (off := 26) C (by decide +kernel) (by decide) (fun _ => ?_) (fun _ => ?_)
      · refine sm_seg C [(.iconst 0, 0)] (pc' := 134) (L' := [(0, .ref t0), (1, .int a1), (2, .int a2), (3, .int a3)]) (S' := [.int 0]) (by decide +kernel) rfl ?_
        exact sm_iret C hr rfl (by decide +kernel)
      · refine sm_seg C [(.aload_n 0, 0)] (pc' := 111) (L' := [(0, .ref t0), (1, .int a1), (2, .int a2), (3, .int a3)]) (S' := [.ref t0]) (by decide +kernel) rfl ?_
        refine sm_getR 8 12 (t0 + 6) cls8 C (ltX h0 (by decide)) h0 (obX8 h0) (by decide) (frX8_12 h0) fl8_49 (by decide +kernel) ?_
        refine sm_seg C [(.iload_n 2, 0), (.iload_n 3, 0), (.iload_n 3, 0), (.iconst 0, 0), (.bipush 9, 9)] (pc' := 120) (L' := [(0, .ref t0), (1, .int a1), (2, .int a2), (3, .int a3)]) (S' := [.int 9, .int 0, .int a3, .int a3, .int a2, .ref (t0 + 6)]) (by decide +kernel) rfl ?_
        refine sm_ncal "BasketEnvoys" [.int a3, .int 0, .int 9] [.int a3, .int a2, .ref (t0 + 6)] rfl C mw_X10_within ml_8_78 rfl ⟨by decide, by decide⟩ (Nat.le_of_ble_eq_true rfl) (by decide +kernel) (c_X10_within F a3 0 9 τ14) (fun r15 τ16 => ?_)
        refine sm_ncal "BasketEnvoys" [.ref (t0 + 6), .int a2, .int a3, .int r15] [] rfl C mw_X10_put ml_8_82 rfl ⟨by decide, by decide⟩ (Nat.le_of_ble_eq_true rfl) (by decide +kernel) (c_X10_put F (t0 + 6) (krX8_12 h0) a2 a3 r15 τ16) (fun r17 τ18 => ?_)
        refine sm_ifeq 133 (off := 7) C (by decide +kernel) (by decide) (fun _ => ?_) (fun _ => ?_)
        · refine sm_seg C [(.iconst 0, 0)] (pc' := 134) (L' := [(0, .ref t0), (1, .int a1), (2, .int a2), (3, .int a3)]) (S' := [.int 0]) (by decide +kernel) rfl ?_
          exact sm_iret C hr rfl (by decide +kernel)
        · refine sm_seg C [(.iconst 1, 1), (.goto 4, 0)] (pc' := 134) (L' := [(0, .ref t0), (1, .int a1), (2, .int a2), (3, .int a3)]) (S' := [.int 1]) (by decide +kernel) rfl ?_
          exact sm_iret C hr rfl (by decide +kernel)
    refine sm_ite (fun e => ?_) (fun n1_3 => ?_)
    · refine sm_tabIn (off := 134) 135 C hd1 (by rw [e]; decide) (by rw [e]; decide) (by rw [e]; decide) (by decide) ?_
      refine sm_seg C [(.aload_n 0, 0), (.iload_n 2, 0)] (pc' := 137) (L' := [(0, .ref t0), (1, .int a1), (2, .int a2), (3, .int a3)]) (S' := [.int a2, .ref t0]) (by decide +kernel) rfl ?_
      refine sm_vcal [.int a2] [] rfl C mw_X8_hasMute ml_8_86 rfl (ci := 8) rfl (ltX h0 (by decide)) h0 (by decide) ⟨by decide, by decide⟩ (Nat.le_of_ble_eq_true rfl) (by decide +kernel) (c_X8_hasMute F t0 h0 a2 τ) (fun r19 τ20 => ?_)
      refine sm_ifeq 165 (off := 25) C (by decide +kernel) (by decide) (fun _ => ?_) (fun _ => ?_)
      · refine sm_seg C [(.iconst 0, 0)] (pc' := 166) (L' := [(0, .ref t0), (1, .int a1), (2, .int a2), (3, .int a3)]) (S' := [.int 0]) (by decide +kernel) rfl ?_
        exact sm_iret C hr rfl (by decide +kernel)
      · refine sm_seg C [(.aload_n 0, 0)] (pc' := 144) (L' := [(0, .ref t0), (1, .int a1), (2, .int a2), (3, .int a3)]) (S' := [.ref t0]) (by decide +kernel) rfl ?_
        refine sm_getR 8 13 (t0 + 7) cls8 C (ltX h0 (by decide)) h0 (obX8 h0) (by decide) (frX8_13 h0) fl8_52 (by decide +kernel) ?_
        refine sm_seg C [(.iload_n 2, 0), (.iload_n 3, 0), (.iload_n 3, 0), (.iconst 0, 0), (.iconst 1, 1)] (pc' := 152) (L' := [(0, .ref t0), (1, .int a1), (2, .int a2), (3, .int a3)]) (S' := [.int 1, .int 0, .int a3, .int a3, .int a2, .ref (t0 + 7)]) (by decide +kernel) rfl ?_
        refine sm_ncal "BasketEnvoys" [.int a3, .int 0, .int 1] [.int a3, .int a2, .ref (t0 + 7)] rfl C mw_X10_within ml_8_78 rfl ⟨by decide, by decide⟩ (Nat.le_of_ble_eq_true rfl) (by decide +kernel) (c_X10_within F a3 0 1 τ20) (fun r21 τ22 => ?_)
        refine sm_ncal "BasketEnvoys" [.ref (t0 + 7), .int a2, .int a3, .int r21] [] rfl C mw_X10_put ml_8_82 rfl ⟨by decide, by decide⟩ (Nat.le_of_ble_eq_true rfl) (by decide +kernel) (c_X10_put F (t0 + 7) (krX8_13 h0) a2 a3 r21 τ22) (fun r23 τ24 => ?_)
        refine sm_ifeq 165 (off := 7) C (by decide +kernel) (by decide) (fun _ => ?_) (fun _ => ?_)
        · refine sm_seg C [(.iconst 0, 0)] (pc' := 166) (L' := [(0, .ref t0), (1, .int a1), (2, .int a2), (3, .int a3)]) (S' := [.int 0]) (by decide +kernel) rfl ?_
          exact sm_iret C hr rfl (by decide +kernel)
        · refine sm_seg C [(.iconst 1, 1), (.goto 4, 0)] (pc' := 166) (L' := [(0, .ref t0), (1, .int a1), (2, .int a2), (3, .int a3)]) (S' := [.int 1]) (by decide +kernel) rfl ?_
          exact sm_iret C hr rfl (by decide +kernel)
    refine sm_ite (fun e => ?_) (fun n1_4 => ?_)
    · refine sm_tabIn (off := 166) 167 C hd1 (by rw [e]; decide) (by rw [e]; decide) (by rw [e]; decide) (by decide) ?_
      refine sm_seg C [(.goto 5, 0), (.iload_n 3, 0), (.iconst 0, 0), (.bipush 99, 99)] (pc' := 176) (L' := [(0, .ref t0), (1, .int a1), (2, .int a2), (3, .int a3)]) (S' := [.int 99, .int 0, .int a3]) (by decide +kernel) rfl ?_
      refine sm_ncal "BasketEnvoys" [.int a3, .int 0, .int 99] [] rfl C mw_X10_within ml_8_78 rfl ⟨by decide, by decide⟩ (Nat.le_of_ble_eq_true rfl) (by decide +kernel) (c_X10_within F a3 0 99 τ) (fun r25 τ26 => ?_)
      refine sm_ifne 184 (off := 5) C (by decide +kernel) (by decide) (fun _ => ?_) (fun _ => ?_)
      · refine sm_seg C [(.iconst 0, 0)] (pc' := 183) (L' := [(0, .ref t0), (1, .int a1), (2, .int a2), (3, .int a3)]) (S' := [.int 0]) (by decide +kernel) rfl ?_
        exact sm_iret C hr rfl (by decide +kernel)
      · refine sm_seg C [(.aload_n 0, 0), (.iload_n 3, 0)] (pc' := 186) (L' := [(0, .ref t0), (1, .int a1), (2, .int a2), (3, .int a3)]) (S' := [.int a3, .ref t0]) (by decide +kernel) rfl ?_
        refine sm_pst 8 2 cls8 C (ltX h0 (by decide)) h0 (obX8 h0) (by decide) (fiX8_2 h0) rfl rfl rfl fl8_18 (by decide +kernel) (fun τ27 => ?_)
        refine sm_seg C [(.iconst 1, 1)] (pc' := 190) (L' := [(0, .ref t0), (1, .int a1), (2, .int a2), (3, .int a3)]) (S' := [.int 1]) (by decide +kernel) rfl ?_
        exact sm_iret C hr rfl (by decide +kernel)
    refine sm_tabOut 170 C hd1 (by have q0 := toInt_neZ (z := 0) n1_0 (by decide); have q1 := toInt_neZ (z := 1) n1_1 (by decide); have q2 := toInt_neZ (z := 2) n1_2 (by decide); have q3 := toInt_neZ (z := 3) n1_3 (by decide); have q4 := toInt_neZ (z := 4) n1_4 (by decide); omega) (by decide) ?_
    refine sm_seg C [(.iconst 0, 0)] (pc' := 171) (L' := [(0, .ref t0), (1, .int a1), (2, .int a2), (3, .int a3)]) (S' := [.int 0]) (by decide +kernel) rfl ?_
    exact sm_iret C hr rfl (by decide +kernel)) h
/-! BasketEnvoys.set -/
def X10_set (F : Nat) (a1 : Int32) (a2 : Int32) (a3 : Int32) (τ : Tau) : Option (Int32 × Tau) :=
  cal (X8_change F 2 a1 a2 a3 τ) fun r1 τ2 => if r1 = 0 then (some (vp_nar .boolean r1, τ2)) else (cal (X1_forget F τ2) fun r3 τ4 => some (vp_nar .boolean r1, τ4))
set_option maxRecDepth 20000 in
set_option maxHeartbeats 4000000 in
theorem c_X10_set (F : Nat) (a1 : Int32) (a2 : Int32) (a3 : Int32) (τ : Tau) (r : Int32) (τ' : Tau) (h : X10_set F a1 a2 a3 τ = some (r, τ')) : MCi sysX yX10_set cX10_set 5 (some .boolean) 3 [.ref 0, .int a1, .int a2, .int a3] τ r τ' :=
  mci_of (by decide +kernel) (Nat.le_of_ble_eq_true rfl) (fun K C hr => by
    show Sm K sysX 5 (Qi K sysX) (X10_set F a1 a2 a3 τ) 0 [(0, .ref 0), (1, .int a1), (2, .int a2), (3, .int a3)] [] τ
    unfold X10_set
    refine sm_seg C [(.aload_n 0, 0)] (pc' := 1) (L' := [(0, .ref 0), (1, .int a1), (2, .int a2), (3, .int a3)]) (S' := [.ref 0]) (by decide +kernel) rfl ?_
    refine sm_getR 10 0 1 cls10 C (ltX (by decide +kernel : kdX 0 = 10) (by decide)) (by decide +kernel : kdX 0 = 10) (obX10 (by decide +kernel : kdX 0 = 10)) (by decide) (frX10_0 (by decide +kernel : kdX 0 = 10)) fl10_12 (by decide +kernel) ?_
    refine sm_getR 9 0 2 cls9 C (ltX (krX10_0 (by decide +kernel : kdX 0 = 10)) (by decide)) (krX10_0 (by decide +kernel : kdX 0 = 10)) (obX9 (krX10_0 (by decide +kernel : kdX 0 = 10))) (by decide) (frX9_0 (krX10_0 (by decide +kernel : kdX 0 = 10))) fl10_60 (by decide +kernel) ?_
    refine sm_seg C [(.iload_n 1, 0), (.iload_n 2, 0), (.iload_n 3, 0)] (pc' := 10) (L' := [(0, .ref 0), (1, .int a1), (2, .int a2), (3, .int a3)]) (S' := [.int a3, .int a2, .int a1, .ref 2]) (by decide +kernel) rfl ?_
    refine sm_vcal [.int a1, .int a2, .int a3] [] rfl C mw_X8_change ml_10_88 rfl (ci := 8) rfl (ltX (krX9_0 (krX10_0 (by decide +kernel : kdX 0 = 10))) (by decide)) (krX9_0 (krX10_0 (by decide +kernel : kdX 0 = 10))) (by decide) ⟨by decide, by decide⟩ (Nat.le_of_ble_eq_true rfl) (by decide +kernel) (c_X8_change F 2 (krX9_0 (krX10_0 (by decide +kernel : kdX 0 = 10))) a1 a2 a3 τ) (fun r1 τ2 => ?_)
    refine sm_seg C [(.istore 4, 0), (.iload 4, 0)] (pc' := 17) (L' := [(4, .int r1), (0, .ref 0), (1, .int a1), (2, .int a2), (3, .int a3)]) (S' := [.int r1]) (by decide +kernel) rfl ?_
    refine sm_ifeq 27 (off := 10) C (by decide +kernel) (by decide) (fun _ => ?_) (fun _ => ?_)
    · refine sm_seg C [(.iload 4, 0)] (pc' := 29) (L' := [(4, .int r1), (0, .ref 0), (1, .int a1), (2, .int a2), (3, .int a3)]) (S' := [.int r1]) (by decide +kernel) rfl ?_
      exact sm_iret C hr nar_boolean (by decide +kernel)
    · refine sm_seg C [(.aload_n 0, 0)] (pc' := 21) (L' := [(4, .int r1), (0, .ref 0), (1, .int a1), (2, .int a2), (3, .int a3)]) (S' := [.ref 0]) (by decide +kernel) rfl ?_
      refine sm_getR 10 4 116 cls10 C (ltX (by decide +kernel : kdX 0 = 10) (by decide)) (by decide +kernel : kdX 0 = 10) (obX10 (by decide +kernel : kdX 0 = 10)) (by decide) (frX10_4 (by decide +kernel : kdX 0 = 10)) fl10_33 (by decide +kernel) ?_
      refine sm_vcalv [] [] rfl C mw_X1_forget ml_10_67 rfl (ci := 1) rfl (ltX (krX10_4 (by decide +kernel : kdX 0 = 10)) (by decide)) (krX10_4 (by decide +kernel : kdX 0 = 10)) (by decide) ⟨by decide, by decide⟩ (Nat.le_of_ble_eq_true rfl) (by decide +kernel) (c_X1_forget F τ2) (fun r3 τ4 => ?_)
      refine sm_seg C [(.iload 4, 0)] (pc' := 29) (L' := [(4, .int r1), (0, .ref 0), (1, .int a1), (2, .int a2), (3, .int a3)]) (S' := [.int r1]) (by decide +kernel) rfl ?_
      exact sm_iret C hr nar_boolean (by decide +kernel)) h
/-! BasketEnvoys.shows -/
def X10_shows (F : Nat) (a1 : Int32) (τ : Tau) : Option (Int32 × Tau) :=
  cal (X10_within F a1 0 11 τ) fun r1 τ2 => cal (X5_tell F 16 a1 r1 τ2) fun r3 τ4 => some (r3, τ4)
set_option maxRecDepth 20000 in
set_option maxHeartbeats 4000000 in
theorem c_X10_shows (F : Nat) (a1 : Int32) (τ : Tau) (r : Int32) (τ' : Tau) (h : X10_shows F a1 τ = some (r, τ')) : MCi sysX yX10_shows cX10_shows 2 (some .int) 3 [.ref 0, .int a1] τ r τ' :=
  mci_of (by decide +kernel) (Nat.le_of_ble_eq_true rfl) (fun K C hr => by
    show Sm K sysX 2 (Qi K sysX) (X10_shows F a1 τ) 0 [(0, .ref 0), (1, .int a1)] [] τ
    unfold X10_shows
    refine sm_seg C [(.aload_n 0, 0)] (pc' := 1) (L' := [(0, .ref 0), (1, .int a1)]) (S' := [.ref 0]) (by decide +kernel) rfl ?_
    refine sm_getR 10 0 1 cls10 C (ltX (by decide +kernel : kdX 0 = 10) (by decide)) (by decide +kernel : kdX 0 = 10) (obX10 (by decide +kernel : kdX 0 = 10)) (by decide) (frX10_0 (by decide +kernel : kdX 0 = 10)) fl10_12 (by decide +kernel) ?_
    refine sm_getR 9 1 15 cls9 C (ltX (krX10_0 (by decide +kernel : kdX 0 = 10)) (by decide)) (krX10_0 (by decide +kernel : kdX 0 = 10)) (obX9 (krX10_0 (by decide +kernel : kdX 0 = 10))) (by decide) (frX9_1 (krX10_0 (by decide +kernel : kdX 0 = 10))) fl10_243 (by decide +kernel) ?_
    refine sm_getR 7 0 16 cls7 C (ltX (krX9_1 (krX10_0 (by decide +kernel : kdX 0 = 10))) (by decide)) (krX9_1 (krX10_0 (by decide +kernel : kdX 0 = 10))) (obX7 (krX9_1 (krX10_0 (by decide +kernel : kdX 0 = 10)))) (by decide) (frX7_0 (krX9_1 (krX10_0 (by decide +kernel : kdX 0 = 10)))) fl10_247 (by decide +kernel) ?_
    refine sm_seg C [(.iload_n 1, 0), (.iload_n 1, 0), (.iconst 0, 0), (.bipush 11, 11)] (pc' := 15) (L' := [(0, .ref 0), (1, .int a1)]) (S' := [.int 11, .int 0, .int a1, .int a1, .ref 16]) (by decide +kernel) rfl ?_
    refine sm_scal [.int a1, .int 0, .int 11] [.int a1, .ref 16] rfl C mw_X10_within ml_10_70 rfl ⟨by decide, by decide⟩ (Nat.le_of_ble_eq_true rfl) (by decide +kernel) (c_X10_within F a1 0 11 τ) (fun r1 τ2 => ?_)
    refine sm_vcal [.int a1, .int r1] [] rfl C mw_X5_tell ml_10_253 rfl (ci := 5) rfl (ltX (krX7_0 (krX9_1 (krX10_0 (by decide +kernel : kdX 0 = 10)))) (by decide)) (krX7_0 (krX9_1 (krX10_0 (by decide +kernel : kdX 0 = 10)))) (by decide) ⟨by decide, by decide⟩ (Nat.le_of_ble_eq_true rfl) (by decide +kernel) (c_X5_tell F 16 (krX7_0 (krX9_1 (krX10_0 (by decide +kernel : kdX 0 = 10)))) a1 r1 τ2) (fun r3 τ4 => ?_)
    exact sm_iret C hr rfl (by decide +kernel)) h
/-! BasketEnvoys_Riddles.takeLeast -/
def X4_takeLeast_j30 (F : Nat) (self4 : Int32 → Int32 → Int32 → Tau → Option (Int32 × Tau)) (a1 : Int32) (a2 : Int32) (a3 : Int32) (τ : Tau) : Option (Int32 × Tau) :=
  self4 a1 a2 (a3 + 1) τ
theorem s_X4_takeLeast_j30 (F : Nat) {K : Ctx} (C : Cx K sysX RX4 cX4_takeLeast 4 2) (hr : Rt K (some .int)) (self4 : Int32 → Int32 → Int32 → Tau → Option (Int32 × Tau)) (ih4 : ∀ (a1 : Int32) (a2 : Int32) (a3 : Int32) (τ : Tau), Sm K sysX 4 (Qi K sysX) (self4 a1 a2 a3 τ) 4 [(0, .ref 213), (1, .int a1), (2, .int a2), (3, .int a3)] [] τ) (a1 : Int32) (a2 : Int32) (a3 : Int32) (τ : Tau) : Sm K sysX 4 (Qi K sysX) (X4_takeLeast_j30 F self4 a1 a2 a3 τ) 30 [(0, .ref 213), (1, .int a1), (2, .int a2), (3, .int a3)] [] τ := by
  unfold X4_takeLeast_j30
  refine sm_seg C [(.iinc 3 1, 1), (.goto (-29), 0)] (pc' := 4) (L' := [(3, .int (a3 + 1)), (0, .ref 213), (1, .int a1), (2, .int a2)]) (S' := []) (by decide +kernel) rfl ?_
  exact sm_sub [1, 2, 3, 0] rfl (ih4 a1 a2 (a3 + 1) τ)
def X4_takeLeast_L4 (F : Nat) : Nat → Int32 → Int32 → Int32 → Tau → Option (Int32 × Tau)
  | 0, _, _, _, _ => none
  | n + 1, a1, a2, a3, τ =>
    if a1 ≤ a3 then (cal (X10_entry F 216 a2 τ) fun r1 τ2 => cal (X10_entry F 216 (a1 - 1) τ2) fun r3 τ4 => cal (X10_put F 216 a2 r3 1 τ4) fun r5 τ6 => some (r1, τ6)) else (cal (X10_entry F 216 a3 τ) fun r7 τ8 => cal (X10_entry F 216 a2 τ8) fun r9 τ10 => if r9 ≤ r7 then (X4_takeLeast_j30 F (X4_takeLeast_L4 F n) a1 a2 a3 τ10) else (X4_takeLeast_j30 F (X4_takeLeast_L4 F n) a1 a3 a3 τ10))
theorem s_X4_takeLeast_L4 (F : Nat) {K : Ctx} (C : Cx K sysX RX4 cX4_takeLeast 4 2) (hr : Rt K (some .int)) : ∀ (n : Nat) (a1 : Int32) (a2 : Int32) (a3 : Int32) (τ : Tau), Sm K sysX 4 (Qi K sysX) (X4_takeLeast_L4 F n a1 a2 a3 τ) 4 [(0, .ref 213), (1, .int a1), (2, .int a2), (3, .int a3)] [] τ := by
  intro n
  induction n with
  | zero => intro a1 a2 a3 τ; exact sm_none
  | succ n ih =>
    intro a1 a2 a3 τ
    rw [X4_takeLeast_L4]
    refine sm_seg C [(.iload_n 3, 0), (.iload_n 1, 0)] (pc' := 6) (L' := [(0, .ref 213), (1, .int a1), (2, .int a2), (3, .int a3)]) (S' := [.int a1, .int a3]) (by decide +kernel) rfl ?_
    refine sm_icmpge 36 (off := 30) C (by decide +kernel) (by decide) (fun _ => ?_) (fun _ => ?_)
    · refine sm_seg C [(.aload_n 0, 0)] (pc' := 37) (L' := [(0, .ref 213), (1, .int a1), (2, .int a2), (3, .int a3)]) (S' := [.ref 213]) (by decide +kernel) rfl ?_
      refine sm_getR 4 4 216 cls4 C (ltX (by decide +kernel : kdX 213 = 4) (by decide)) (by decide +kernel : kdX 213 = 4) (obX4 (by decide +kernel : kdX 213 = 4)) (by decide) (frX4_4 (by decide +kernel : kdX 213 = 4)) fl4_18 (by decide +kernel) ?_
      refine sm_seg C [(.iload_n 2, 0)] (pc' := 41) (L' := [(0, .ref 213), (1, .int a1), (2, .int a2), (3, .int a3)]) (S' := [.int a2, .ref 216]) (by decide +kernel) rfl ?_
      refine sm_ncal "BasketEnvoys" [.ref 216, .int a2] [] rfl C mw_X10_entry ml_4_108 rfl ⟨by decide, by decide⟩ (Nat.le_of_ble_eq_true rfl) (by decide +kernel) (c_X10_entry F 216 (krX4_4 (by decide +kernel : kdX 213 = 4)) a2 τ) (fun r1 τ2 => ?_)
      refine sm_seg C [(.istore_n 3, 0), (.aload_n 0, 0)] (pc' := 46) (L' := [(3, .int r1), (0, .ref 213), (1, .int a1), (2, .int a2)]) (S' := [.ref 213]) (by decide +kernel) rfl ?_
      refine sm_getR 4 4 216 cls4 C (ltX (by decide +kernel : kdX 213 = 4) (by decide)) (by decide +kernel : kdX 213 = 4) (obX4 (by decide +kernel : kdX 213 = 4)) (by decide) (frX4_4 (by decide +kernel : kdX 213 = 4)) fl4_18 (by decide +kernel) ?_
      refine sm_seg C [(.iload_n 2, 0), (.aload_n 0, 0)] (pc' := 51) (L' := [(3, .int r1), (0, .ref 213), (1, .int a1), (2, .int a2)]) (S' := [.ref 213, .int a2, .ref 216]) (by decide +kernel) rfl ?_
      refine sm_getR 4 4 216 cls4 C (ltX (by decide +kernel : kdX 213 = 4) (by decide)) (by decide +kernel : kdX 213 = 4) (obX4 (by decide +kernel : kdX 213 = 4)) (by decide) (frX4_4 (by decide +kernel : kdX 213 = 4)) fl4_18 (by decide +kernel) ?_
      refine sm_seg C [(.iload_n 1, 0), (.iconst 1, 1), (.isub, 0)] (pc' := 57) (L' := [(3, .int r1), (0, .ref 213), (1, .int a1), (2, .int a2)]) (S' := [.int (a1 - 1), .ref 216, .int a2, .ref 216]) (by decide +kernel) rfl ?_
      refine sm_ncal "BasketEnvoys" [.ref 216, .int (a1 - 1)] [.int a2, .ref 216] rfl C mw_X10_entry ml_4_108 rfl ⟨by decide, by decide⟩ (Nat.le_of_ble_eq_true rfl) (by decide +kernel) (c_X10_entry F 216 (krX4_4 (by decide +kernel : kdX 213 = 4)) (a1 - 1) τ2) (fun r3 τ4 => ?_)
      refine sm_seg C [(.iconst 1, 1)] (pc' := 61) (L' := [(3, .int r1), (0, .ref 213), (1, .int a1), (2, .int a2)]) (S' := [.int 1, .int r3, .int a2, .ref 216]) (by decide +kernel) rfl ?_
      refine sm_ncal "BasketEnvoys" [.ref 216, .int a2, .int r3, .int 1] [] rfl C mw_X10_put ml_4_101 rfl ⟨by decide, by decide⟩ (Nat.le_of_ble_eq_true rfl) (by decide +kernel) (c_X10_put F 216 (krX4_4 (by decide +kernel : kdX 213 = 4)) a2 r3 1 τ4) (fun r5 τ6 => ?_)
      refine sm_seg C [(.pop, 0), (.iload_n 3, 0)] (pc' := 66) (L' := [(3, .int r1), (0, .ref 213), (1, .int a1), (2, .int a2)]) (S' := [.int r1]) (by decide +kernel) rfl ?_
      exact sm_iret C hr rfl (by decide +kernel)
    · refine sm_seg C [(.aload_n 0, 0)] (pc' := 10) (L' := [(0, .ref 213), (1, .int a1), (2, .int a2), (3, .int a3)]) (S' := [.ref 213]) (by decide +kernel) rfl ?_
      refine sm_getR 4 4 216 cls4 C (ltX (by decide +kernel : kdX 213 = 4) (by decide)) (by decide +kernel : kdX 213 = 4) (obX4 (by decide +kernel : kdX 213 = 4)) (by decide) (frX4_4 (by decide +kernel : kdX 213 = 4)) fl4_18 (by decide +kernel) ?_
      refine sm_seg C [(.iload_n 3, 0)] (pc' := 14) (L' := [(0, .ref 213), (1, .int a1), (2, .int a2), (3, .int a3)]) (S' := [.int a3, .ref 216]) (by decide +kernel) rfl ?_
      refine sm_ncal "BasketEnvoys" [.ref 216, .int a3] [] rfl C mw_X10_entry ml_4_108 rfl ⟨by decide, by decide⟩ (Nat.le_of_ble_eq_true rfl) (by decide +kernel) (c_X10_entry F 216 (krX4_4 (by decide +kernel : kdX 213 = 4)) a3 τ) (fun r7 τ8 => ?_)
      refine sm_seg C [(.aload_n 0, 0)] (pc' := 18) (L' := [(0, .ref 213), (1, .int a1), (2, .int a2), (3, .int a3)]) (S' := [.ref 213, .int r7]) (by decide +kernel) rfl ?_
      refine sm_getR 4 4 216 cls4 C (ltX (by decide +kernel : kdX 213 = 4) (by decide)) (by decide +kernel : kdX 213 = 4) (obX4 (by decide +kernel : kdX 213 = 4)) (by decide) (frX4_4 (by decide +kernel : kdX 213 = 4)) fl4_18 (by decide +kernel) ?_
      refine sm_seg C [(.iload_n 2, 0)] (pc' := 22) (L' := [(0, .ref 213), (1, .int a1), (2, .int a2), (3, .int a3)]) (S' := [.int a2, .ref 216, .int r7]) (by decide +kernel) rfl ?_
      refine sm_ncal "BasketEnvoys" [.ref 216, .int a2] [.int r7] rfl C mw_X10_entry ml_4_108 rfl ⟨by decide, by decide⟩ (Nat.le_of_ble_eq_true rfl) (by decide +kernel) (c_X10_entry F 216 (krX4_4 (by decide +kernel : kdX 213 = 4)) a2 τ8) (fun r9 τ10 => ?_)
      refine sm_icmpge 30 (off := 5) C (by decide +kernel) (by decide) (fun _ => ?_) (fun _ => ?_)
      · exact sm_sub [0, 1, 2, 3] rfl (s_X4_takeLeast_j30 F C hr (X4_takeLeast_L4 F n) ih a1 a2 a3 τ10)
      · refine sm_seg C [(.iload_n 3, 0), (.istore_n 2, 0)] (pc' := 30) (L' := [(2, .int a3), (0, .ref 213), (1, .int a1), (3, .int a3)]) (S' := []) (by decide +kernel) rfl ?_
        exact sm_sub [1, 2, 0, 3] rfl (s_X4_takeLeast_j30 F C hr (X4_takeLeast_L4 F n) ih a1 a3 a3 τ10)
def X4_takeLeast (F : Nat) (a1 : Int32) (τ : Tau) : Option (Int32 × Tau) :=
  X4_takeLeast_L4 F F a1 0 1 τ
set_option maxRecDepth 20000 in
set_option maxHeartbeats 4000000 in
theorem c_X4_takeLeast (F : Nat) (a1 : Int32) (τ : Tau) (r : Int32) (τ' : Tau) (h : X4_takeLeast F a1 τ = some (r, τ')) : MCi sysX yX4_takeLeast cX4_takeLeast 4 (some .int) 2 [.ref 213, .int a1] τ r τ' :=
  mci_of (by decide +kernel) (Nat.le_of_ble_eq_true rfl) (fun K C hr => by
    show Sm K sysX 4 (Qi K sysX) (X4_takeLeast F a1 τ) 0 [(0, .ref 213), (1, .int a1)] [] τ
    unfold X4_takeLeast
    refine sm_seg C [(.iconst 0, 0), (.istore_n 2, 0), (.iconst 1, 1), (.istore_n 3, 0)] (pc' := 4) (L' := [(3, .int 1), (2, .int 0), (0, .ref 213), (1, .int a1)]) (S' := []) (by decide +kernel) rfl ?_
    exact sm_sub [2, 3, 1, 0] rfl (s_X4_takeLeast_L4 F C hr F a1 0 1 τ)) h
/-! BasketEnvoys_Riddles.leastSigns -/
def X4_leastSigns_L56 (F : Nat) : Nat → Int32 → Int32 → Tau → Option (Int32 × Tau)
  | 0, _, _, _ => none
  | n + 1, a1, a2, τ =>
    if a2 ≤ 1 then (some (a1, τ)) else (cal (X4_takeLeast F a2 τ) fun r1 τ2 => cal (X4_takeLeast F (a2 - 1) τ2) fun r3 τ4 => cal (X10_put F 216 (a2 - 2) (r1 + r3) 1 τ4) fun r5 τ6 => X4_leastSigns_L56 F n (a1 + (r1 + r3)) (a2 + (-1)) τ6)
theorem s_X4_leastSigns_L56 (F : Nat) {K : Ctx} (C : Cx K sysX RX4 cX4_leastSigns 5 3) (hr : Rt K (some .int)) : ∀ (n : Nat) (a1 : Int32) (a2 : Int32) (τ : Tau), Sm K sysX 5 (Qi K sysX) (X4_leastSigns_L56 F n a1 a2 τ) 56 [(0, .ref 213), (1, .int a1), (2, .int a2)] [] τ := by
  intro n
  induction n with
  | zero => intro a1 a2 τ; exact sm_none
  | succ n ih =>
    intro a1 a2 τ
    rw [X4_leastSigns_L56]
    refine sm_seg C [(.iload_n 2, 0), (.iconst 1, 1)] (pc' := 58) (L' := [(0, .ref 213), (1, .int a1), (2, .int a2)]) (S' := [.int 1, .int a2]) (by decide +kernel) rfl ?_
    refine sm_icmple 103 (off := 45) C (by decide +kernel) (by decide) (fun _ => ?_) (fun _ => ?_)
    · refine sm_seg C [(.iload_n 1, 0)] (pc' := 104) (L' := [(0, .ref 213), (1, .int a1), (2, .int a2)]) (S' := [.int a1]) (by decide +kernel) rfl ?_
      exact sm_iret C hr rfl (by decide +kernel)
    · refine sm_seg C [(.aload_n 0, 0), (.iload_n 2, 0)] (pc' := 63) (L' := [(0, .ref 213), (1, .int a1), (2, .int a2)]) (S' := [.int a2, .ref 213]) (by decide +kernel) rfl ?_
      refine sm_vcal [.int a2] [] rfl C mw_X4_takeLeast ml_4_105 rfl (ci := 4) rfl (ltX (by decide +kernel : kdX 213 = 4) (by decide)) (by decide +kernel : kdX 213 = 4) (by decide) ⟨by decide, by decide⟩ (Nat.le_of_ble_eq_true rfl) (by decide +kernel) (c_X4_takeLeast F a2 τ) (fun r1 τ2 => ?_)
      refine sm_seg C [(.istore_n 3, 0), (.iload_n 3, 0), (.aload_n 0, 0), (.iload_n 2, 0), (.iconst 1, 1), (.isub, 0)] (pc' := 72) (L' := [(3, .int r1), (0, .ref 213), (1, .int a1), (2, .int a2)]) (S' := [.int (a2 - 1), .ref 213, .int r1]) (by decide +kernel) rfl ?_
      refine sm_vcal [.int (a2 - 1)] [.int r1] rfl C mw_X4_takeLeast ml_4_105 rfl (ci := 4) rfl (ltX (by decide +kernel : kdX 213 = 4) (by decide)) (by decide +kernel : kdX 213 = 4) (by decide) ⟨by decide, by decide⟩ (Nat.le_of_ble_eq_true rfl) (by decide +kernel) (c_X4_takeLeast F (a2 - 1) τ2) (fun r3 τ4 => ?_)
      refine sm_seg C [(.iadd, 0), (.istore 4, 0), (.aload_n 0, 0)] (pc' := 79) (L' := [(4, .int (r1 + r3)), (3, .int r1), (0, .ref 213), (1, .int a1), (2, .int a2)]) (S' := [.ref 213]) (by decide +kernel) rfl ?_
      refine sm_getR 4 4 216 cls4 C (ltX (by decide +kernel : kdX 213 = 4) (by decide)) (by decide +kernel : kdX 213 = 4) (obX4 (by decide +kernel : kdX 213 = 4)) (by decide) (frX4_4 (by decide +kernel : kdX 213 = 4)) fl4_18 (by decide +kernel) ?_
      refine sm_seg C [(.iload_n 2, 0), (.iconst 2, 2), (.isub, 0), (.iload 4, 0), (.iconst 1, 1)] (pc' := 88) (L' := [(4, .int (r1 + r3)), (3, .int r1), (0, .ref 213), (1, .int a1), (2, .int a2)]) (S' := [.int 1, .int (r1 + r3), .int (a2 - 2), .ref 216]) (by decide +kernel) rfl ?_
      refine sm_ncal "BasketEnvoys" [.ref 216, .int (a2 - 2), .int (r1 + r3), .int 1] [] rfl C mw_X10_put ml_4_101 rfl ⟨by decide, by decide⟩ (Nat.le_of_ble_eq_true rfl) (by decide +kernel) (c_X10_put F 216 (krX4_4 (by decide +kernel : kdX 213 = 4)) (a2 - 2) (r1 + r3) 1 τ4) (fun r5 τ6 => ?_)
      refine sm_seg C [(.pop, 0), (.iload_n 1, 0), (.iload 4, 0), (.iadd, 0), (.istore_n 1, 0), (.iinc 2 (-1), (-1)), (.goto (-44), 0)] (pc' := 56) (L' := [(2, .int (a2 + (-1))), (1, .int (a1 + (r1 + r3))), (4, .int (r1 + r3)), (3, .int r1), (0, .ref 213)]) (S' := []) (by decide +kernel) rfl ?_
      exact sm_sub [4, 1, 0] rfl (ih (a1 + (r1 + r3)) (a2 + (-1)) τ6)
def X4_leastSigns_L4 (F : Nat) : Nat → Int32 → Int32 → Tau → Option (Int32 × Tau)
  | 0, _, _, _ => none
  | n + 1, a1, a2, τ =>
    if (τ 20 0) ≤ a2 then (X4_leastSigns_L56 F F a1 (τ 20 0) τ) else (cal (X5_get F 20 a2 τ) fun r7 τ8 => cal (X10_put F 216 a2 r7 1 τ8) fun r9 τ10 => X4_leastSigns_L4 F n a1 (a2 + 1) τ10)
theorem s_X4_leastSigns_L4 (F : Nat) {K : Ctx} (C : Cx K sysX RX4 cX4_leastSigns 5 3) (hr : Rt K (some .int)) : ∀ (n : Nat) (a1 : Int32) (a2 : Int32) (τ : Tau), Sm K sysX 5 (Qi K sysX) (X4_leastSigns_L4 F n a1 a2 τ) 4 [(0, .ref 213), (1, .int a1), (2, .int a2)] [] τ := by
  intro n
  induction n with
  | zero => intro a1 a2 τ; exact sm_none
  | succ n ih =>
    intro a1 a2 τ
    rw [X4_leastSigns_L4]
    refine sm_seg C [(.iload_n 2, 0), (.aload_n 0, 0)] (pc' := 6) (L' := [(0, .ref 213), (1, .int a1), (2, .int a2)]) (S' := [.ref 213, .int a2]) (by decide +kernel) rfl ?_
    refine sm_getR 4 1 15 cls4 C (ltX (by decide +kernel : kdX 213 = 4) (by decide)) (by decide +kernel : kdX 213 = 4) (obX4 (by decide +kernel : kdX 213 = 4)) (by decide) (frX4_1 (by decide +kernel : kdX 213 = 4)) fl4_51 (by decide +kernel) ?_
    refine sm_getR 7 2 20 cls7 C (ltX (krX4_1 (by decide +kernel : kdX 213 = 4)) (by decide)) (krX4_1 (by decide +kernel : kdX 213 = 4)) (obX7 (krX4_1 (by decide +kernel : kdX 213 = 4))) (by decide) (frX7_2 (krX4_1 (by decide +kernel : kdX 213 = 4))) fl4_98 (by decide +kernel) ?_
    refine sm_getI 5 0 cls5 C (ltX (krX7_2 (krX4_1 (by decide +kernel : kdX 213 = 4))) (by decide)) (krX7_2 (krX4_1 (by decide +kernel : kdX 213 = 4))) (obX5 (krX7_2 (krX4_1 (by decide +kernel : kdX 213 = 4)))) (by decide) (fiX5_0 (krX7_2 (krX4_1 (by decide +kernel : kdX 213 = 4)))) fl4_68 (by decide +kernel) ?_
    refine sm_icmpge 45 (off := 30) C (by decide +kernel) (by decide) (fun _ => ?_) (fun _ => ?_)
    · refine sm_seg C [(.aload_n 0, 0)] (pc' := 46) (L' := [(0, .ref 213), (1, .int a1), (2, .int a2)]) (S' := [.ref 213]) (by decide +kernel) rfl ?_
      refine sm_getR 4 1 15 cls4 C (ltX (by decide +kernel : kdX 213 = 4) (by decide)) (by decide +kernel : kdX 213 = 4) (obX4 (by decide +kernel : kdX 213 = 4)) (by decide) (frX4_1 (by decide +kernel : kdX 213 = 4)) fl4_51 (by decide +kernel) ?_
      refine sm_getR 7 2 20 cls7 C (ltX (krX4_1 (by decide +kernel : kdX 213 = 4)) (by decide)) (krX4_1 (by decide +kernel : kdX 213 = 4)) (obX7 (krX4_1 (by decide +kernel : kdX 213 = 4))) (by decide) (frX7_2 (krX4_1 (by decide +kernel : kdX 213 = 4))) fl4_98 (by decide +kernel) ?_
      refine sm_getI 5 0 cls5 C (ltX (krX7_2 (krX4_1 (by decide +kernel : kdX 213 = 4))) (by decide)) (krX7_2 (krX4_1 (by decide +kernel : kdX 213 = 4))) (obX5 (krX7_2 (krX4_1 (by decide +kernel : kdX 213 = 4)))) (by decide) (fiX5_0 (krX7_2 (krX4_1 (by decide +kernel : kdX 213 = 4)))) fl4_68 (by decide +kernel) ?_
      refine sm_seg C [(.istore_n 2, 0)] (pc' := 56) (L' := [(2, .int (τ 20 0)), (0, .ref 213), (1, .int a1)]) (S' := []) (by decide +kernel) rfl ?_
      exact sm_sub [1, 2, 0] rfl (s_X4_leastSigns_L56 F C hr F a1 (τ 20 0) τ)
    · refine sm_seg C [(.aload_n 0, 0)] (pc' := 19) (L' := [(0, .ref 213), (1, .int a1), (2, .int a2)]) (S' := [.ref 213]) (by decide +kernel) rfl ?_
      refine sm_getR 4 4 216 cls4 C (ltX (by decide +kernel : kdX 213 = 4) (by decide)) (by decide +kernel : kdX 213 = 4) (obX4 (by decide +kernel : kdX 213 = 4)) (by decide) (frX4_4 (by decide +kernel : kdX 213 = 4)) fl4_18 (by decide +kernel) ?_
      refine sm_seg C [(.iload_n 2, 0), (.aload_n 0, 0)] (pc' := 24) (L' := [(0, .ref 213), (1, .int a1), (2, .int a2)]) (S' := [.ref 213, .int a2, .ref 216]) (by decide +kernel) rfl ?_
      refine sm_getR 4 1 15 cls4 C (ltX (by decide +kernel : kdX 213 = 4) (by decide)) (by decide +kernel : kdX 213 = 4) (obX4 (by decide +kernel : kdX 213 = 4)) (by decide) (frX4_1 (by decide +kernel : kdX 213 = 4)) fl4_51 (by decide +kernel) ?_
      refine sm_getR 7 2 20 cls7 C (ltX (krX4_1 (by decide +kernel : kdX 213 = 4)) (by decide)) (krX4_1 (by decide +kernel : kdX 213 = 4)) (obX7 (krX4_1 (by decide +kernel : kdX 213 = 4))) (by decide) (frX7_2 (krX4_1 (by decide +kernel : kdX 213 = 4))) fl4_98 (by decide +kernel) ?_
      refine sm_seg C [(.iload_n 2, 0)] (pc' := 31) (L' := [(0, .ref 213), (1, .int a1), (2, .int a2)]) (S' := [.int a2, .ref 20, .int a2, .ref 216]) (by decide +kernel) rfl ?_
      refine sm_vcal [.int a2] [.int a2, .ref 216] rfl C mw_X5_get ml_4_73 rfl (ci := 5) rfl (ltX (krX7_2 (krX4_1 (by decide +kernel : kdX 213 = 4))) (by decide)) (krX7_2 (krX4_1 (by decide +kernel : kdX 213 = 4))) (by decide) ⟨by decide, by decide⟩ (Nat.le_of_ble_eq_true rfl) (by decide +kernel) (c_X5_get F 20 (krX7_2 (krX4_1 (by decide +kernel : kdX 213 = 4))) a2 τ) (fun r7 τ8 => ?_)
      refine sm_seg C [(.iconst 1, 1)] (pc' := 35) (L' := [(0, .ref 213), (1, .int a1), (2, .int a2)]) (S' := [.int 1, .int r7, .int a2, .ref 216]) (by decide +kernel) rfl ?_
      refine sm_ncal "BasketEnvoys" [.ref 216, .int a2, .int r7, .int 1] [] rfl C mw_X10_put ml_4_101 rfl ⟨by decide, by decide⟩ (Nat.le_of_ble_eq_true rfl) (by decide +kernel) (c_X10_put F 216 (krX4_4 (by decide +kernel : kdX 213 = 4)) a2 r7 1 τ8) (fun r9 τ10 => ?_)
      refine sm_seg C [(.pop, 0), (.iinc 2 1, 1), (.goto (-38), 0)] (pc' := 4) (L' := [(2, .int (a2 + 1)), (0, .ref 213), (1, .int a1)]) (S' := []) (by decide +kernel) rfl ?_
      exact sm_sub [1, 2, 0] rfl (ih a1 (a2 + 1) τ10)
def X4_leastSigns (F : Nat) (τ : Tau) : Option (Int32 × Tau) :=
  X4_leastSigns_L4 F F 0 0 τ
set_option maxRecDepth 20000 in
set_option maxHeartbeats 4000000 in
theorem c_X4_leastSigns (F : Nat) (τ : Tau) (r : Int32) (τ' : Tau) (h : X4_leastSigns F τ = some (r, τ')) : MCi sysX yX4_leastSigns cX4_leastSigns 5 (some .int) 3 [.ref 213] τ r τ' :=
  mci_of (by decide +kernel) (Nat.le_of_ble_eq_true rfl) (fun K C hr => by
    show Sm K sysX 5 (Qi K sysX) (X4_leastSigns F τ) 0 [(0, .ref 213)] [] τ
    unfold X4_leastSigns
    refine sm_seg C [(.iconst 0, 0), (.istore_n 1, 0), (.iconst 0, 0), (.istore_n 2, 0)] (pc' := 4) (L' := [(2, .int 0), (1, .int 0), (0, .ref 213)]) (S' := []) (by decide +kernel) rfl ?_
    exact sm_sub [2, 1, 0] rfl (s_X4_leastSigns_L4 F C hr F 0 0 τ)) h
/-! BasketEnvoys.signs -/
def X10_signs (F : Nat) (τ : Tau) : Option (Int32 × Tau) :=
  cal (X4_leastSigns F τ) fun r1 τ2 => some (r1, τ2)
set_option maxRecDepth 20000 in
set_option maxHeartbeats 4000000 in
theorem c_X10_signs (F : Nat) (τ : Tau) (r : Int32) (τ' : Tau) (h : X10_signs F τ = some (r, τ')) : MCi sysX yX10_signs cX10_signs 1 (some .int) 4 [.ref 0] τ r τ' :=
  mci_of (by decide +kernel) (Nat.le_of_ble_eq_true rfl) (fun K C hr => by
    show Sm K sysX 1 (Qi K sysX) (X10_signs F τ) 0 [(0, .ref 0)] [] τ
    unfold X10_signs
    refine sm_seg C [(.aload_n 0, 0)] (pc' := 1) (L' := [(0, .ref 0)]) (S' := [.ref 0]) (by decide +kernel) rfl ?_
    refine sm_getR 10 7 213 cls10 C (ltX (by decide +kernel : kdX 0 = 10) (by decide)) (by decide +kernel : kdX 0 = 10) (obX10 (by decide +kernel : kdX 0 = 10)) (by decide) (frX10_7 (by decide +kernel : kdX 0 = 10)) fl10_56 (by decide +kernel) ?_
    refine sm_vcal [] [] rfl C mw_X4_leastSigns ml_10_286 rfl (ci := 4) rfl (ltX (krX10_7 (by decide +kernel : kdX 0 = 10)) (by decide)) (krX10_7 (by decide +kernel : kdX 0 = 10)) (by decide) ⟨by decide, by decide⟩ (Nat.le_of_ble_eq_true rfl) (by decide +kernel) (c_X4_leastSigns F τ) (fun r1 τ2 => ?_)
    exact sm_iret C hr rfl (by decide +kernel)) h
/-! BasketEnvoys_Riddles.isWon -/
def X4_isWon (F : Nat) (a1 : Int32) (τ : Tau) : Option (Int32 × Tau) :=
  if a1 < 0 then (some (0, τ)) else (if 1024 ≤ a1 then (some (0, τ)) else (ald τ 221 1024 a1 fun v1 => if v1 = 0 then (some (0, τ)) else (some (1, τ))))
set_option maxRecDepth 20000 in
set_option maxHeartbeats 4000000 in
theorem c_X4_isWon (F : Nat) (a1 : Int32) (τ : Tau) (r : Int32) (τ' : Tau) (h : X4_isWon F a1 τ = some (r, τ')) : MCi sysX yX4_isWon cX4_isWon 2 (some .boolean) 1 [.ref 213, .int a1] τ r τ' :=
  mci_of (by decide +kernel) (Nat.le_of_ble_eq_true rfl) (fun K C hr => by
    show Sm K sysX 2 (Qi K sysX) (X4_isWon F a1 τ) 0 [(0, .ref 213), (1, .int a1)] [] τ
    unfold X4_isWon
    refine sm_seg C [(.iload_n 1, 0)] (pc' := 1) (L' := [(0, .ref 213), (1, .int a1)]) (S' := [.int a1]) (by decide +kernel) rfl ?_
    refine sm_iflt 26 (off := 25) C (by decide +kernel) (by decide) (fun _ => ?_) (fun _ => ?_)
    · refine sm_seg C [(.iconst 0, 0)] (pc' := 27) (L' := [(0, .ref 213), (1, .int a1)]) (S' := [.int 0]) (by decide +kernel) rfl ?_
      exact sm_iret C hr rfl (by decide +kernel)
    · refine sm_seg C [(.iload_n 1, 0), (.aload_n 0, 0)] (pc' := 6) (L' := [(0, .ref 213), (1, .int a1)]) (S' := [.ref 213, .int a1]) (by decide +kernel) rfl ?_
      refine sm_getR 4 9 221 cls4 C (ltX (by decide +kernel : kdX 213 = 4) (by decide)) (by decide +kernel : kdX 213 = 4) (obX4 (by decide +kernel : kdX 213 = 4)) (by decide) (frX4_9 (by decide +kernel : kdX 213 = 4)) fl4_33 (by decide +kernel) ?_
      refine sm_alen 21 1 1024 (fun _ => rfl) C (ltX (krX4_9 (by decide +kernel : kdX 213 = 4)) (by decide)) (krX4_9 (by decide +kernel : kdX 213 = 4)) (by decide) (by decide) (nrX4_9 (by decide +kernel : kdX 213 = 4)) rfl (by decide +kernel) ?_
      refine sm_icmpge 26 (off := 16) C (by decide +kernel) (by decide) (fun _ => ?_) (fun _ => ?_)
      · refine sm_seg C [(.iconst 0, 0)] (pc' := 27) (L' := [(0, .ref 213), (1, .int a1)]) (S' := [.int 0]) (by decide +kernel) rfl ?_
        exact sm_iret C hr rfl (by decide +kernel)
      · refine sm_seg C [(.aload_n 0, 0)] (pc' := 14) (L' := [(0, .ref 213), (1, .int a1)]) (S' := [.ref 213]) (by decide +kernel) rfl ?_
        refine sm_getR 4 9 221 cls4 C (ltX (by decide +kernel : kdX 213 = 4) (by decide)) (by decide +kernel : kdX 213 = 4) (obX4 (by decide +kernel : kdX 213 = 4)) (by decide) (frX4_9 (by decide +kernel : kdX 213 = 4)) fl4_33 (by decide +kernel) ?_
        refine sm_seg C [(.iload_n 1, 0)] (pc' := 18) (L' := [(0, .ref 213), (1, .int a1)]) (S' := [.int a1, .ref 221]) (by decide +kernel) rfl ?_
        refine sm_ldz 1024 C (ltX (krX4_9 (by decide +kernel : kdX 213 = 4)) (by decide)) (krX4_9 (by decide +kernel : kdX 213 = 4)) (nrX4_9 (by decide +kernel : kdX 213 = 4)) (by decide +kernel) (fun v1 => ?_)
        refine sm_ifeq 26 (off := 7) C (by decide +kernel) (by decide) (fun _ => ?_) (fun _ => ?_)
        · refine sm_seg C [(.iconst 0, 0)] (pc' := 27) (L' := [(0, .ref 213), (1, .int a1)]) (S' := [.int 0]) (by decide +kernel) rfl ?_
          exact sm_iret C hr rfl (by decide +kernel)
        · refine sm_seg C [(.iconst 1, 1), (.goto 4, 0)] (pc' := 27) (L' := [(0, .ref 213), (1, .int a1)]) (S' := [.int 1]) (by decide +kernel) rfl ?_
          exact sm_iret C hr rfl (by decide +kernel)) h
/-! BasketEnvoys_Riddles.firstWinningMove -/
def X4_firstWinningMove_j145 (F : Nat) (a5 : Int32) (z0 : Int32) (τ : Tau) : Option (Int32 × Tau) :=
  if z0 = 0 then (some ((-1), τ)) else (cal (X4_isWon F (a5 - 512) τ) fun r1 τ2 => if r1 = 0 then (some (300, τ2)) else (some ((-1), τ2)))
theorem s_X4_firstWinningMove_j145 (F : Nat) {K : Ctx} (C : Cx K sysX RX4 cX4_firstWinningMove 10 2) (hr : Rt K (some .int)) (a5 : Int32) (z0 : Int32) (τ : Tau) : Sm K sysX 10 (Qi K sysX) (X4_firstWinningMove_j145 F a5 z0 τ) 145 [(0, .ref 213), (5, .int a5)] [.int z0] τ := by
  unfold X4_firstWinningMove_j145
  refine sm_seg C [(.istore 6, 0), (.iload 6, 0)] (pc' := 149) (L' := [(6, .int z0), (0, .ref 213), (5, .int a5)]) (S' := [.int z0]) (by decide +kernel) rfl ?_
  refine sm_ifeq 171 (off := 22) C (by decide +kernel) (by decide) (fun _ => ?_) (fun _ => ?_)
  · refine sm_seg C [(.iconst (-1), (-1))] (pc' := 172) (L' := [(6, .int z0), (0, .ref 213), (5, .int a5)]) (S' := [.int (-1)]) (by decide +kernel) rfl ?_
    exact sm_iret C hr rfl (by decide +kernel)
  · refine sm_seg C [(.aload_n 0, 0), (.iload 5, 0), (.sipush 512, 512), (.isub, 0)] (pc' := 159) (L' := [(6, .int z0), (0, .ref 213), (5, .int a5)]) (S' := [.int (a5 - 512), .ref 213]) (by decide +kernel) rfl ?_
    refine sm_vcal [.int (a5 - 512)] [] rfl C mw_X4_isWon ml_4_213 rfl (ci := 4) rfl (ltX (by decide +kernel : kdX 213 = 4) (by decide)) (by decide +kernel : kdX 213 = 4) (by decide) ⟨by decide, by decide⟩ (Nat.le_of_ble_eq_true rfl) (by decide +kernel) (c_X4_isWon F (a5 - 512) τ) (fun r1 τ2 => ?_)
    refine sm_ifne 171 (off := 9) C (by decide +kernel) (by decide) (fun _ => ?_) (fun _ => ?_)
    · refine sm_seg C [(.sipush 300, 300), (.goto 4, 0)] (pc' := 172) (L' := [(6, .int z0), (0, .ref 213), (5, .int a5)]) (S' := [.int 300]) (by decide +kernel) rfl ?_
      exact sm_iret C hr rfl (by decide +kernel)
    · refine sm_seg C [(.iconst (-1), (-1))] (pc' := 172) (L' := [(6, .int z0), (0, .ref 213), (5, .int a5)]) (S' := [.int (-1)]) (by decide +kernel) rfl ?_
      exact sm_iret C hr rfl (by decide +kernel)
def X4_firstWinningMove_j144 (F : Nat) (a5 : Int32) (τ : Tau) : Option (Int32 × Tau) :=
  X4_firstWinningMove_j145 F a5 0 τ
theorem s_X4_firstWinningMove_j144 (F : Nat) {K : Ctx} (C : Cx K sysX RX4 cX4_firstWinningMove 10 2) (hr : Rt K (some .int)) (a5 : Int32) (τ : Tau) : Sm K sysX 10 (Qi K sysX) (X4_firstWinningMove_j144 F a5 τ) 144 [(0, .ref 213), (5, .int a5)] [] τ := by
  unfold X4_firstWinningMove_j144
  refine sm_seg C [(.iconst 0, 0)] (pc' := 145) (L' := [(0, .ref 213), (5, .int a5)]) (S' := [.int 0]) (by decide +kernel) rfl ?_
  exact sm_sub [0, 1] rfl (s_X4_firstWinningMove_j145 F C hr a5 0 τ)
def X4_firstWinningMove_L84 (F : Nat) (self29 : Int32 → Int32 → Int32 → Int32 → Int32 → Int32 → Tau → Option (Int32 × Tau)) : Nat → Int32 → Int32 → Int32 → Int32 → Int32 → Int32 → Int32 → Int32 → Int32 → Tau → Option (Int32 × Tau)
  | 0, _, _, _, _, _, _, _, _, _, _ => none
  | n + 1, a1, a2, a3, a4, a5, a6, a7, a8, a9, τ =>
    if a7 < a9 then (self29 a1 a2 a3 a4 a5 (a6 + 1) τ) else (cal (X4_isWon F (a5 - (a8 * a9)) τ) fun r3 τ4 => if r3 = 0 then (some (((100 * a6) + a9), τ4)) else (X4_firstWinningMove_L84 F self29 n a1 a2 a3 a4 a5 a6 a7 a8 (a9 + 1) τ4))
theorem s_X4_firstWinningMove_L84 (F : Nat) {K : Ctx} (C : Cx K sysX RX4 cX4_firstWinningMove 10 2) (hr : Rt K (some .int)) (self29 : Int32 → Int32 → Int32 → Int32 → Int32 → Int32 → Tau → Option (Int32 × Tau)) (ih29 : ∀ (a1 : Int32) (a2 : Int32) (a3 : Int32) (a4 : Int32) (a5 : Int32) (a6 : Int32) (τ : Tau), Sm K sysX 10 (Qi K sysX) (self29 a1 a2 a3 a4 a5 a6 τ) 29 [(0, .ref 213), (1, .int a1), (2, .int a2), (3, .int a3), (4, .int a4), (5, .int a5), (6, .int a6)] [] τ) : ∀ (n : Nat) (a1 : Int32) (a2 : Int32) (a3 : Int32) (a4 : Int32) (a5 : Int32) (a6 : Int32) (a7 : Int32) (a8 : Int32) (a9 : Int32) (τ : Tau), Sm K sysX 10 (Qi K sysX) (X4_firstWinningMove_L84 F self29 n a1 a2 a3 a4 a5 a6 a7 a8 a9 τ) 84 [(0, .ref 213), (1, .int a1), (2, .int a2), (3, .int a3), (4, .int a4), (5, .int a5), (6, .int a6), (7, .int a7), (8, .int a8), (9, .int a9)] [] τ := by
  intro n
  induction n with
  | zero => intro a1 a2 a3 a4 a5 a6 a7 a8 a9 τ; exact sm_none
  | succ n ih =>
    intro a1 a2 a3 a4 a5 a6 a7 a8 a9 τ
    rw [X4_firstWinningMove_L84]
    refine sm_seg C [(.iload 9, 0), (.iload 7, 0)] (pc' := 88) (L' := [(0, .ref 213), (1, .int a1), (2, .int a2), (3, .int a3), (4, .int a4), (5, .int a5), (6, .int a6), (7, .int a7), (8, .int a8), (9, .int a9)]) (S' := [.int a7, .int a9]) (by decide +kernel) rfl ?_
    refine sm_icmpgt 121 (off := 33) C (by decide +kernel) (by decide) (fun _ => ?_) (fun _ => ?_)
    · refine sm_seg C [(.iinc 6 1, 1), (.goto (-95), 0)] (pc' := 29) (L' := [(6, .int (a6 + 1)), (0, .ref 213), (1, .int a1), (2, .int a2), (3, .int a3), (4, .int a4), (5, .int a5), (7, .int a7), (8, .int a8), (9, .int a9)]) (S' := []) (by decide +kernel) rfl ?_
      exact sm_sub [1, 2, 3, 4, 5, 6, 0] rfl (ih29 a1 a2 a3 a4 a5 (a6 + 1) τ)
    · refine sm_seg C [(.aload_n 0, 0), (.iload 5, 0), (.iload 8, 0), (.iload 9, 0), (.imul, 0), (.isub, 0)] (pc' := 100) (L' := [(0, .ref 213), (1, .int a1), (2, .int a2), (3, .int a3), (4, .int a4), (5, .int a5), (6, .int a6), (7, .int a7), (8, .int a8), (9, .int a9)]) (S' := [.int (a5 - (a8 * a9)), .ref 213]) (by decide +kernel) rfl ?_
      refine sm_vcal [.int (a5 - (a8 * a9))] [] rfl C mw_X4_isWon ml_4_213 rfl (ci := 4) rfl (ltX (by decide +kernel : kdX 213 = 4) (by decide)) (by decide +kernel : kdX 213 = 4) (by decide) ⟨by decide, by decide⟩ (Nat.le_of_ble_eq_true rfl) (by decide +kernel) (c_X4_isWon F (a5 - (a8 * a9)) τ) (fun r3 τ4 => ?_)
      refine sm_ifne 115 (off := 12) C (by decide +kernel) (by decide) (fun _ => ?_) (fun _ => ?_)
      · refine sm_seg C [(.bipush 100, 100), (.iload 6, 0), (.imul, 0), (.iload 9, 0), (.iadd, 0)] (pc' := 114) (L' := [(0, .ref 213), (1, .int a1), (2, .int a2), (3, .int a3), (4, .int a4), (5, .int a5), (6, .int a6), (7, .int a7), (8, .int a8), (9, .int a9)]) (S' := [.int ((100 * a6) + a9)]) (by decide +kernel) rfl ?_
        exact sm_iret C hr rfl (by decide +kernel)
      · refine sm_seg C [(.iinc 9 1, 1), (.goto (-34), 0)] (pc' := 84) (L' := [(9, .int (a9 + 1)), (0, .ref 213), (1, .int a1), (2, .int a2), (3, .int a3), (4, .int a4), (5, .int a5), (6, .int a6), (7, .int a7), (8, .int a8)]) (S' := []) (by decide +kernel) rfl ?_
        exact sm_sub [1, 2, 3, 4, 5, 6, 7, 8, 9, 0] rfl (ih a1 a2 a3 a4 a5 a6 a7 a8 (a9 + 1) τ4)
def X4_firstWinningMove_j79 (F : Nat) (self29 : Int32 → Int32 → Int32 → Int32 → Int32 → Int32 → Tau → Option (Int32 × Tau)) (a1 : Int32) (a2 : Int32) (a3 : Int32) (a4 : Int32) (a5 : Int32) (a6 : Int32) (a7 : Int32) (z0 : Int32) (τ : Tau) : Option (Int32 × Tau) :=
  X4_firstWinningMove_L84 F self29 F a1 a2 a3 a4 a5 a6 a7 z0 1 τ
theorem s_X4_firstWinningMove_j79 (F : Nat) {K : Ctx} (C : Cx K sysX RX4 cX4_firstWinningMove 10 2) (hr : Rt K (some .int)) (self29 : Int32 → Int32 → Int32 → Int32 → Int32 → Int32 → Tau → Option (Int32 × Tau)) (ih29 : ∀ (a1 : Int32) (a2 : Int32) (a3 : Int32) (a4 : Int32) (a5 : Int32) (a6 : Int32) (τ : Tau), Sm K sysX 10 (Qi K sysX) (self29 a1 a2 a3 a4 a5 a6 τ) 29 [(0, .ref 213), (1, .int a1), (2, .int a2), (3, .int a3), (4, .int a4), (5, .int a5), (6, .int a6)] [] τ) (a1 : Int32) (a2 : Int32) (a3 : Int32) (a4 : Int32) (a5 : Int32) (a6 : Int32) (a7 : Int32) (z0 : Int32) (τ : Tau) : Sm K sysX 10 (Qi K sysX) (X4_firstWinningMove_j79 F self29 a1 a2 a3 a4 a5 a6 a7 z0 τ) 79 [(0, .ref 213), (1, .int a1), (2, .int a2), (3, .int a3), (4, .int a4), (5, .int a5), (6, .int a6), (7, .int a7)] [.int z0] τ := by
  unfold X4_firstWinningMove_j79
  refine sm_seg C [(.istore 8, 0), (.iconst 1, 1), (.istore 9, 0)] (pc' := 84) (L' := [(9, .int 1), (8, .int z0), (0, .ref 213), (1, .int a1), (2, .int a2), (3, .int a3), (4, .int a4), (5, .int a5), (6, .int a6), (7, .int a7)]) (S' := []) (by decide +kernel) rfl ?_
  exact sm_sub [2, 3, 4, 5, 6, 7, 8, 9, 1, 0] rfl (s_X4_firstWinningMove_L84 F C hr self29 ih29 F a1 a2 a3 a4 a5 a6 a7 z0 1 τ)
def X4_firstWinningMove_j55 (F : Nat) (self29 : Int32 → Int32 → Int32 → Int32 → Int32 → Int32 → Tau → Option (Int32 × Tau)) (a1 : Int32) (a2 : Int32) (a3 : Int32) (a4 : Int32) (a5 : Int32) (a6 : Int32) (z0 : Int32) (τ : Tau) : Option (Int32 × Tau) :=
  if a6 = 0 then (X4_firstWinningMove_j79 F self29 a1 a2 a3 a4 a5 a6 z0 64 τ) else (if a6 = 1 then (X4_firstWinningMove_j79 F self29 a1 a2 a3 a4 a5 a6 z0 8 τ) else (X4_firstWinningMove_j79 F self29 a1 a2 a3 a4 a5 a6 z0 1 τ))
theorem s_X4_firstWinningMove_j55 (F : Nat) {K : Ctx} (C : Cx K sysX RX4 cX4_firstWinningMove 10 2) (hr : Rt K (some .int)) (self29 : Int32 → Int32 → Int32 → Int32 → Int32 → Int32 → Tau → Option (Int32 × Tau)) (ih29 : ∀ (a1 : Int32) (a2 : Int32) (a3 : Int32) (a4 : Int32) (a5 : Int32) (a6 : Int32) (τ : Tau), Sm K sysX 10 (Qi K sysX) (self29 a1 a2 a3 a4 a5 a6 τ) 29 [(0, .ref 213), (1, .int a1), (2, .int a2), (3, .int a3), (4, .int a4), (5, .int a5), (6, .int a6)] [] τ) (a1 : Int32) (a2 : Int32) (a3 : Int32) (a4 : Int32) (a5 : Int32) (a6 : Int32) (z0 : Int32) (τ : Tau) : Sm K sysX 10 (Qi K sysX) (X4_firstWinningMove_j55 F self29 a1 a2 a3 a4 a5 a6 z0 τ) 55 [(0, .ref 213), (1, .int a1), (2, .int a2), (3, .int a3), (4, .int a4), (5, .int a5), (6, .int a6)] [.int z0] τ := by
  unfold X4_firstWinningMove_j55
  refine sm_seg C [(.istore 7, 0), (.iload 6, 0)] (pc' := 59) (L' := [(7, .int z0), (0, .ref 213), (1, .int a1), (2, .int a2), (3, .int a3), (4, .int a4), (5, .int a5), (6, .int a6)]) (S' := [.int a6]) (by decide +kernel) rfl ?_
  refine sm_ifne 67 (off := 8) C (by decide +kernel) (by decide) (fun _ => ?_) (fun _ => ?_)
  · refine sm_seg C [(.bipush 64, 64), (.goto 15, 0)] (pc' := 79) (L' := [(7, .int z0), (0, .ref 213), (1, .int a1), (2, .int a2), (3, .int a3), (4, .int a4), (5, .int a5), (6, .int a6)]) (S' := [.int 64]) (by decide +kernel) rfl ?_
    exact sm_sub [1, 2, 3, 4, 5, 6, 7, 0] rfl (s_X4_firstWinningMove_j79 F C hr self29 ih29 a1 a2 a3 a4 a5 a6 z0 64 τ)
  · refine sm_seg C [(.iload 6, 0), (.iconst 1, 1)] (pc' := 70) (L' := [(7, .int z0), (0, .ref 213), (1, .int a1), (2, .int a2), (3, .int a3), (4, .int a4), (5, .int a5), (6, .int a6)]) (S' := [.int 1, .int a6]) (by decide +kernel) rfl ?_
    refine sm_icmpne 78 (off := 8) C (by decide +kernel) (by decide) (fun _ => ?_) (fun _ => ?_)
    · refine sm_seg C [(.bipush 8, 8), (.goto 4, 0)] (pc' := 79) (L' := [(7, .int z0), (0, .ref 213), (1, .int a1), (2, .int a2), (3, .int a3), (4, .int a4), (5, .int a5), (6, .int a6)]) (S' := [.int 8]) (by decide +kernel) rfl ?_
      exact sm_sub [1, 2, 3, 4, 5, 6, 7, 0] rfl (s_X4_firstWinningMove_j79 F C hr self29 ih29 a1 a2 a3 a4 a5 a6 z0 8 τ)
    · refine sm_seg C [(.iconst 1, 1)] (pc' := 79) (L' := [(7, .int z0), (0, .ref 213), (1, .int a1), (2, .int a2), (3, .int a3), (4, .int a4), (5, .int a5), (6, .int a6)]) (S' := [.int 1]) (by decide +kernel) rfl ?_
      exact sm_sub [1, 2, 3, 4, 5, 6, 7, 0] rfl (s_X4_firstWinningMove_j79 F C hr self29 ih29 a1 a2 a3 a4 a5 a6 z0 1 τ)
def X4_firstWinningMove_L29 (F : Nat) : Nat → Int32 → Int32 → Int32 → Int32 → Int32 → Int32 → Tau → Option (Int32 × Tau)
  | 0, _, _, _, _, _, _, _ => none
  | n + 1, a1, a2, a3, a4, a5, a6, τ =>
    if 3 ≤ a6 then (if a4 = 0 then (X4_firstWinningMove_j144 F a5 τ) else (if ((a1 + a2) + a3) ≤ 0 then (X4_firstWinningMove_j144 F a5 τ) else (X4_firstWinningMove_j145 F a5 1 τ))) else (if a6 = 0 then (X4_firstWinningMove_j55 F (X4_firstWinningMove_L29 F n) a1 a2 a3 a4 a5 a6 a1 τ) else (if a6 = 1 then (X4_firstWinningMove_j55 F (X4_firstWinningMove_L29 F n) a1 a2 a3 a4 a5 a6 a2 τ) else (X4_firstWinningMove_j55 F (X4_firstWinningMove_L29 F n) a1 a2 a3 a4 a5 a6 a3 τ)))
theorem s_X4_firstWinningMove_L29 (F : Nat) {K : Ctx} (C : Cx K sysX RX4 cX4_firstWinningMove 10 2) (hr : Rt K (some .int)) : ∀ (n : Nat) (a1 : Int32) (a2 : Int32) (a3 : Int32) (a4 : Int32) (a5 : Int32) (a6 : Int32) (τ : Tau), Sm K sysX 10 (Qi K sysX) (X4_firstWinningMove_L29 F n a1 a2 a3 a4 a5 a6 τ) 29 [(0, .ref 213), (1, .int a1), (2, .int a2), (3, .int a3), (4, .int a4), (5, .int a5), (6, .int a6)] [] τ := by
  intro n
  induction n with
  | zero => intro a1 a2 a3 a4 a5 a6 τ; exact sm_none
  | succ n ih =>
    intro a1 a2 a3 a4 a5 a6 τ
    rw [X4_firstWinningMove_L29]
    refine sm_seg C [(.iload 6, 0), (.iconst 3, 3)] (pc' := 32) (L' := [(0, .ref 213), (1, .int a1), (2, .int a2), (3, .int a3), (4, .int a4), (5, .int a5), (6, .int a6)]) (S' := [.int 3, .int a6]) (by decide +kernel) rfl ?_
    refine sm_icmpge 127 (off := 95) C (by decide +kernel) (by decide) (fun _ => ?_) (fun _ => ?_)
    · refine sm_seg C [(.iload 4, 0)] (pc' := 129) (L' := [(0, .ref 213), (1, .int a1), (2, .int a2), (3, .int a3), (4, .int a4), (5, .int a5), (6, .int a6)]) (S' := [.int a4]) (by decide +kernel) rfl ?_
      refine sm_ifeq 144 (off := 15) C (by decide +kernel) (by decide) (fun _ => ?_) (fun _ => ?_)
      · exact sm_sub [0, 5] rfl (s_X4_firstWinningMove_j144 F C hr a5 τ)
      · refine sm_seg C [(.iload_n 1, 0), (.iload_n 2, 0), (.iadd, 0), (.iload_n 3, 0), (.iadd, 0)] (pc' := 137) (L' := [(0, .ref 213), (1, .int a1), (2, .int a2), (3, .int a3), (4, .int a4), (5, .int a5), (6, .int a6)]) (S' := [.int ((a1 + a2) + a3)]) (by decide +kernel) rfl ?_
        refine sm_ifle 144 (off := 7) C (by decide +kernel) (by decide) (fun _ => ?_) (fun _ => ?_)
        · exact sm_sub [0, 5] rfl (s_X4_firstWinningMove_j144 F C hr a5 τ)
        · refine sm_seg C [(.iconst 1, 1), (.goto 4, 0)] (pc' := 145) (L' := [(0, .ref 213), (1, .int a1), (2, .int a2), (3, .int a3), (4, .int a4), (5, .int a5), (6, .int a6)]) (S' := [.int 1]) (by decide +kernel) rfl ?_
          exact sm_sub [0, 5] rfl (s_X4_firstWinningMove_j145 F C hr a5 1 τ)
    · refine sm_seg C [(.iload 6, 0)] (pc' := 37) (L' := [(0, .ref 213), (1, .int a1), (2, .int a2), (3, .int a3), (4, .int a4), (5, .int a5), (6, .int a6)]) (S' := [.int a6]) (by decide +kernel) rfl ?_
      refine sm_ifne 44 (off := 7) C (by decide +kernel) (by decide) (fun _ => ?_) (fun _ => ?_)
      · refine sm_seg C [(.iload_n 1, 0), (.goto 14, 0)] (pc' := 55) (L' := [(0, .ref 213), (1, .int a1), (2, .int a2), (3, .int a3), (4, .int a4), (5, .int a5), (6, .int a6)]) (S' := [.int a1]) (by decide +kernel) rfl ?_
        exact sm_sub [0, 1, 2, 3, 4, 5, 6] rfl (s_X4_firstWinningMove_j55 F C hr (X4_firstWinningMove_L29 F n) ih a1 a2 a3 a4 a5 a6 a1 τ)
      · refine sm_seg C [(.iload 6, 0), (.iconst 1, 1)] (pc' := 47) (L' := [(0, .ref 213), (1, .int a1), (2, .int a2), (3, .int a3), (4, .int a4), (5, .int a5), (6, .int a6)]) (S' := [.int 1, .int a6]) (by decide +kernel) rfl ?_
        refine sm_icmpne 54 (off := 7) C (by decide +kernel) (by decide) (fun _ => ?_) (fun _ => ?_)
        · refine sm_seg C [(.iload_n 2, 0), (.goto 4, 0)] (pc' := 55) (L' := [(0, .ref 213), (1, .int a1), (2, .int a2), (3, .int a3), (4, .int a4), (5, .int a5), (6, .int a6)]) (S' := [.int a2]) (by decide +kernel) rfl ?_
          exact sm_sub [0, 1, 2, 3, 4, 5, 6] rfl (s_X4_firstWinningMove_j55 F C hr (X4_firstWinningMove_L29 F n) ih a1 a2 a3 a4 a5 a6 a2 τ)
        · refine sm_seg C [(.iload_n 3, 0)] (pc' := 55) (L' := [(0, .ref 213), (1, .int a1), (2, .int a2), (3, .int a3), (4, .int a4), (5, .int a5), (6, .int a6)]) (S' := [.int a3]) (by decide +kernel) rfl ?_
          exact sm_sub [0, 1, 2, 3, 4, 5, 6] rfl (s_X4_firstWinningMove_j55 F C hr (X4_firstWinningMove_L29 F n) ih a1 a2 a3 a4 a5 a6 a3 τ)
def X4_firstWinningMove_j23 (F : Nat) (a1 : Int32) (a2 : Int32) (a3 : Int32) (a4 : Int32) (z0 : Int32) (z1 : Int32) (τ : Tau) : Option (Int32 × Tau) :=
  X4_firstWinningMove_L29 F F a1 a2 a3 a4 (z1 + z0) 0 τ
theorem s_X4_firstWinningMove_j23 (F : Nat) {K : Ctx} (C : Cx K sysX RX4 cX4_firstWinningMove 10 2) (hr : Rt K (some .int)) (a1 : Int32) (a2 : Int32) (a3 : Int32) (a4 : Int32) (z0 : Int32) (z1 : Int32) (τ : Tau) : Sm K sysX 10 (Qi K sysX) (X4_firstWinningMove_j23 F a1 a2 a3 a4 z0 z1 τ) 23 [(0, .ref 213), (1, .int a1), (2, .int a2), (3, .int a3), (4, .int a4)] [.int z0, .int z1] τ := by
  unfold X4_firstWinningMove_j23
  refine sm_seg C [(.iadd, 0), (.istore 5, 0), (.iconst 0, 0), (.istore 6, 0)] (pc' := 29) (L' := [(6, .int 0), (5, .int (z1 + z0)), (0, .ref 213), (1, .int a1), (2, .int a2), (3, .int a3), (4, .int a4)]) (S' := []) (by decide +kernel) rfl ?_
  exact sm_sub [2, 3, 4, 5, 6, 1, 0] rfl (s_X4_firstWinningMove_L29 F C hr F a1 a2 a3 a4 (z1 + z0) 0 τ)
def X4_firstWinningMove (F : Nat) (a1 : Int32) (a2 : Int32) (a3 : Int32) (a4 : Int32) (τ : Tau) : Option (Int32 × Tau) :=
  if a4 = 0 then (X4_firstWinningMove_j23 F a1 a2 a3 a4 0 (((64 * a1) + (8 * a2)) + a3) τ) else (X4_firstWinningMove_j23 F a1 a2 a3 a4 512 (((64 * a1) + (8 * a2)) + a3) τ)
set_option maxRecDepth 20000 in
set_option maxHeartbeats 4000000 in
theorem c_X4_firstWinningMove (F : Nat) (a1 : Int32) (a2 : Int32) (a3 : Int32) (a4 : Int32) (τ : Tau) (r : Int32) (τ' : Tau) (h : X4_firstWinningMove F a1 a2 a3 a4 τ = some (r, τ')) : MCi sysX yX4_firstWinningMove cX4_firstWinningMove 10 (some .int) 2 [.ref 213, .int a1, .int a2, .int a3, .int a4] τ r τ' :=
  mci_of (by decide +kernel) (Nat.le_of_ble_eq_true rfl) (fun K C hr => by
    show Sm K sysX 10 (Qi K sysX) (X4_firstWinningMove F a1 a2 a3 a4 τ) 0 [(0, .ref 213), (1, .int a1), (2, .int a2), (3, .int a3), (4, .int a4)] [] τ
    unfold X4_firstWinningMove
    refine sm_seg C [(.bipush 64, 64), (.iload_n 1, 0), (.imul, 0), (.bipush 8, 8), (.iload_n 2, 0), (.imul, 0), (.iadd, 0), (.iload_n 3, 0), (.iadd, 0), (.iload 4, 0)] (pc' := 13) (L' := [(0, .ref 213), (1, .int a1), (2, .int a2), (3, .int a3), (4, .int a4)]) (S' := [.int a4, .int (((64 * a1) + (8 * a2)) + a3)]) (by decide +kernel) rfl ?_
    refine sm_ifeq 22 (off := 9) C (by decide +kernel) (by decide) (fun _ => ?_) (fun _ => ?_)
    · refine sm_seg C [(.iconst 0, 0)] (pc' := 23) (L' := [(0, .ref 213), (1, .int a1), (2, .int a2), (3, .int a3), (4, .int a4)]) (S' := [.int 0, .int (((64 * a1) + (8 * a2)) + a3)]) (by decide +kernel) rfl ?_
      exact sm_sub [0, 1, 2, 3, 4] rfl (s_X4_firstWinningMove_j23 F C hr a1 a2 a3 a4 0 (((64 * a1) + (8 * a2)) + a3) τ)
    · refine sm_seg C [(.sipush 512, 512), (.goto 4, 0)] (pc' := 23) (L' := [(0, .ref 213), (1, .int a1), (2, .int a2), (3, .int a3), (4, .int a4)]) (S' := [.int 512, .int (((64 * a1) + (8 * a2)) + a3)]) (by decide +kernel) rfl ?_
      exact sm_sub [0, 1, 2, 3, 4] rfl (s_X4_firstWinningMove_j23 F C hr a1 a2 a3 a4 512 (((64 * a1) + (8 * a2)) + a3) τ)) h
/-! BasketEnvoys_Riddles.learnSilence -/
def X4_learnSilence_j73 (F : Nat) (self15 : Int32 → Tau → Option (Int32 × Tau)) (a1 : Int32) (z0 : Int32) (z1 : Int32) (τ : Tau) : Option (Int32 × Tau) :=
  ast τ 221 1024 z1 (vp_nar .boolean z0) fun τ4 => self15 (a1 + 1) τ4
theorem s_X4_learnSilence_j73 (F : Nat) {K : Ctx} (C : Cx K sysX RX4 cX4_learnSilence 3 3) (hr : Rt K none) (self15 : Int32 → Tau → Option (Int32 × Tau)) (ih15 : ∀ (a1 : Int32) (τ : Tau), Sm K sysX 3 (Qv K sysX) (self15 a1 τ) 15 [(0, .ref 213), (1, .int a1)] [] τ) (a1 : Int32) (z0 : Int32) (z1 : Int32) (τ : Tau) : Sm K sysX 3 (Qv K sysX) (X4_learnSilence_j73 F self15 a1 z0 z1 τ) 73 [(0, .ref 213), (1, .int a1)] [.int z0, .int z1, .ref 221] τ := by
  unfold X4_learnSilence_j73
  refine sm_astz 1024 C (ltX (krX4_9 (by decide +kernel : kdX 213 = 4)) (by decide)) (krX4_9 (by decide +kernel : kdX 213 = 4)) (nrX4_9 (by decide +kernel : kdX 213 = 4)) (by decide +kernel) (fun τ4 => ?_)
  refine sm_seg C [(.iinc 1 1, 1), (.goto (-62), 0)] (pc' := 15) (L' := [(1, .int (a1 + 1)), (0, .ref 213)]) (S' := []) (by decide +kernel) rfl ?_
  exact sm_sub [1, 0] rfl (ih15 (a1 + 1) τ4)
def X4_learnSilence_j54 (F : Nat) (self15 : Int32 → Tau → Option (Int32 × Tau)) (a1 : Int32) (z0 : Int32) (z1 : Int32) (z2 : Int32) (z3 : Int32) (τ : Tau) : Option (Int32 × Tau) :=
  cal (X4_firstWinningMove F z3 z2 z1 z0 τ) fun r2 τ3 => if r2 = (-1) then (X4_learnSilence_j73 F self15 a1 0 a1 τ3) else (X4_learnSilence_j73 F self15 a1 1 a1 τ3)
theorem s_X4_learnSilence_j54 (F : Nat) {K : Ctx} (C : Cx K sysX RX4 cX4_learnSilence 3 3) (hr : Rt K none) (self15 : Int32 → Tau → Option (Int32 × Tau)) (ih15 : ∀ (a1 : Int32) (τ : Tau), Sm K sysX 3 (Qv K sysX) (self15 a1 τ) 15 [(0, .ref 213), (1, .int a1)] [] τ) (a1 : Int32) (z0 : Int32) (z1 : Int32) (z2 : Int32) (z3 : Int32) (τ : Tau) : Sm K sysX 3 (Qv K sysX) (X4_learnSilence_j54 F self15 a1 z0 z1 z2 z3 τ) 54 [(0, .ref 213), (1, .int a1)] [.int z0, .int z1, .int z2, .int z3, .ref 213] τ := by
  unfold X4_learnSilence_j54
  refine sm_vcal [.int z3, .int z2, .int z1, .int z0] [] rfl C mw_X4_firstWinningMove ml_4_209 rfl (ci := 4) rfl (ltX (by decide +kernel : kdX 213 = 4) (by decide)) (by decide +kernel : kdX 213 = 4) (by decide) ⟨by decide, by decide⟩ (Nat.le_of_ble_eq_true rfl) (by decide +kernel) (c_X4_firstWinningMove F z3 z2 z1 z0 τ) (fun r2 τ3 => ?_)
  refine sm_seg C [(.istore_n 2, 0), (.aload_n 0, 0)] (pc' := 59) (L' := [(2, .int r2), (0, .ref 213), (1, .int a1)]) (S' := [.ref 213]) (by decide +kernel) rfl ?_
  refine sm_getR 4 9 221 cls4 C (ltX (by decide +kernel : kdX 213 = 4) (by decide)) (by decide +kernel : kdX 213 = 4) (obX4 (by decide +kernel : kdX 213 = 4)) (by decide) (frX4_9 (by decide +kernel : kdX 213 = 4)) fl4_33 (by decide +kernel) ?_
  refine sm_seg C [(.iload_n 1, 0), (.iload_n 2, 0), (.iconst (-1), (-1))] (pc' := 65) (L' := [(2, .int r2), (0, .ref 213), (1, .int a1)]) (S' := [.int (-1), .int r2, .int a1, .ref 221]) (by decide +kernel) rfl ?_
  refine sm_icmpeq 72 (off := 7) C (by decide +kernel) (by decide) (fun _ => ?_) (fun _ => ?_)
  · refine sm_seg C [(.iconst 0, 0)] (pc' := 73) (L' := [(2, .int r2), (0, .ref 213), (1, .int a1)]) (S' := [.int 0, .int a1, .ref 221]) (by decide +kernel) rfl ?_
    exact sm_sub [1, 2] rfl (s_X4_learnSilence_j73 F C hr self15 ih15 a1 0 a1 τ3)
  · refine sm_seg C [(.iconst 1, 1), (.goto 4, 0)] (pc' := 73) (L' := [(2, .int r2), (0, .ref 213), (1, .int a1)]) (S' := [.int 1, .int a1, .ref 221]) (by decide +kernel) rfl ?_
    exact sm_sub [1, 2] rfl (s_X4_learnSilence_j73 F C hr self15 ih15 a1 1 a1 τ3)
def X4_learnSilence_L15 (F : Nat) : Nat → Int32 → Tau → Option (Int32 × Tau)
  | 0, _, _ => none
  | n + 1, a1, τ =>
    if 1024 ≤ a1 then (some (0, τ)) else (if a1 < 512 then (X4_learnSilence_j54 F (X4_learnSilence_L15 F n) a1 0 (a1 &&& 7) ((shr a1 3) &&& 7) ((shr a1 6) &&& 7) τ) else (X4_learnSilence_j54 F (X4_learnSilence_L15 F n) a1 1 (a1 &&& 7) ((shr a1 3) &&& 7) ((shr a1 6) &&& 7) τ))
theorem s_X4_learnSilence_L15 (F : Nat) {K : Ctx} (C : Cx K sysX RX4 cX4_learnSilence 3 3) (hr : Rt K none) : ∀ (n : Nat) (a1 : Int32) (τ : Tau), Sm K sysX 3 (Qv K sysX) (X4_learnSilence_L15 F n a1 τ) 15 [(0, .ref 213), (1, .int a1)] [] τ := by
  intro n
  induction n with
  | zero => intro a1 τ; exact sm_none
  | succ n ih =>
    intro a1 τ
    rw [X4_learnSilence_L15]
    refine sm_seg C [(.iload_n 1, 0), (.aload_n 0, 0)] (pc' := 17) (L' := [(0, .ref 213), (1, .int a1)]) (S' := [.ref 213, .int a1]) (by decide +kernel) rfl ?_
    refine sm_getR 4 9 221 cls4 C (ltX (by decide +kernel : kdX 213 = 4) (by decide)) (by decide +kernel : kdX 213 = 4) (obX4 (by decide +kernel : kdX 213 = 4)) (by decide) (frX4_9 (by decide +kernel : kdX 213 = 4)) fl4_33 (by decide +kernel) ?_
    refine sm_alen 21 1 1024 (fun _ => rfl) C (ltX (krX4_9 (by decide +kernel : kdX 213 = 4)) (by decide)) (krX4_9 (by decide +kernel : kdX 213 = 4)) (by decide) (by decide) (nrX4_9 (by decide +kernel : kdX 213 = 4)) rfl (by decide +kernel) ?_
    refine sm_icmpge 80 (off := 59) C (by decide +kernel) (by decide) (fun _ => ?_) (fun _ => ?_)
    · exact sm_vret C hr (by decide +kernel)
    · refine sm_seg C [(.aload_n 0, 0), (.iload_n 1, 0), (.bipush 6, 6), (.ishr, 0), (.bipush 7, 7), (.iand, 0), (.iload_n 1, 0), (.iconst 3, 3), (.ishr, 0), (.bipush 7, 7), (.iand, 0), (.iload_n 1, 0), (.bipush 7, 7), (.iand, 0), (.iload_n 1, 0), (.sipush 512, 512)] (pc' := 46) (L' := [(0, .ref 213), (1, .int a1)]) (S' := [.int 512, .int a1, .int (a1 &&& 7), .int ((shr a1 3) &&& 7), .int ((shr a1 6) &&& 7), .ref 213]) (by decide +kernel) rfl ?_
      refine sm_icmplt 53 (off := 7) C (by decide +kernel) (by decide) (fun _ => ?_) (fun _ => ?_)
      · refine sm_seg C [(.iconst 0, 0)] (pc' := 54) (L' := [(0, .ref 213), (1, .int a1)]) (S' := [.int 0, .int (a1 &&& 7), .int ((shr a1 3) &&& 7), .int ((shr a1 6) &&& 7), .ref 213]) (by decide +kernel) rfl ?_
        exact sm_sub [0, 1] rfl (s_X4_learnSilence_j54 F C hr (X4_learnSilence_L15 F n) ih a1 0 (a1 &&& 7) ((shr a1 3) &&& 7) ((shr a1 6) &&& 7) τ)
      · refine sm_seg C [(.iconst 1, 1), (.goto 4, 0)] (pc' := 54) (L' := [(0, .ref 213), (1, .int a1)]) (S' := [.int 1, .int (a1 &&& 7), .int ((shr a1 3) &&& 7), .int ((shr a1 6) &&& 7), .ref 213]) (by decide +kernel) rfl ?_
        exact sm_sub [0, 1] rfl (s_X4_learnSilence_j54 F C hr (X4_learnSilence_L15 F n) ih a1 1 (a1 &&& 7) ((shr a1 3) &&& 7) ((shr a1 6) &&& 7) τ)
def X4_learnSilence (F : Nat) (τ : Tau) : Option (Int32 × Tau) :=
  if (τ 213 10) = 0 then (pst τ 213 10 1 fun τ1 => X4_learnSilence_L15 F F 0 τ1) else (some (0, τ))
set_option maxRecDepth 20000 in
set_option maxHeartbeats 4000000 in
theorem c_X4_learnSilence (F : Nat) (τ : Tau) (r : Int32) (τ' : Tau) (h : X4_learnSilence F τ = some (r, τ')) : MCv sysX yX4_learnSilence cX4_learnSilence 3 3 [.ref 213] τ τ' :=
  mcv_of (by decide +kernel) (Nat.le_of_ble_eq_true rfl) (fun K C hr => by
    show Sm K sysX 3 (Qv K sysX) (X4_learnSilence F τ) 0 [(0, .ref 213)] [] τ
    unfold X4_learnSilence
    refine sm_seg C [(.aload_n 0, 0)] (pc' := 1) (L' := [(0, .ref 213)]) (S' := [.ref 213]) (by decide +kernel) rfl ?_
    refine sm_getI 4 10 cls4 C (ltX (by decide +kernel : kdX 213 = 4) (by decide)) (by decide +kernel : kdX 213 = 4) (obX4 (by decide +kernel : kdX 213 = 4)) (by decide) (fiX4_10 (by decide +kernel : kdX 213 = 4)) fl4_37 (by decide +kernel) ?_
    refine sm_ifeq 8 (off := 4) C (by decide +kernel) (by decide) (fun _ => ?_) (fun _ => ?_)
    · refine sm_seg C [(.aload_n 0, 0), (.iconst 1, 1)] (pc' := 10) (L' := [(0, .ref 213)]) (S' := [.int 1, .ref 213]) (by decide +kernel) rfl ?_
      refine sm_pst 4 10 cls4 C (ltX (by decide +kernel : kdX 213 = 4) (by decide)) (by decide +kernel : kdX 213 = 4) (obX4 (by decide +kernel : kdX 213 = 4)) (by decide) (fiX4_10 (by decide +kernel : kdX 213 = 4)) rfl rfl rfl fl4_37 (by decide +kernel) (fun τ1 => ?_)
      refine sm_seg C [(.iconst 0, 0), (.istore_n 1, 0)] (pc' := 15) (L' := [(1, .int 0), (0, .ref 213)]) (S' := []) (by decide +kernel) rfl ?_
      exact sm_sub [1, 0] rfl (s_X4_learnSilence_L15 F C hr F 0 τ1)
    · exact sm_vret C hr (by decide +kernel)) h
/-! BasketEnvoys_Riddles.beginning -/
def X4_beginning (F : Nat) (a1 : Int32) (a2 : Int32) (a3 : Int32) (a4 : Int32) (τ : Tau) : Option (Int32 × Tau) :=
  cal (X4_learnSilence F τ) fun r1 τ2 => cal (X4_firstWinningMove F a1 a2 a3 a4 τ2) fun r3 τ4 => some (r3, τ4)
set_option maxRecDepth 20000 in
set_option maxHeartbeats 4000000 in
theorem c_X4_beginning (F : Nat) (a1 : Int32) (a2 : Int32) (a3 : Int32) (a4 : Int32) (τ : Tau) (r : Int32) (τ' : Tau) (h : X4_beginning F a1 a2 a3 a4 τ = some (r, τ')) : MCi sysX yX4_beginning cX4_beginning 5 (some .int) 4 [.ref 213, .int a1, .int a2, .int a3, .int a4] τ r τ' :=
  mci_of (by decide +kernel) (Nat.le_of_ble_eq_true rfl) (fun K C hr => by
    show Sm K sysX 5 (Qi K sysX) (X4_beginning F a1 a2 a3 a4 τ) 0 [(0, .ref 213), (1, .int a1), (2, .int a2), (3, .int a3), (4, .int a4)] [] τ
    unfold X4_beginning
    refine sm_seg C [(.aload_n 0, 0)] (pc' := 1) (L' := [(0, .ref 213), (1, .int a1), (2, .int a2), (3, .int a3), (4, .int a4)]) (S' := [.ref 213]) (by decide +kernel) rfl ?_
    refine sm_vcalv [] [] rfl C mw_X4_learnSilence ml_4_206 rfl (ci := 4) rfl (ltX (by decide +kernel : kdX 213 = 4) (by decide)) (by decide +kernel : kdX 213 = 4) (by decide) ⟨by decide, by decide⟩ (Nat.le_of_ble_eq_true rfl) (by decide +kernel) (c_X4_learnSilence F τ) (fun r1 τ2 => ?_)
    refine sm_seg C [(.aload_n 0, 0), (.iload_n 1, 0), (.iload_n 2, 0), (.iload_n 3, 0), (.iload 4, 0)] (pc' := 10) (L' := [(0, .ref 213), (1, .int a1), (2, .int a2), (3, .int a3), (4, .int a4)]) (S' := [.int a4, .int a3, .int a2, .int a1, .ref 213]) (by decide +kernel) rfl ?_
    refine sm_vcal [.int a1, .int a2, .int a3, .int a4] [] rfl C mw_X4_firstWinningMove ml_4_209 rfl (ci := 4) rfl (ltX (by decide +kernel : kdX 213 = 4) (by decide)) (by decide +kernel : kdX 213 = 4) (by decide) ⟨by decide, by decide⟩ (Nat.le_of_ble_eq_true rfl) (by decide +kernel) (c_X4_firstWinningMove F a1 a2 a3 a4 τ2) (fun r3 τ4 => ?_)
    exact sm_iret C hr rfl (by decide +kernel)) h
/-! BasketEnvoys.silence -/
def X10_silence_j35 (F : Nat) (a1 : Int32) (a2 : Int32) (a3 : Int32) (a4 : Int32) (z0 : Int32) (τ : Tau) : Option (Int32 × Tau) :=
  if z0 = 0 then (some ((-1), τ)) else (cal (X4_beginning F a1 a2 a3 a4 τ) fun r3 τ4 => some (r3, τ4))
theorem s_X10_silence_j35 (F : Nat) {K : Ctx} (C : Cx K sysX RX10 cX10_silence 6 5) (hr : Rt K (some .int)) (a1 : Int32) (a2 : Int32) (a3 : Int32) (a4 : Int32) (z0 : Int32) (τ : Tau) : Sm K sysX 6 (Qi K sysX) (X10_silence_j35 F a1 a2 a3 a4 z0 τ) 35 [(0, .ref 0), (1, .int a1), (2, .int a2), (3, .int a3), (4, .int a4)] [.int z0] τ := by
  unfold X10_silence_j35
  refine sm_seg C [(.istore 5, 0), (.iload 5, 0)] (pc' := 39) (L' := [(5, .int z0), (0, .ref 0), (1, .int a1), (2, .int a2), (3, .int a3), (4, .int a4)]) (S' := [.int z0]) (by decide +kernel) rfl ?_
  refine sm_ifeq 57 (off := 18) C (by decide +kernel) (by decide) (fun _ => ?_) (fun _ => ?_)
  · refine sm_seg C [(.iconst (-1), (-1))] (pc' := 58) (L' := [(5, .int z0), (0, .ref 0), (1, .int a1), (2, .int a2), (3, .int a3), (4, .int a4)]) (S' := [.int (-1)]) (by decide +kernel) rfl ?_
    exact sm_iret C hr rfl (by decide +kernel)
  · refine sm_seg C [(.aload_n 0, 0)] (pc' := 43) (L' := [(5, .int z0), (0, .ref 0), (1, .int a1), (2, .int a2), (3, .int a3), (4, .int a4)]) (S' := [.ref 0]) (by decide +kernel) rfl ?_
    refine sm_getR 10 7 213 cls10 C (ltX (by decide +kernel : kdX 0 = 10) (by decide)) (by decide +kernel : kdX 0 = 10) (obX10 (by decide +kernel : kdX 0 = 10)) (by decide) (frX10_7 (by decide +kernel : kdX 0 = 10)) fl10_56 (by decide +kernel) ?_
    refine sm_seg C [(.iload_n 1, 0), (.iload_n 2, 0), (.iload_n 3, 0), (.iload 4, 0)] (pc' := 51) (L' := [(5, .int z0), (0, .ref 0), (1, .int a1), (2, .int a2), (3, .int a3), (4, .int a4)]) (S' := [.int a4, .int a3, .int a2, .int a1, .ref 213]) (by decide +kernel) rfl ?_
    refine sm_vcal [.int a1, .int a2, .int a3, .int a4] [] rfl C mw_X4_beginning ml_10_399 rfl (ci := 4) rfl (ltX (krX10_7 (by decide +kernel : kdX 0 = 10)) (by decide)) (krX10_7 (by decide +kernel : kdX 0 = 10)) (by decide) ⟨by decide, by decide⟩ (Nat.le_of_ble_eq_true rfl) (by decide +kernel) (c_X4_beginning F a1 a2 a3 a4 τ) (fun r3 τ4 => ?_)
    refine sm_seg C [(.goto 4, 0)] (pc' := 58) (L' := [(5, .int z0), (0, .ref 0), (1, .int a1), (2, .int a2), (3, .int a3), (4, .int a4)]) (S' := [.int r3]) (by decide +kernel) rfl ?_
    exact sm_iret C hr rfl (by decide +kernel)
def X10_silence_j34 (F : Nat) (a1 : Int32) (a2 : Int32) (a3 : Int32) (a4 : Int32) (τ : Tau) : Option (Int32 × Tau) :=
  X10_silence_j35 F a1 a2 a3 a4 0 τ
theorem s_X10_silence_j34 (F : Nat) {K : Ctx} (C : Cx K sysX RX10 cX10_silence 6 5) (hr : Rt K (some .int)) (a1 : Int32) (a2 : Int32) (a3 : Int32) (a4 : Int32) (τ : Tau) : Sm K sysX 6 (Qi K sysX) (X10_silence_j34 F a1 a2 a3 a4 τ) 34 [(0, .ref 0), (1, .int a1), (2, .int a2), (3, .int a3), (4, .int a4)] [] τ := by
  unfold X10_silence_j34
  refine sm_seg C [(.iconst 0, 0)] (pc' := 35) (L' := [(0, .ref 0), (1, .int a1), (2, .int a2), (3, .int a3), (4, .int a4)]) (S' := [.int 0]) (by decide +kernel) rfl ?_
  exact sm_sub [0, 1, 2, 3, 4] rfl (s_X10_silence_j35 F C hr a1 a2 a3 a4 0 τ)
def X10_silence (F : Nat) (a1 : Int32) (a2 : Int32) (a3 : Int32) (a4 : Int32) (τ : Tau) : Option (Int32 × Tau) :=
  cal (X10_within F a1 0 7 τ) fun r1 τ2 => if r1 = 0 then (X10_silence_j34 F a1 a2 a3 a4 τ2) else (cal (X10_within F a2 0 7 τ2) fun r5 τ6 => if r5 = 0 then (X10_silence_j34 F a1 a2 a3 a4 τ6) else (cal (X10_within F a3 0 7 τ6) fun r7 τ8 => if r7 = 0 then (X10_silence_j34 F a1 a2 a3 a4 τ8) else (X10_silence_j35 F a1 a2 a3 a4 1 τ8)))
set_option maxRecDepth 20000 in
set_option maxHeartbeats 4000000 in
theorem c_X10_silence (F : Nat) (a1 : Int32) (a2 : Int32) (a3 : Int32) (a4 : Int32) (τ : Tau) (r : Int32) (τ' : Tau) (h : X10_silence F a1 a2 a3 a4 τ = some (r, τ')) : MCi sysX yX10_silence cX10_silence 6 (some .int) 5 [.ref 0, .int a1, .int a2, .int a3, .int a4] τ r τ' :=
  mci_of (by decide +kernel) (Nat.le_of_ble_eq_true rfl) (fun K C hr => by
    show Sm K sysX 6 (Qi K sysX) (X10_silence F a1 a2 a3 a4 τ) 0 [(0, .ref 0), (1, .int a1), (2, .int a2), (3, .int a3), (4, .int a4)] [] τ
    unfold X10_silence
    refine sm_seg C [(.iload_n 1, 0), (.iconst 0, 0), (.bipush 7, 7)] (pc' := 4) (L' := [(0, .ref 0), (1, .int a1), (2, .int a2), (3, .int a3), (4, .int a4)]) (S' := [.int 7, .int 0, .int a1]) (by decide +kernel) rfl ?_
    refine sm_scal [.int a1, .int 0, .int 7] [] rfl C mw_X10_within ml_10_70 rfl ⟨by decide, by decide⟩ (Nat.le_of_ble_eq_true rfl) (by decide +kernel) (c_X10_within F a1 0 7 τ) (fun r1 τ2 => ?_)
    refine sm_ifeq 34 (off := 27) C (by decide +kernel) (by decide) (fun _ => ?_) (fun _ => ?_)
    · exact sm_sub [0, 1, 2, 3, 4] rfl (s_X10_silence_j34 F C hr a1 a2 a3 a4 τ2)
    · refine sm_seg C [(.iload_n 2, 0), (.iconst 0, 0), (.bipush 7, 7)] (pc' := 14) (L' := [(0, .ref 0), (1, .int a1), (2, .int a2), (3, .int a3), (4, .int a4)]) (S' := [.int 7, .int 0, .int a2]) (by decide +kernel) rfl ?_
      refine sm_scal [.int a2, .int 0, .int 7] [] rfl C mw_X10_within ml_10_70 rfl ⟨by decide, by decide⟩ (Nat.le_of_ble_eq_true rfl) (by decide +kernel) (c_X10_within F a2 0 7 τ2) (fun r5 τ6 => ?_)
      refine sm_ifeq 34 (off := 17) C (by decide +kernel) (by decide) (fun _ => ?_) (fun _ => ?_)
      · exact sm_sub [0, 1, 2, 3, 4] rfl (s_X10_silence_j34 F C hr a1 a2 a3 a4 τ6)
      · refine sm_seg C [(.iload_n 3, 0), (.iconst 0, 0), (.bipush 7, 7)] (pc' := 24) (L' := [(0, .ref 0), (1, .int a1), (2, .int a2), (3, .int a3), (4, .int a4)]) (S' := [.int 7, .int 0, .int a3]) (by decide +kernel) rfl ?_
        refine sm_scal [.int a3, .int 0, .int 7] [] rfl C mw_X10_within ml_10_70 rfl ⟨by decide, by decide⟩ (Nat.le_of_ble_eq_true rfl) (by decide +kernel) (c_X10_within F a3 0 7 τ6) (fun r7 τ8 => ?_)
        refine sm_ifeq 34 (off := 7) C (by decide +kernel) (by decide) (fun _ => ?_) (fun _ => ?_)
        · exact sm_sub [0, 1, 2, 3, 4] rfl (s_X10_silence_j34 F C hr a1 a2 a3 a4 τ8)
        · refine sm_seg C [(.iconst 1, 1), (.goto 4, 0)] (pc' := 35) (L' := [(0, .ref 0), (1, .int a1), (2, .int a2), (3, .int a3), (4, .int a4)]) (S' := [.int 1]) (by decide +kernel) rfl ?_
          exact sm_sub [0, 1, 2, 3, 4] rfl (s_X10_silence_j35 F C hr a1 a2 a3 a4 1 τ8)) h
/-! BasketEnvoys_Riddles.standChance -/
def X4_standChance_j35 (F : Nat) (self13 : Int32 → Int32 → Int32 → Int32 → Tau → Option (Int32 × Tau)) (a1 : Int32) (a2 : Int32) (a4 : Int32) (z0 : Int32) (z1 : Int32) (τ : Tau) : Option (Int32 × Tau) :=
  self13 a1 a2 (z1 + z0) (a4 + 1) τ
theorem s_X4_standChance_j35 (F : Nat) {K : Ctx} (C : Cx K sysX RX4 cX4_standChance 5 1) (hr : Rt K (some .int)) (self13 : Int32 → Int32 → Int32 → Int32 → Tau → Option (Int32 × Tau)) (ih13 : ∀ (a1 : Int32) (a2 : Int32) (a3 : Int32) (a4 : Int32) (τ : Tau), Sm K sysX 5 (Qi K sysX) (self13 a1 a2 a3 a4 τ) 13 [(1, .int a1), (2, .int a2), (3, .int a3), (4, .int a4)] [] τ) (a1 : Int32) (a2 : Int32) (a4 : Int32) (z0 : Int32) (z1 : Int32) (τ : Tau) : Sm K sysX 5 (Qi K sysX) (X4_standChance_j35 F self13 a1 a2 a4 z0 z1 τ) 35 [(1, .int a1), (2, .int a2), (4, .int a4)] [.int z0, .int z1] τ := by
  unfold X4_standChance_j35
  refine sm_seg C [(.iadd, 0), (.istore_n 3, 0), (.iinc 4 1, 1), (.goto (-27), 0)] (pc' := 13) (L' := [(4, .int (a4 + 1)), (3, .int (z1 + z0)), (1, .int a1), (2, .int a2)]) (S' := []) (by decide +kernel) rfl ?_
  exact sm_sub [2, 3, 1, 0] rfl (ih13 a1 a2 (z1 + z0) (a4 + 1) τ)
def X4_standChance_L13 (F : Nat) : Nat → Int32 → Int32 → Int32 → Int32 → Tau → Option (Int32 × Tau)
  | 0, _, _, _, _, _ => none
  | n + 1, a1, a2, a3, a4, τ =>
    if a2 ≤ a4 then (some ((a1 * a3), τ)) else (if a4 ≤ 0 then (X4_standChance_j35 F (X4_standChance_L13 F n) a1 a2 a4 0 a3 τ) else (if a4 = 0 then none else (X4_standChance_j35 F (X4_standChance_L13 F n) a1 a2 a4 (27720 / a4) a3 τ)))
theorem s_X4_standChance_L13 (F : Nat) {K : Ctx} (C : Cx K sysX RX4 cX4_standChance 5 1) (hr : Rt K (some .int)) : ∀ (n : Nat) (a1 : Int32) (a2 : Int32) (a3 : Int32) (a4 : Int32) (τ : Tau), Sm K sysX 5 (Qi K sysX) (X4_standChance_L13 F n a1 a2 a3 a4 τ) 13 [(1, .int a1), (2, .int a2), (3, .int a3), (4, .int a4)] [] τ := by
  intro n
  induction n with
  | zero => intro a1 a2 a3 a4 τ; exact sm_none
  | succ n ih =>
    intro a1 a2 a3 a4 τ
    rw [X4_standChance_L13]
    refine sm_seg C [(.iload 4, 0), (.iload_n 2, 0)] (pc' := 16) (L' := [(1, .int a1), (2, .int a2), (3, .int a3), (4, .int a4)]) (S' := [.int a2, .int a4]) (by decide +kernel) rfl ?_
    refine sm_icmpge 43 (off := 27) C (by decide +kernel) (by decide) (fun _ => ?_) (fun _ => ?_)
    · refine sm_seg C [(.iload_n 1, 0), (.iload_n 3, 0), (.imul, 0)] (pc' := 46) (L' := [(1, .int a1), (2, .int a2), (3, .int a3), (4, .int a4)]) (S' := [.int (a1 * a3)]) (by decide +kernel) rfl ?_
      exact sm_iret C hr rfl (by decide +kernel)
    · refine sm_seg C [(.iload_n 3, 0), (.iload 4, 0)] (pc' := 22) (L' := [(1, .int a1), (2, .int a2), (3, .int a3), (4, .int a4)]) (S' := [.int a4, .int a3]) (by decide +kernel) rfl ?_
      refine sm_ifle 34 (off := 12) C (by decide +kernel) (by decide) (fun _ => ?_) (fun _ => ?_)
      · refine sm_seg C [(.iconst 0, 0)] (pc' := 35) (L' := [(1, .int a1), (2, .int a2), (3, .int a3), (4, .int a4)]) (S' := [.int 0, .int a3]) (by decide +kernel) rfl ?_
        exact sm_sub [0, 1, 3] rfl (s_X4_standChance_j35 F C hr (X4_standChance_L13 F n) ih a1 a2 a4 0 a3 τ)
      · refine sm_seg C [(.sipush 27720, 27720), (.iload 4, 0)] (pc' := 30) (L' := [(1, .int a1), (2, .int a2), (3, .int a3), (4, .int a4)]) (S' := [.int a4, .int 27720, .int a3]) (by decide +kernel) rfl ?_
        refine sm_ite (fun _ => sm_none) (fun hz => ?_)
        refine sm_idiv C (by decide +kernel) hz ?_
        refine sm_seg C [(.goto 4, 0)] (pc' := 35) (L' := [(1, .int a1), (2, .int a2), (3, .int a3), (4, .int a4)]) (S' := [.int (27720 / a4), .int a3]) (by decide +kernel) rfl ?_
        exact sm_sub [0, 1, 3] rfl (s_X4_standChance_j35 F C hr (X4_standChance_L13 F n) ih a1 a2 a4 (27720 / a4) a3 τ)
def X4_standChance (F : Nat) (a1 : Int32) (a2 : Int32) (τ : Tau) : Option (Int32 × Tau) :=
  if a1 = 0 then (some (27720, τ)) else (X4_standChance_L13 F F a1 a2 0 a1 τ)
set_option maxRecDepth 20000 in
set_option maxHeartbeats 4000000 in
theorem c_X4_standChance (F : Nat) (a1 : Int32) (a2 : Int32) (τ : Tau) (r : Int32) (τ' : Tau) (h : X4_standChance F a1 a2 τ = some (r, τ')) : MCi sysX yX4_standChance cX4_standChance 5 (some .int) 1 [.ref 213, .int a1, .int a2] τ r τ' :=
  mci_of (by decide +kernel) (Nat.le_of_ble_eq_true rfl) (fun K C hr => by
    show Sm K sysX 5 (Qi K sysX) (X4_standChance F a1 a2 τ) 0 [(0, .ref 213), (1, .int a1), (2, .int a2)] [] τ
    unfold X4_standChance
    refine sm_seg C [(.iload_n 1, 0)] (pc' := 1) (L' := [(0, .ref 213), (1, .int a1), (2, .int a2)]) (S' := [.int a1]) (by decide +kernel) rfl ?_
    refine sm_ifne 8 (off := 7) C (by decide +kernel) (by decide) (fun _ => ?_) (fun _ => ?_)
    · refine sm_seg C [(.sipush 27720, 27720)] (pc' := 7) (L' := [(0, .ref 213), (1, .int a1), (2, .int a2)]) (S' := [.int 27720]) (by decide +kernel) rfl ?_
      exact sm_iret C hr rfl (by decide +kernel)
    · refine sm_seg C [(.iconst 0, 0), (.istore_n 3, 0), (.iload_n 1, 0), (.istore 4, 0)] (pc' := 13) (L' := [(4, .int a1), (3, .int 0), (0, .ref 213), (1, .int a1), (2, .int a2)]) (S' := []) (by decide +kernel) rfl ?_
      exact sm_sub [3, 4, 1, 0] rfl (s_X4_standChance_L13 F C hr F a1 a2 0 a1 τ)) h
/-! BasketEnvoys_Riddles.bestStand -/
def X4_bestStand_j26 (F : Nat) (self4 : Int32 → Int32 → Int32 → Tau → Option (Int32 × Tau)) (a1 : Int32) (a2 : Int32) (a3 : Int32) (τ : Tau) : Option (Int32 × Tau) :=
  self4 a1 a2 (a3 + 1) τ
theorem s_X4_bestStand_j26 (F : Nat) {K : Ctx} (C : Cx K sysX RX4 cX4_bestStand 4 2) (hr : Rt K (some .int)) (self4 : Int32 → Int32 → Int32 → Tau → Option (Int32 × Tau)) (ih4 : ∀ (a1 : Int32) (a2 : Int32) (a3 : Int32) (τ : Tau), Sm K sysX 4 (Qi K sysX) (self4 a1 a2 a3 τ) 4 [(0, .ref 213), (1, .int a1), (2, .int a2), (3, .int a3)] [] τ) (a1 : Int32) (a2 : Int32) (a3 : Int32) (τ : Tau) : Sm K sysX 4 (Qi K sysX) (X4_bestStand_j26 F self4 a1 a2 a3 τ) 26 [(0, .ref 213), (1, .int a1), (2, .int a2), (3, .int a3)] [] τ := by
  unfold X4_bestStand_j26
  refine sm_seg C [(.iinc 3 1, 1), (.goto (-25), 0)] (pc' := 4) (L' := [(3, .int (a3 + 1)), (0, .ref 213), (1, .int a1), (2, .int a2)]) (S' := []) (by decide +kernel) rfl ?_
  exact sm_sub [1, 2, 3, 0] rfl (ih4 a1 a2 (a3 + 1) τ)
def X4_bestStand_L4 (F : Nat) : Nat → Int32 → Int32 → Int32 → Tau → Option (Int32 × Tau)
  | 0, _, _, _, _ => none
  | n + 1, a1, a2, a3, τ =>
    if a1 ≤ a3 then (some (a2, τ)) else (cal (X4_standChance F a3 a1 τ) fun r1 τ2 => cal (X4_standChance F a2 a1 τ2) fun r3 τ4 => if r1 ≤ r3 then (X4_bestStand_j26 F (X4_bestStand_L4 F n) a1 a2 a3 τ4) else (X4_bestStand_j26 F (X4_bestStand_L4 F n) a1 a3 a3 τ4))
theorem s_X4_bestStand_L4 (F : Nat) {K : Ctx} (C : Cx K sysX RX4 cX4_bestStand 4 2) (hr : Rt K (some .int)) : ∀ (n : Nat) (a1 : Int32) (a2 : Int32) (a3 : Int32) (τ : Tau), Sm K sysX 4 (Qi K sysX) (X4_bestStand_L4 F n a1 a2 a3 τ) 4 [(0, .ref 213), (1, .int a1), (2, .int a2), (3, .int a3)] [] τ := by
  intro n
  induction n with
  | zero => intro a1 a2 a3 τ; exact sm_none
  | succ n ih =>
    intro a1 a2 a3 τ
    rw [X4_bestStand_L4]
    refine sm_seg C [(.iload_n 3, 0), (.iload_n 1, 0)] (pc' := 6) (L' := [(0, .ref 213), (1, .int a1), (2, .int a2), (3, .int a3)]) (S' := [.int a1, .int a3]) (by decide +kernel) rfl ?_
    refine sm_icmpge 32 (off := 26) C (by decide +kernel) (by decide) (fun _ => ?_) (fun _ => ?_)
    · refine sm_seg C [(.iload_n 2, 0)] (pc' := 33) (L' := [(0, .ref 213), (1, .int a1), (2, .int a2), (3, .int a3)]) (S' := [.int a2]) (by decide +kernel) rfl ?_
      exact sm_iret C hr rfl (by decide +kernel)
    · refine sm_seg C [(.aload_n 0, 0), (.iload_n 3, 0), (.iload_n 1, 0)] (pc' := 12) (L' := [(0, .ref 213), (1, .int a1), (2, .int a2), (3, .int a3)]) (S' := [.int a1, .int a3, .ref 213]) (by decide +kernel) rfl ?_
      refine sm_vcal [.int a3, .int a1] [] rfl C mw_X4_standChance ml_4_130 rfl (ci := 4) rfl (ltX (by decide +kernel : kdX 213 = 4) (by decide)) (by decide +kernel : kdX 213 = 4) (by decide) ⟨by decide, by decide⟩ (Nat.le_of_ble_eq_true rfl) (by decide +kernel) (c_X4_standChance F a3 a1 τ) (fun r1 τ2 => ?_)
      refine sm_seg C [(.aload_n 0, 0), (.iload_n 2, 0), (.iload_n 1, 0)] (pc' := 18) (L' := [(0, .ref 213), (1, .int a1), (2, .int a2), (3, .int a3)]) (S' := [.int a1, .int a2, .ref 213, .int r1]) (by decide +kernel) rfl ?_
      refine sm_vcal [.int a2, .int a1] [.int r1] rfl C mw_X4_standChance ml_4_130 rfl (ci := 4) rfl (ltX (by decide +kernel : kdX 213 = 4) (by decide)) (by decide +kernel : kdX 213 = 4) (by decide) ⟨by decide, by decide⟩ (Nat.le_of_ble_eq_true rfl) (by decide +kernel) (c_X4_standChance F a2 a1 τ2) (fun r3 τ4 => ?_)
      refine sm_icmple 26 (off := 5) C (by decide +kernel) (by decide) (fun _ => ?_) (fun _ => ?_)
      · exact sm_sub [0, 1, 2, 3] rfl (s_X4_bestStand_j26 F C hr (X4_bestStand_L4 F n) ih a1 a2 a3 τ4)
      · refine sm_seg C [(.iload_n 3, 0), (.istore_n 2, 0)] (pc' := 26) (L' := [(2, .int a3), (0, .ref 213), (1, .int a1), (3, .int a3)]) (S' := []) (by decide +kernel) rfl ?_
        exact sm_sub [1, 2, 0, 3] rfl (s_X4_bestStand_j26 F C hr (X4_bestStand_L4 F n) ih a1 a3 a3 τ4)
def X4_bestStand (F : Nat) (a1 : Int32) (τ : Tau) : Option (Int32 × Tau) :=
  X4_bestStand_L4 F F a1 0 1 τ
set_option maxRecDepth 20000 in
set_option maxHeartbeats 4000000 in
theorem c_X4_bestStand (F : Nat) (a1 : Int32) (τ : Tau) (r : Int32) (τ' : Tau) (h : X4_bestStand F a1 τ = some (r, τ')) : MCi sysX yX4_bestStand cX4_bestStand 4 (some .int) 2 [.ref 213, .int a1] τ r τ' :=
  mci_of (by decide +kernel) (Nat.le_of_ble_eq_true rfl) (fun K C hr => by
    show Sm K sysX 4 (Qi K sysX) (X4_bestStand F a1 τ) 0 [(0, .ref 213), (1, .int a1)] [] τ
    unfold X4_bestStand
    refine sm_seg C [(.iconst 0, 0), (.istore_n 2, 0), (.iconst 1, 1), (.istore_n 3, 0)] (pc' := 4) (L' := [(3, .int 1), (2, .int 0), (0, .ref 213), (1, .int a1)]) (S' := []) (by decide +kernel) rfl ?_
    exact sm_sub [2, 3, 1, 0] rfl (s_X4_bestStand_L4 F C hr F a1 0 1 τ)) h
/-! BasketEnvoys_Riddles.commonPart -/
def X4_commonPart_L8 (F : Nat) : Nat → Int32 → Int32 → Int32 → Tau → Option (Int32 × Tau)
  | 0, _, _, _, _ => none
  | n + 1, a3, a4, a5, τ =>
    if 100 ≤ a5 then (some (a3, τ)) else (if a4 ≤ 0 then (some (a3, τ)) else (if a4 = 0 then none else (X4_commonPart_L8 F n a4 (rmd a3 a4) (a5 + 1) τ)))
theorem s_X4_commonPart_L8 (F : Nat) {K : Ctx} (C : Cx K sysX RX4 cX4_commonPart 7 1) (hr : Rt K (some .int)) : ∀ (n : Nat) (a3 : Int32) (a4 : Int32) (a5 : Int32) (τ : Tau), Sm K sysX 7 (Qi K sysX) (X4_commonPart_L8 F n a3 a4 a5 τ) 8 [(3, .int a3), (4, .int a4), (5, .int a5)] [] τ := by
  intro n
  induction n with
  | zero => intro a3 a4 a5 τ; exact sm_none
  | succ n ih =>
    intro a3 a4 a5 τ
    rw [X4_commonPart_L8]
    refine sm_seg C [(.iload 5, 0), (.bipush 100, 100)] (pc' := 12) (L' := [(3, .int a3), (4, .int a4), (5, .int a5)]) (S' := [.int 100, .int a5]) (by decide +kernel) rfl ?_
    refine sm_icmpge 39 (off := 27) C (by decide +kernel) (by decide) (fun _ => ?_) (fun _ => ?_)
    · refine sm_seg C [(.iload_n 3, 0)] (pc' := 40) (L' := [(3, .int a3), (4, .int a4), (5, .int a5)]) (S' := [.int a3]) (by decide +kernel) rfl ?_
      exact sm_iret C hr rfl (by decide +kernel)
    · refine sm_seg C [(.iload 4, 0)] (pc' := 17) (L' := [(3, .int a3), (4, .int a4), (5, .int a5)]) (S' := [.int a4]) (by decide +kernel) rfl ?_
      refine sm_ifle 39 (off := 22) C (by decide +kernel) (by decide) (fun _ => ?_) (fun _ => ?_)
      · refine sm_seg C [(.iload_n 3, 0)] (pc' := 40) (L' := [(3, .int a3), (4, .int a4), (5, .int a5)]) (S' := [.int a3]) (by decide +kernel) rfl ?_
        exact sm_iret C hr rfl (by decide +kernel)
      · refine sm_seg C [(.iload_n 3, 0), (.iload 4, 0)] (pc' := 23) (L' := [(3, .int a3), (4, .int a4), (5, .int a5)]) (S' := [.int a4, .int a3]) (by decide +kernel) rfl ?_
        refine sm_ite (fun _ => sm_none) (fun hz => ?_)
        refine sm_irem C (by decide +kernel) hz ?_
        refine sm_seg C [(.istore 6, 0), (.iload 4, 0), (.istore_n 3, 0), (.iload 6, 0), (.istore 4, 0), (.iinc 5 1, 1), (.goto (-28), 0)] (pc' := 8) (L' := [(5, .int (a5 + 1)), (4, .int (rmd a3 a4)), (3, .int a4), (6, .int (rmd a3 a4))]) (S' := []) (by decide +kernel) rfl ?_
        exact sm_sub [2, 1, 0] rfl (ih a4 (rmd a3 a4) (a5 + 1) τ)
def X4_commonPart (F : Nat) (a1 : Int32) (a2 : Int32) (τ : Tau) : Option (Int32 × Tau) :=
  X4_commonPart_L8 F F a1 a2 0 τ
set_option maxRecDepth 20000 in
set_option maxHeartbeats 4000000 in
theorem c_X4_commonPart (F : Nat) (a1 : Int32) (a2 : Int32) (τ : Tau) (r : Int32) (τ' : Tau) (h : X4_commonPart F a1 a2 τ = some (r, τ')) : MCi sysX yX4_commonPart cX4_commonPart 7 (some .int) 1 [.ref 213, .int a1, .int a2] τ r τ' :=
  mci_of (by decide +kernel) (Nat.le_of_ble_eq_true rfl) (fun K C hr => by
    show Sm K sysX 7 (Qi K sysX) (X4_commonPart F a1 a2 τ) 0 [(0, .ref 213), (1, .int a1), (2, .int a2)] [] τ
    unfold X4_commonPart
    refine sm_seg C [(.iload_n 1, 0), (.istore_n 3, 0), (.iload_n 2, 0), (.istore 4, 0), (.iconst 0, 0), (.istore 5, 0)] (pc' := 8) (L' := [(5, .int 0), (4, .int a2), (3, .int a1), (0, .ref 213), (1, .int a1), (2, .int a2)]) (S' := []) (by decide +kernel) rfl ?_
    exact sm_sub [2, 1, 0] rfl (s_X4_commonPart_L8 F C hr F a1 a2 0 τ)) h
/-! BasketEnvoys.stand -/
def X10_stand_j90 (F : Nat) (a6 : Int32) (z0 : Int32) (τ : Tau) : Option (Int32 × Tau) :=
  if (imax 1 a6) = 0 then none else (some ((z0 / (imax 1 a6)), τ))
theorem s_X10_stand_j90 (F : Nat) {K : Ctx} (C : Cx K sysX RX10 cX10_stand 7 3) (hr : Rt K (some .int)) (a6 : Int32) (z0 : Int32) (τ : Tau) : Sm K sysX 7 (Qi K sysX) (X10_stand_j90 F a6 z0 τ) 90 [(6, .int a6)] [.int z0] τ := by
  unfold X10_stand_j90
  refine sm_seg C [(.iconst 1, 1), (.iload 6, 0)] (pc' := 93) (L' := [(6, .int a6)]) (S' := [.int a6, .int 1, .int z0]) (by decide +kernel) rfl ?_
  refine sm_max C (by decide) ml_10_316 jw_maxs jw_math jw_maxc (Nat.le_of_ble_eq_true rfl) (by decide +kernel) ?_
  refine sm_ite (fun _ => sm_none) (fun hz => ?_)
  refine sm_idiv C (by decide +kernel) hz ?_
  exact sm_iret C hr rfl (by decide +kernel)
def X10_stand (F : Nat) (a1 : Int32) (a2 : Int32) (a3 : Int32) (τ : Tau) : Option (Int32 × Tau) :=
  cal (X10_within F a1 1 12 τ) fun r1 τ2 => if r1 = 0 then (some ((-1), τ2)) else (cal (X10_within F a3 0 2 τ2) fun r3 τ4 => if r3 = 0 then (some ((-1), τ4)) else (if a3 = 2 then (cal (X4_bestStand F a1 τ4) fun r5 τ6 => some (r5, τ6)) else (cal (X10_within F a2 0 (a1 - 1) τ4) fun r7 τ8 => if r7 = 0 then (some ((-1), τ8)) else (cal (X4_standChance F a2 a1 τ8) fun r9 τ10 => cal (X4_commonPart F r9 (a1 * 27720) τ10) fun r11 τ12 => if a3 = 0 then (X10_stand_j90 F r11 r9 τ12) else (X10_stand_j90 F r11 (a1 * 27720) τ12)))))
set_option maxRecDepth 20000 in
set_option maxHeartbeats 4000000 in
theorem c_X10_stand (F : Nat) (a1 : Int32) (a2 : Int32) (a3 : Int32) (τ : Tau) (r : Int32) (τ' : Tau) (h : X10_stand F a1 a2 a3 τ = some (r, τ')) : MCi sysX yX10_stand cX10_stand 7 (some .int) 3 [.ref 0, .int a1, .int a2, .int a3] τ r τ' :=
  mci_of (by decide +kernel) (Nat.le_of_ble_eq_true rfl) (fun K C hr => by
    show Sm K sysX 7 (Qi K sysX) (X10_stand F a1 a2 a3 τ) 0 [(0, .ref 0), (1, .int a1), (2, .int a2), (3, .int a3)] [] τ
    unfold X10_stand
    refine sm_seg C [(.iload_n 1, 0), (.iconst 1, 1), (.bipush 12, 12)] (pc' := 4) (L' := [(0, .ref 0), (1, .int a1), (2, .int a2), (3, .int a3)]) (S' := [.int 12, .int 1, .int a1]) (by decide +kernel) rfl ?_
    refine sm_scal [.int a1, .int 1, .int 12] [] rfl C mw_X10_within ml_10_70 rfl ⟨by decide, by decide⟩ (Nat.le_of_ble_eq_true rfl) (by decide +kernel) (c_X10_within F a1 1 12 τ) (fun r1 τ2 => ?_)
    refine sm_ifeq 19 (off := 12) C (by decide +kernel) (by decide) (fun _ => ?_) (fun _ => ?_)
    · refine sm_seg C [(.iconst (-1), (-1))] (pc' := 20) (L' := [(0, .ref 0), (1, .int a1), (2, .int a2), (3, .int a3)]) (S' := [.int (-1)]) (by decide +kernel) rfl ?_
      exact sm_iret C hr rfl (by decide +kernel)
    · refine sm_seg C [(.iload_n 3, 0), (.iconst 0, 0), (.iconst 2, 2)] (pc' := 13) (L' := [(0, .ref 0), (1, .int a1), (2, .int a2), (3, .int a3)]) (S' := [.int 2, .int 0, .int a3]) (by decide +kernel) rfl ?_
      refine sm_scal [.int a3, .int 0, .int 2] [] rfl C mw_X10_within ml_10_70 rfl ⟨by decide, by decide⟩ (Nat.le_of_ble_eq_true rfl) (by decide +kernel) (c_X10_within F a3 0 2 τ2) (fun r3 τ4 => ?_)
      refine sm_ifne 21 (off := 5) C (by decide +kernel) (by decide) (fun _ => ?_) (fun _ => ?_)
      · refine sm_seg C [(.iconst (-1), (-1))] (pc' := 20) (L' := [(0, .ref 0), (1, .int a1), (2, .int a2), (3, .int a3)]) (S' := [.int (-1)]) (by decide +kernel) rfl ?_
        exact sm_iret C hr rfl (by decide +kernel)
      · refine sm_seg C [(.iload_n 3, 0), (.iconst 2, 2)] (pc' := 23) (L' := [(0, .ref 0), (1, .int a1), (2, .int a2), (3, .int a3)]) (S' := [.int 2, .int a3]) (by decide +kernel) rfl ?_
        refine sm_icmpne 35 (off := 12) C (by decide +kernel) (by decide) (fun _ => ?_) (fun _ => ?_)
        · refine sm_seg C [(.aload_n 0, 0)] (pc' := 27) (L' := [(0, .ref 0), (1, .int a1), (2, .int a2), (3, .int a3)]) (S' := [.ref 0]) (by decide +kernel) rfl ?_
          refine sm_getR 10 7 213 cls10 C (ltX (by decide +kernel : kdX 0 = 10) (by decide)) (by decide +kernel : kdX 0 = 10) (obX10 (by decide +kernel : kdX 0 = 10)) (by decide) (frX10_7 (by decide +kernel : kdX 0 = 10)) fl10_56 (by decide +kernel) ?_
          refine sm_seg C [(.iload_n 1, 0)] (pc' := 31) (L' := [(0, .ref 0), (1, .int a1), (2, .int a2), (3, .int a3)]) (S' := [.int a1, .ref 213]) (by decide +kernel) rfl ?_
          refine sm_vcal [.int a1] [] rfl C mw_X4_bestStand ml_10_307 rfl (ci := 4) rfl (ltX (krX10_7 (by decide +kernel : kdX 0 = 10)) (by decide)) (krX10_7 (by decide +kernel : kdX 0 = 10)) (by decide) ⟨by decide, by decide⟩ (Nat.le_of_ble_eq_true rfl) (by decide +kernel) (c_X4_bestStand F a1 τ4) (fun r5 τ6 => ?_)
          exact sm_iret C hr rfl (by decide +kernel)
        · refine sm_seg C [(.iload_n 2, 0), (.iconst 0, 0), (.iload_n 1, 0), (.iconst 1, 1), (.isub, 0)] (pc' := 40) (L' := [(0, .ref 0), (1, .int a1), (2, .int a2), (3, .int a3)]) (S' := [.int (a1 - 1), .int 0, .int a2]) (by decide +kernel) rfl ?_
          refine sm_scal [.int a2, .int 0, .int (a1 - 1)] [] rfl C mw_X10_within ml_10_70 rfl ⟨by decide, by decide⟩ (Nat.le_of_ble_eq_true rfl) (by decide +kernel) (c_X10_within F a2 0 (a1 - 1) τ4) (fun r7 τ8 => ?_)
          refine sm_ifne 48 (off := 5) C (by decide +kernel) (by decide) (fun _ => ?_) (fun _ => ?_)
          · refine sm_seg C [(.iconst (-1), (-1))] (pc' := 47) (L' := [(0, .ref 0), (1, .int a1), (2, .int a2), (3, .int a3)]) (S' := [.int (-1)]) (by decide +kernel) rfl ?_
            exact sm_iret C hr rfl (by decide +kernel)
          · refine sm_seg C [(.aload_n 0, 0)] (pc' := 49) (L' := [(0, .ref 0), (1, .int a1), (2, .int a2), (3, .int a3)]) (S' := [.ref 0]) (by decide +kernel) rfl ?_
            refine sm_getR 10 7 213 cls10 C (ltX (by decide +kernel : kdX 0 = 10) (by decide)) (by decide +kernel : kdX 0 = 10) (obX10 (by decide +kernel : kdX 0 = 10)) (by decide) (frX10_7 (by decide +kernel : kdX 0 = 10)) fl10_56 (by decide +kernel) ?_
            refine sm_seg C [(.iload_n 2, 0), (.iload_n 1, 0)] (pc' := 54) (L' := [(0, .ref 0), (1, .int a1), (2, .int a2), (3, .int a3)]) (S' := [.int a1, .int a2, .ref 213]) (by decide +kernel) rfl ?_
            refine sm_vcal [.int a2, .int a1] [] rfl C mw_X4_standChance ml_10_310 rfl (ci := 4) rfl (ltX (krX10_7 (by decide +kernel : kdX 0 = 10)) (by decide)) (krX10_7 (by decide +kernel : kdX 0 = 10)) (by decide) ⟨by decide, by decide⟩ (Nat.le_of_ble_eq_true rfl) (by decide +kernel) (c_X4_standChance F a2 a1 τ8) (fun r9 τ10 => ?_)
            refine sm_seg C [(.istore 4, 0), (.iload_n 1, 0), (.sipush 27720, 27720), (.imul, 0), (.istore 5, 0), (.aload_n 0, 0)] (pc' := 67) (L' := [(5, .int (a1 * 27720)), (4, .int r9), (0, .ref 0), (1, .int a1), (2, .int a2), (3, .int a3)]) (S' := [.ref 0]) (by decide +kernel) rfl ?_
            refine sm_getR 10 7 213 cls10 C (ltX (by decide +kernel : kdX 0 = 10) (by decide)) (by decide +kernel : kdX 0 = 10) (obX10 (by decide +kernel : kdX 0 = 10)) (by decide) (frX10_7 (by decide +kernel : kdX 0 = 10)) fl10_56 (by decide +kernel) ?_
            refine sm_seg C [(.iload 4, 0), (.iload 5, 0)] (pc' := 74) (L' := [(5, .int (a1 * 27720)), (4, .int r9), (0, .ref 0), (1, .int a1), (2, .int a2), (3, .int a3)]) (S' := [.int (a1 * 27720), .int r9, .ref 213]) (by decide +kernel) rfl ?_
            refine sm_vcal [.int r9, .int (a1 * 27720)] [] rfl C mw_X4_commonPart ml_10_313 rfl (ci := 4) rfl (ltX (krX10_7 (by decide +kernel : kdX 0 = 10)) (by decide)) (krX10_7 (by decide +kernel : kdX 0 = 10)) (by decide) ⟨by decide, by decide⟩ (Nat.le_of_ble_eq_true rfl) (by decide +kernel) (c_X4_commonPart F r9 (a1 * 27720) τ10) (fun r11 τ12 => ?_)
            refine sm_seg C [(.istore 6, 0), (.iload_n 3, 0)] (pc' := 80) (L' := [(6, .int r11), (5, .int (a1 * 27720)), (4, .int r9), (0, .ref 0), (1, .int a1), (2, .int a2), (3, .int a3)]) (S' := [.int a3]) (by decide +kernel) rfl ?_
            refine sm_ifne 88 (off := 8) C (by decide +kernel) (by decide) (fun _ => ?_) (fun _ => ?_)
            · refine sm_seg C [(.iload 4, 0), (.goto 5, 0)] (pc' := 90) (L' := [(6, .int r11), (5, .int (a1 * 27720)), (4, .int r9), (0, .ref 0), (1, .int a1), (2, .int a2), (3, .int a3)]) (S' := [.int r9]) (by decide +kernel) rfl ?_
              exact sm_sub [0] rfl (s_X10_stand_j90 F C hr r11 r9 τ12)
            · refine sm_seg C [(.iload 5, 0)] (pc' := 90) (L' := [(6, .int r11), (5, .int (a1 * 27720)), (4, .int r9), (0, .ref 0), (1, .int a1), (2, .int a2), (3, .int a3)]) (S' := [.int (a1 * 27720)]) (by decide +kernel) rfl ?_
              exact sm_sub [0] rfl (s_X10_stand_j90 F C hr r11 (a1 * 27720) τ12)) h
/-! BasketEnvoys.state -/
def X10_state (F : Nat) (a1 : Int32) (τ : Tau) : Option (Int32 × Tau) :=
  pst τ 2 5 a1 fun τ1 => cal (X1_forget F τ1) fun r2 τ3 => some ((τ 2 5), τ3)
set_option maxRecDepth 20000 in
set_option maxHeartbeats 4000000 in
theorem c_X10_state (F : Nat) (a1 : Int32) (τ : Tau) (r : Int32) (τ' : Tau) (h : X10_state F a1 τ = some (r, τ')) : MCi sysX yX10_state cX10_state 3 (some .int) 2 [.ref 0, .int a1] τ r τ' :=
  mci_of (by decide +kernel) (Nat.le_of_ble_eq_true rfl) (fun K C hr => by
    show Sm K sysX 3 (Qi K sysX) (X10_state F a1 τ) 0 [(0, .ref 0), (1, .int a1)] [] τ
    unfold X10_state
    refine sm_seg C [(.aload_n 0, 0)] (pc' := 1) (L' := [(0, .ref 0), (1, .int a1)]) (S' := [.ref 0]) (by decide +kernel) rfl ?_
    refine sm_getR 10 0 1 cls10 C (ltX (by decide +kernel : kdX 0 = 10) (by decide)) (by decide +kernel : kdX 0 = 10) (obX10 (by decide +kernel : kdX 0 = 10)) (by decide) (frX10_0 (by decide +kernel : kdX 0 = 10)) fl10_12 (by decide +kernel) ?_
    refine sm_getR 9 0 2 cls9 C (ltX (krX10_0 (by decide +kernel : kdX 0 = 10)) (by decide)) (krX10_0 (by decide +kernel : kdX 0 = 10)) (obX9 (krX10_0 (by decide +kernel : kdX 0 = 10))) (by decide) (frX9_0 (krX10_0 (by decide +kernel : kdX 0 = 10))) fl10_60 (by decide +kernel) ?_
    refine sm_getI 8 5 cls8 C (ltX (krX9_0 (krX10_0 (by decide +kernel : kdX 0 = 10))) (by decide)) (krX9_0 (krX10_0 (by decide +kernel : kdX 0 = 10))) (obX8 (krX9_0 (krX10_0 (by decide +kernel : kdX 0 = 10)))) (by decide) (fiX8_5 (krX9_0 (krX10_0 (by decide +kernel : kdX 0 = 10)))) fl10_63 (by decide +kernel) ?_
    refine sm_seg C [(.istore_n 2, 0), (.aload_n 0, 0)] (pc' := 12) (L' := [(2, .int (τ 2 5)), (0, .ref 0), (1, .int a1)]) (S' := [.ref 0]) (by decide +kernel) rfl ?_
    refine sm_getR 10 0 1 cls10 C (ltX (by decide +kernel : kdX 0 = 10) (by decide)) (by decide +kernel : kdX 0 = 10) (obX10 (by decide +kernel : kdX 0 = 10)) (by decide) (frX10_0 (by decide +kernel : kdX 0 = 10)) fl10_12 (by decide +kernel) ?_
    refine sm_getR 9 0 2 cls9 C (ltX (krX10_0 (by decide +kernel : kdX 0 = 10)) (by decide)) (krX10_0 (by decide +kernel : kdX 0 = 10)) (obX9 (krX10_0 (by decide +kernel : kdX 0 = 10))) (by decide) (frX9_0 (krX10_0 (by decide +kernel : kdX 0 = 10))) fl10_60 (by decide +kernel) ?_
    refine sm_seg C [(.iload_n 1, 0)] (pc' := 19) (L' := [(2, .int (τ 2 5)), (0, .ref 0), (1, .int a1)]) (S' := [.int a1, .ref 2]) (by decide +kernel) rfl ?_
    refine sm_pst 8 5 cls8 C (ltX (krX9_0 (krX10_0 (by decide +kernel : kdX 0 = 10))) (by decide)) (krX9_0 (krX10_0 (by decide +kernel : kdX 0 = 10))) (obX8 (krX9_0 (krX10_0 (by decide +kernel : kdX 0 = 10)))) (by decide) (fiX8_5 (krX9_0 (krX10_0 (by decide +kernel : kdX 0 = 10)))) rfl rfl rfl fl10_63 (by decide +kernel) (fun τ1 => ?_)
    refine sm_seg C [(.aload_n 0, 0)] (pc' := 23) (L' := [(2, .int (τ 2 5)), (0, .ref 0), (1, .int a1)]) (S' := [.ref 0]) (by decide +kernel) rfl ?_
    refine sm_getR 10 4 116 cls10 C (ltX (by decide +kernel : kdX 0 = 10) (by decide)) (by decide +kernel : kdX 0 = 10) (obX10 (by decide +kernel : kdX 0 = 10)) (by decide) (frX10_4 (by decide +kernel : kdX 0 = 10)) fl10_33 (by decide +kernel) ?_
    refine sm_vcalv [] [] rfl C mw_X1_forget ml_10_67 rfl (ci := 1) rfl (ltX (krX10_4 (by decide +kernel : kdX 0 = 10)) (by decide)) (krX10_4 (by decide +kernel : kdX 0 = 10)) (by decide) ⟨by decide, by decide⟩ (Nat.le_of_ble_eq_true rfl) (by decide +kernel) (c_X1_forget F τ1) (fun r2 τ3 => ?_)
    refine sm_seg C [(.iload_n 2, 0)] (pc' := 30) (L' := [(2, .int (τ 2 5)), (0, .ref 0), (1, .int a1)]) (S' := [.int (τ 2 5)]) (by decide +kernel) rfl ?_
    exact sm_iret C hr rfl (by decide +kernel)) h
/-! BasketEnvoys.table -/
def X10_table (F : Nat) (a1 : Int32) (a2 : Int32) (a3 : Int32) (τ : Tau) : Option (Int32 × Tau) :=
  cal (X10_within F a3 (-9) 9 τ) fun r1 τ2 => if a1 = 0 then (cal (X10_put F 35 a2 a3 r1 τ2) fun r3 τ4 => some (vp_nar .boolean r3, τ4)) else if a1 = 1 then (cal (X10_put F 36 a2 a3 r1 τ2) fun r5 τ6 => some (vp_nar .boolean r5, τ6)) else (some (0, τ2))
set_option maxRecDepth 20000 in
set_option maxHeartbeats 4000000 in
theorem c_X10_table (F : Nat) (a1 : Int32) (a2 : Int32) (a3 : Int32) (τ : Tau) (r : Int32) (τ' : Tau) (h : X10_table F a1 a2 a3 τ = some (r, τ')) : MCi sysX yX10_table cX10_table 5 (some .boolean) 2 [.ref 0, .int a1, .int a2, .int a3] τ r τ' :=
  mci_of (by decide +kernel) (Nat.le_of_ble_eq_true rfl) (fun K C hr => by
    show Sm K sysX 5 (Qi K sysX) (X10_table F a1 a2 a3 τ) 0 [(0, .ref 0), (1, .int a1), (2, .int a2), (3, .int a3)] [] τ
    unfold X10_table
    refine sm_seg C [(.iload_n 3, 0), (.bipush (-9), (-9)), (.bipush 9, 9)] (pc' := 5) (L' := [(0, .ref 0), (1, .int a1), (2, .int a2), (3, .int a3)]) (S' := [.int 9, .int (-9), .int a3]) (by decide +kernel) rfl ?_
    refine sm_scal [.int a3, .int (-9), .int 9] [] rfl C mw_X10_within ml_10_70 rfl ⟨by decide, by decide⟩ (Nat.le_of_ble_eq_true rfl) (by decide +kernel) (c_X10_within F a3 (-9) 9 τ) (fun r1 τ2 => ?_)
    refine sm_seg C [(.istore 4, 0), (.iload_n 1, 0)] (pc' := 11) (L' := [(4, .int r1), (0, .ref 0), (1, .int a1), (2, .int a2), (3, .int a3)]) (S' := [.int a1]) (by decide +kernel) rfl ?_
    have hd11 : decode cX10_table 11 = .ok (.lookupswitch 61 #[(0, 25), (1, 43)], 25) := by decide +kernel
    refine sm_ite (fun e => ?_) (fun n11_0 => ?_)
    · refine sm_look (off := 25) 36 C hd11 (by decide) (by rw [e]; decide) (by decide) ?_
      refine sm_seg C [(.aload_n 0, 0)] (pc' := 37) (L' := [(4, .int r1), (0, .ref 0), (1, .int a1), (2, .int a2), (3, .int a3)]) (S' := [.ref 0]) (by decide +kernel) rfl ?_
      refine sm_getR 10 0 1 cls10 C (ltX (by decide +kernel : kdX 0 = 10) (by decide)) (by decide +kernel : kdX 0 = 10) (obX10 (by decide +kernel : kdX 0 = 10)) (by decide) (frX10_0 (by decide +kernel : kdX 0 = 10)) fl10_12 (by decide +kernel) ?_
      refine sm_getR 9 1 15 cls9 C (ltX (krX10_0 (by decide +kernel : kdX 0 = 10)) (by decide)) (krX10_0 (by decide +kernel : kdX 0 = 10)) (obX9 (krX10_0 (by decide +kernel : kdX 0 = 10))) (by decide) (frX9_1 (krX10_0 (by decide +kernel : kdX 0 = 10))) fl10_243 (by decide +kernel) ?_
      refine sm_getR 7 10 35 cls7 C (ltX (krX9_1 (krX10_0 (by decide +kernel : kdX 0 = 10))) (by decide)) (krX9_1 (krX10_0 (by decide +kernel : kdX 0 = 10))) (obX7 (krX9_1 (krX10_0 (by decide +kernel : kdX 0 = 10)))) (by decide) (frX7_10 (krX9_1 (krX10_0 (by decide +kernel : kdX 0 = 10)))) fl10_292 (by decide +kernel) ?_
      refine sm_seg C [(.iload_n 2, 0), (.iload_n 3, 0), (.iload 4, 0)] (pc' := 50) (L' := [(4, .int r1), (0, .ref 0), (1, .int a1), (2, .int a2), (3, .int a3)]) (S' := [.int r1, .int a3, .int a2, .ref 35]) (by decide +kernel) rfl ?_
      refine sm_scal [.ref 35, .int a2, .int a3, .int r1] [] rfl C mw_X10_put ml_10_264 rfl ⟨by decide, by decide⟩ (Nat.le_of_ble_eq_true rfl) (by decide +kernel) (c_X10_put F 35 (krX7_10 (krX9_1 (krX10_0 (by decide +kernel : kdX 0 = 10)))) a2 a3 r1 τ2) (fun r3 τ4 => ?_)
      exact sm_iret C hr nar_boolean (by decide +kernel)
    refine sm_ite (fun e => ?_) (fun n11_1 => ?_)
    · refine sm_look (off := 43) 54 C hd11 (by decide) (by rw [e]; decide) (by decide) ?_
      refine sm_seg C [(.aload_n 0, 0)] (pc' := 55) (L' := [(4, .int r1), (0, .ref 0), (1, .int a1), (2, .int a2), (3, .int a3)]) (S' := [.ref 0]) (by decide +kernel) rfl ?_
      refine sm_getR 10 0 1 cls10 C (ltX (by decide +kernel : kdX 0 = 10) (by decide)) (by decide +kernel : kdX 0 = 10) (obX10 (by decide +kernel : kdX 0 = 10)) (by decide) (frX10_0 (by decide +kernel : kdX 0 = 10)) fl10_12 (by decide +kernel) ?_
      refine sm_getR 9 1 15 cls9 C (ltX (krX10_0 (by decide +kernel : kdX 0 = 10)) (by decide)) (krX10_0 (by decide +kernel : kdX 0 = 10)) (obX9 (krX10_0 (by decide +kernel : kdX 0 = 10))) (by decide) (frX9_1 (krX10_0 (by decide +kernel : kdX 0 = 10))) fl10_243 (by decide +kernel) ?_
      refine sm_getR 7 11 36 cls7 C (ltX (krX9_1 (krX10_0 (by decide +kernel : kdX 0 = 10))) (by decide)) (krX9_1 (krX10_0 (by decide +kernel : kdX 0 = 10))) (obX7 (krX9_1 (krX10_0 (by decide +kernel : kdX 0 = 10)))) (by decide) (frX7_11 (krX9_1 (krX10_0 (by decide +kernel : kdX 0 = 10)))) fl10_295 (by decide +kernel) ?_
      refine sm_seg C [(.iload_n 2, 0), (.iload_n 3, 0), (.iload 4, 0)] (pc' := 68) (L' := [(4, .int r1), (0, .ref 0), (1, .int a1), (2, .int a2), (3, .int a3)]) (S' := [.int r1, .int a3, .int a2, .ref 36]) (by decide +kernel) rfl ?_
      refine sm_scal [.ref 36, .int a2, .int a3, .int r1] [] rfl C mw_X10_put ml_10_264 rfl ⟨by decide, by decide⟩ (Nat.le_of_ble_eq_true rfl) (by decide +kernel) (c_X10_put F 36 (krX7_11 (krX9_1 (krX10_0 (by decide +kernel : kdX 0 = 10)))) a2 a3 r1 τ2) (fun r5 τ6 => ?_)
      exact sm_iret C hr nar_boolean (by decide +kernel)
    refine sm_look (off := 61) 72 C hd11 (by decide) (by show Op.lookupswitch.offset [(0, 25), (1, 43)] 61 _ = _; rw [look_ne (toInt_neZ (z := 0) n11_0 (by decide)), look_ne (toInt_neZ (z := 1) n11_1 (by decide))]; rfl) (by decide) ?_
    refine sm_seg C [(.iconst 0, 0)] (pc' := 73) (L' := [(4, .int r1), (0, .ref 0), (1, .int a1), (2, .int a2), (3, .int a3)]) (S' := [.int 0]) (by decide +kernel) rfl ?_
    exact sm_iret C hr rfl (by decide +kernel)) h
/-! BasketEnvoys_Riddles.rests -/
def X4_rests_j89 (F : Nat) (self11 : Int32 → Int32 → Int32 → Int32 → Tau → Option (Int32 × Tau)) (a1 : Int32) (a2 : Int32) (a3 : Int32) (a4 : Int32) (a5 : Int32) (z0 : Int32) (τ : Tau) : Option (Int32 × Tau) :=
  if a5 = 0 then (if z0 = 0 then (self11 a1 a2 a3 (a4 + 1) τ) else (some (0, τ))) else (some (0, τ))
theorem s_X4_rests_j89 (F : Nat) {K : Ctx} (C : Cx K sysX RX4 cX4_rests 7 2) (hr : Rt K (some .boolean)) (self11 : Int32 → Int32 → Int32 → Int32 → Tau → Option (Int32 × Tau)) (ih11 : ∀ (a1 : Int32) (a2 : Int32) (a3 : Int32) (a4 : Int32) (τ : Tau), Sm K sysX 7 (Qi K sysX) (self11 a1 a2 a3 a4 τ) 11 [(0, .ref 213), (1, .int a1), (2, .int a2), (3, .int a3), (4, .int a4)] [] τ) (a1 : Int32) (a2 : Int32) (a3 : Int32) (a4 : Int32) (a5 : Int32) (z0 : Int32) (τ : Tau) : Sm K sysX 7 (Qi K sysX) (X4_rests_j89 F self11 a1 a2 a3 a4 a5 z0 τ) 89 [(0, .ref 213), (1, .int a1), (2, .int a2), (3, .int a3), (4, .int a4), (5, .int a5)] [.int z0] τ := by
  unfold X4_rests_j89
  refine sm_seg C [(.istore 6, 0), (.iload 5, 0)] (pc' := 93) (L' := [(6, .int z0), (0, .ref 213), (1, .int a1), (2, .int a2), (3, .int a3), (4, .int a4), (5, .int a5)]) (S' := [.int a5]) (by decide +kernel) rfl ?_
  refine sm_ifne 101 (off := 8) C (by decide +kernel) (by decide) (fun _ => ?_) (fun _ => ?_)
  · refine sm_seg C [(.iload 6, 0)] (pc' := 98) (L' := [(6, .int z0), (0, .ref 213), (1, .int a1), (2, .int a2), (3, .int a3), (4, .int a4), (5, .int a5)]) (S' := [.int z0]) (by decide +kernel) rfl ?_
    refine sm_ifeq 103 (off := 5) C (by decide +kernel) (by decide) (fun _ => ?_) (fun _ => ?_)
    · refine sm_seg C [(.iinc 4 1, 1), (.goto (-95), 0)] (pc' := 11) (L' := [(4, .int (a4 + 1)), (6, .int z0), (0, .ref 213), (1, .int a1), (2, .int a2), (3, .int a3), (5, .int a5)]) (S' := []) (by decide +kernel) rfl ?_
      exact sm_sub [2, 3, 4, 5, 0] rfl (ih11 a1 a2 a3 (a4 + 1) τ)
    · refine sm_seg C [(.iconst 0, 0)] (pc' := 102) (L' := [(6, .int z0), (0, .ref 213), (1, .int a1), (2, .int a2), (3, .int a3), (4, .int a4), (5, .int a5)]) (S' := [.int 0]) (by decide +kernel) rfl ?_
      exact sm_iret C hr rfl (by decide +kernel)
  · refine sm_seg C [(.iconst 0, 0)] (pc' := 102) (L' := [(6, .int z0), (0, .ref 213), (1, .int a1), (2, .int a2), (3, .int a3), (4, .int a4), (5, .int a5)]) (S' := [.int 0]) (by decide +kernel) rfl ?_
    exact sm_iret C hr rfl (by decide +kernel)
def X4_rests_j52 (F : Nat) (self11 : Int32 → Int32 → Int32 → Int32 → Tau → Option (Int32 × Tau)) (a1 : Int32) (a2 : Int32) (a3 : Int32) (a4 : Int32) (z0 : Int32) (τ : Tau) : Option (Int32 × Tau) :=
  cal (X10_entry F 36 ((3 * a2) + a4) τ) fun r5 τ6 => cal (X10_entry F 36 a1 τ6) fun r7 τ8 => if r5 ≤ r7 then (X4_rests_j89 F self11 a1 a2 a3 a4 z0 0 τ8) else (X4_rests_j89 F self11 a1 a2 a3 a4 z0 1 τ8)
theorem s_X4_rests_j52 (F : Nat) {K : Ctx} (C : Cx K sysX RX4 cX4_rests 7 2) (hr : Rt K (some .boolean)) (self11 : Int32 → Int32 → Int32 → Int32 → Tau → Option (Int32 × Tau)) (ih11 : ∀ (a1 : Int32) (a2 : Int32) (a3 : Int32) (a4 : Int32) (τ : Tau), Sm K sysX 7 (Qi K sysX) (self11 a1 a2 a3 a4 τ) 11 [(0, .ref 213), (1, .int a1), (2, .int a2), (3, .int a3), (4, .int a4)] [] τ) (a1 : Int32) (a2 : Int32) (a3 : Int32) (a4 : Int32) (z0 : Int32) (τ : Tau) : Sm K sysX 7 (Qi K sysX) (X4_rests_j52 F self11 a1 a2 a3 a4 z0 τ) 52 [(0, .ref 213), (1, .int a1), (2, .int a2), (3, .int a3), (4, .int a4)] [.int z0] τ := by
  unfold X4_rests_j52
  refine sm_seg C [(.istore 5, 0), (.aload_n 0, 0)] (pc' := 55) (L' := [(5, .int z0), (0, .ref 213), (1, .int a1), (2, .int a2), (3, .int a3), (4, .int a4)]) (S' := [.ref 213]) (by decide +kernel) rfl ?_
  refine sm_getR 4 1 15 cls4 C (ltX (by decide +kernel : kdX 213 = 4) (by decide)) (by decide +kernel : kdX 213 = 4) (obX4 (by decide +kernel : kdX 213 = 4)) (by decide) (frX4_1 (by decide +kernel : kdX 213 = 4)) fl4_51 (by decide +kernel) ?_
  refine sm_getR 7 11 36 cls7 C (ltX (krX4_1 (by decide +kernel : kdX 213 = 4)) (by decide)) (krX4_1 (by decide +kernel : kdX 213 = 4)) (obX7 (krX4_1 (by decide +kernel : kdX 213 = 4))) (by decide) (frX7_11 (krX4_1 (by decide +kernel : kdX 213 = 4))) fl4_119 (by decide +kernel) ?_
  refine sm_seg C [(.iconst 3, 3), (.iload_n 2, 0), (.imul, 0), (.iload 4, 0), (.iadd, 0)] (pc' := 67) (L' := [(5, .int z0), (0, .ref 213), (1, .int a1), (2, .int a2), (3, .int a3), (4, .int a4)]) (S' := [.int ((3 * a2) + a4), .ref 36]) (by decide +kernel) rfl ?_
  refine sm_ncal "BasketEnvoys" [.ref 36, .int ((3 * a2) + a4)] [] rfl C mw_X10_entry ml_4_108 rfl ⟨by decide, by decide⟩ (Nat.le_of_ble_eq_true rfl) (by decide +kernel) (c_X10_entry F 36 (krX7_11 (krX4_1 (by decide +kernel : kdX 213 = 4))) ((3 * a2) + a4) τ) (fun r5 τ6 => ?_)
  refine sm_seg C [(.aload_n 0, 0)] (pc' := 71) (L' := [(5, .int z0), (0, .ref 213), (1, .int a1), (2, .int a2), (3, .int a3), (4, .int a4)]) (S' := [.ref 213, .int r5]) (by decide +kernel) rfl ?_
  refine sm_getR 4 1 15 cls4 C (ltX (by decide +kernel : kdX 213 = 4) (by decide)) (by decide +kernel : kdX 213 = 4) (obX4 (by decide +kernel : kdX 213 = 4)) (by decide) (frX4_1 (by decide +kernel : kdX 213 = 4)) fl4_51 (by decide +kernel) ?_
  refine sm_getR 7 11 36 cls7 C (ltX (krX4_1 (by decide +kernel : kdX 213 = 4)) (by decide)) (krX4_1 (by decide +kernel : kdX 213 = 4)) (obX7 (krX4_1 (by decide +kernel : kdX 213 = 4))) (by decide) (frX7_11 (krX4_1 (by decide +kernel : kdX 213 = 4))) fl4_119 (by decide +kernel) ?_
  refine sm_seg C [(.iload_n 1, 0)] (pc' := 78) (L' := [(5, .int z0), (0, .ref 213), (1, .int a1), (2, .int a2), (3, .int a3), (4, .int a4)]) (S' := [.int a1, .ref 36, .int r5]) (by decide +kernel) rfl ?_
  refine sm_ncal "BasketEnvoys" [.ref 36, .int a1] [.int r5] rfl C mw_X10_entry ml_4_108 rfl ⟨by decide, by decide⟩ (Nat.le_of_ble_eq_true rfl) (by decide +kernel) (c_X10_entry F 36 (krX7_11 (krX4_1 (by decide +kernel : kdX 213 = 4))) a1 τ6) (fun r7 τ8 => ?_)
  refine sm_icmple 88 (off := 7) C (by decide +kernel) (by decide) (fun _ => ?_) (fun _ => ?_)
  · refine sm_seg C [(.iconst 0, 0)] (pc' := 89) (L' := [(5, .int z0), (0, .ref 213), (1, .int a1), (2, .int a2), (3, .int a3), (4, .int a4)]) (S' := [.int 0]) (by decide +kernel) rfl ?_
    exact sm_sub [1, 2, 3, 4, 5, 0] rfl (s_X4_rests_j89 F C hr self11 ih11 a1 a2 a3 a4 z0 0 τ8)
  · refine sm_seg C [(.iconst 1, 1), (.goto 4, 0)] (pc' := 89) (L' := [(5, .int z0), (0, .ref 213), (1, .int a1), (2, .int a2), (3, .int a3), (4, .int a4)]) (S' := [.int 1]) (by decide +kernel) rfl ?_
    exact sm_sub [1, 2, 3, 4, 5, 0] rfl (s_X4_rests_j89 F C hr self11 ih11 a1 a2 a3 a4 z0 1 τ8)
def X4_rests_L11 (F : Nat) : Nat → Int32 → Int32 → Int32 → Int32 → Tau → Option (Int32 × Tau)
  | 0, _, _, _, _, _ => none
  | n + 1, a1, a2, a3, a4, τ =>
    if 3 ≤ a4 then (some (1, τ)) else (cal (X10_entry F 35 ((3 * a4) + a3) τ) fun r1 τ2 => cal (X10_entry F 35 a1 τ2) fun r3 τ4 => if r1 ≤ r3 then (X4_rests_j52 F (X4_rests_L11 F n) a1 a2 a3 a4 0 τ4) else (X4_rests_j52 F (X4_rests_L11 F n) a1 a2 a3 a4 1 τ4))
theorem s_X4_rests_L11 (F : Nat) {K : Ctx} (C : Cx K sysX RX4 cX4_rests 7 2) (hr : Rt K (some .boolean)) : ∀ (n : Nat) (a1 : Int32) (a2 : Int32) (a3 : Int32) (a4 : Int32) (τ : Tau), Sm K sysX 7 (Qi K sysX) (X4_rests_L11 F n a1 a2 a3 a4 τ) 11 [(0, .ref 213), (1, .int a1), (2, .int a2), (3, .int a3), (4, .int a4)] [] τ := by
  intro n
  induction n with
  | zero => intro a1 a2 a3 a4 τ; exact sm_none
  | succ n ih =>
    intro a1 a2 a3 a4 τ
    rw [X4_rests_L11]
    refine sm_seg C [(.iload 4, 0), (.iconst 3, 3)] (pc' := 14) (L' := [(0, .ref 213), (1, .int a1), (2, .int a2), (3, .int a3), (4, .int a4)]) (S' := [.int 3, .int a4]) (by decide +kernel) rfl ?_
    refine sm_icmpge 109 (off := 95) C (by decide +kernel) (by decide) (fun _ => ?_) (fun _ => ?_)
    · refine sm_seg C [(.iconst 1, 1)] (pc' := 110) (L' := [(0, .ref 213), (1, .int a1), (2, .int a2), (3, .int a3), (4, .int a4)]) (S' := [.int 1]) (by decide +kernel) rfl ?_
      exact sm_iret C hr rfl (by decide +kernel)
    · refine sm_seg C [(.aload_n 0, 0)] (pc' := 18) (L' := [(0, .ref 213), (1, .int a1), (2, .int a2), (3, .int a3), (4, .int a4)]) (S' := [.ref 213]) (by decide +kernel) rfl ?_
      refine sm_getR 4 1 15 cls4 C (ltX (by decide +kernel : kdX 213 = 4) (by decide)) (by decide +kernel : kdX 213 = 4) (obX4 (by decide +kernel : kdX 213 = 4)) (by decide) (frX4_1 (by decide +kernel : kdX 213 = 4)) fl4_51 (by decide +kernel) ?_
      refine sm_getR 7 10 35 cls7 C (ltX (krX4_1 (by decide +kernel : kdX 213 = 4)) (by decide)) (krX4_1 (by decide +kernel : kdX 213 = 4)) (obX7 (krX4_1 (by decide +kernel : kdX 213 = 4))) (by decide) (frX7_10 (krX4_1 (by decide +kernel : kdX 213 = 4))) fl4_116 (by decide +kernel) ?_
      refine sm_seg C [(.iconst 3, 3), (.iload 4, 0), (.imul, 0), (.iload_n 3, 0), (.iadd, 0)] (pc' := 30) (L' := [(0, .ref 213), (1, .int a1), (2, .int a2), (3, .int a3), (4, .int a4)]) (S' := [.int ((3 * a4) + a3), .ref 35]) (by decide +kernel) rfl ?_
      refine sm_ncal "BasketEnvoys" [.ref 35, .int ((3 * a4) + a3)] [] rfl C mw_X10_entry ml_4_108 rfl ⟨by decide, by decide⟩ (Nat.le_of_ble_eq_true rfl) (by decide +kernel) (c_X10_entry F 35 (krX7_10 (krX4_1 (by decide +kernel : kdX 213 = 4))) ((3 * a4) + a3) τ) (fun r1 τ2 => ?_)
      refine sm_seg C [(.aload_n 0, 0)] (pc' := 34) (L' := [(0, .ref 213), (1, .int a1), (2, .int a2), (3, .int a3), (4, .int a4)]) (S' := [.ref 213, .int r1]) (by decide +kernel) rfl ?_
      refine sm_getR 4 1 15 cls4 C (ltX (by decide +kernel : kdX 213 = 4) (by decide)) (by decide +kernel : kdX 213 = 4) (obX4 (by decide +kernel : kdX 213 = 4)) (by decide) (frX4_1 (by decide +kernel : kdX 213 = 4)) fl4_51 (by decide +kernel) ?_
      refine sm_getR 7 10 35 cls7 C (ltX (krX4_1 (by decide +kernel : kdX 213 = 4)) (by decide)) (krX4_1 (by decide +kernel : kdX 213 = 4)) (obX7 (krX4_1 (by decide +kernel : kdX 213 = 4))) (by decide) (frX7_10 (krX4_1 (by decide +kernel : kdX 213 = 4))) fl4_116 (by decide +kernel) ?_
      refine sm_seg C [(.iload_n 1, 0)] (pc' := 41) (L' := [(0, .ref 213), (1, .int a1), (2, .int a2), (3, .int a3), (4, .int a4)]) (S' := [.int a1, .ref 35, .int r1]) (by decide +kernel) rfl ?_
      refine sm_ncal "BasketEnvoys" [.ref 35, .int a1] [.int r1] rfl C mw_X10_entry ml_4_108 rfl ⟨by decide, by decide⟩ (Nat.le_of_ble_eq_true rfl) (by decide +kernel) (c_X10_entry F 35 (krX7_10 (krX4_1 (by decide +kernel : kdX 213 = 4))) a1 τ2) (fun r3 τ4 => ?_)
      refine sm_icmple 51 (off := 7) C (by decide +kernel) (by decide) (fun _ => ?_) (fun _ => ?_)
      · refine sm_seg C [(.iconst 0, 0)] (pc' := 52) (L' := [(0, .ref 213), (1, .int a1), (2, .int a2), (3, .int a3), (4, .int a4)]) (S' := [.int 0]) (by decide +kernel) rfl ?_
        exact sm_sub [0, 1, 2, 3, 4] rfl (s_X4_rests_j52 F C hr (X4_rests_L11 F n) ih a1 a2 a3 a4 0 τ4)
      · refine sm_seg C [(.iconst 1, 1), (.goto 4, 0)] (pc' := 52) (L' := [(0, .ref 213), (1, .int a1), (2, .int a2), (3, .int a3), (4, .int a4)]) (S' := [.int 1]) (by decide +kernel) rfl ?_
        exact sm_sub [0, 1, 2, 3, 4] rfl (s_X4_rests_j52 F C hr (X4_rests_L11 F n) ih a1 a2 a3 a4 1 τ4)
def X4_rests (F : Nat) (a1 : Int32) (τ : Tau) : Option (Int32 × Tau) :=
  X4_rests_L11 F F a1 (a1 / 3) (rmd a1 3) 0 τ
set_option maxRecDepth 20000 in
set_option maxHeartbeats 4000000 in
theorem c_X4_rests (F : Nat) (a1 : Int32) (τ : Tau) (r : Int32) (τ' : Tau) (h : X4_rests F a1 τ = some (r, τ')) : MCi sysX yX4_rests cX4_rests 7 (some .boolean) 2 [.ref 213, .int a1] τ r τ' :=
  mci_of (by decide +kernel) (Nat.le_of_ble_eq_true rfl) (fun K C hr => by
    show Sm K sysX 7 (Qi K sysX) (X4_rests F a1 τ) 0 [(0, .ref 213), (1, .int a1)] [] τ
    unfold X4_rests
    refine sm_seg C [(.iload_n 1, 0), (.iconst 3, 3)] (pc' := 2) (L' := [(0, .ref 213), (1, .int a1)]) (S' := [.int 3, .int a1]) (by decide +kernel) rfl ?_
    refine sm_idiv C (by decide +kernel) (by decide) ?_
    refine sm_seg C [(.istore_n 2, 0), (.iload_n 1, 0), (.iconst 3, 3)] (pc' := 6) (L' := [(2, .int (a1 / 3)), (0, .ref 213), (1, .int a1)]) (S' := [.int 3, .int a1]) (by decide +kernel) rfl ?_
    refine sm_irem C (by decide +kernel) (by decide) ?_
    refine sm_seg C [(.istore_n 3, 0), (.iconst 0, 0), (.istore 4, 0)] (pc' := 11) (L' := [(4, .int 0), (3, .int (rmd a1 3)), (2, .int (a1 / 3)), (0, .ref 213), (1, .int a1)]) (S' := []) (by decide +kernel) rfl ?_
    exact sm_sub [3, 4, 2, 1, 0] rfl (s_X4_rests_L11 F C hr F a1 (a1 / 3) (rmd a1 3) 0 τ)) h
/-! BasketEnvoys_Riddles.restingCells -/
def X4_restingCells_j24 (F : Nat) (self4 : Int32 → Int32 → Tau → Option (Int32 × Tau)) (a2 : Int32) (z0 : Int32) (z1 : Int32) (τ : Tau) : Option (Int32 × Tau) :=
  self4 (z1 + z0) (a2 + 1) τ
theorem s_X4_restingCells_j24 (F : Nat) {K : Ctx} (C : Cx K sysX RX4 cX4_restingCells 3 3) (hr : Rt K (some .int)) (self4 : Int32 → Int32 → Tau → Option (Int32 × Tau)) (ih4 : ∀ (a1 : Int32) (a2 : Int32) (τ : Tau), Sm K sysX 3 (Qi K sysX) (self4 a1 a2 τ) 4 [(0, .ref 213), (1, .int a1), (2, .int a2)] [] τ) (a2 : Int32) (z0 : Int32) (z1 : Int32) (τ : Tau) : Sm K sysX 3 (Qi K sysX) (X4_restingCells_j24 F self4 a2 z0 z1 τ) 24 [(0, .ref 213), (2, .int a2)] [.int z0, .int z1] τ := by
  unfold X4_restingCells_j24
  refine sm_seg C [(.iadd, 0), (.istore_n 1, 0), (.iinc 2 1, 1), (.goto (-25), 0)] (pc' := 4) (L' := [(2, .int (a2 + 1)), (1, .int (z1 + z0)), (0, .ref 213)]) (S' := []) (by decide +kernel) rfl ?_
  exact sm_sub [2, 1, 0] rfl (ih4 (z1 + z0) (a2 + 1) τ)
def X4_restingCells_L4 (F : Nat) : Nat → Int32 → Int32 → Tau → Option (Int32 × Tau)
  | 0, _, _, _ => none
  | n + 1, a1, a2, τ =>
    if 9 ≤ a2 then (some (a1, τ)) else (cal (X4_rests F a2 τ) fun r1 τ2 => if r1 = 0 then (X4_restingCells_j24 F (X4_restingCells_L4 F n) a2 0 a1 τ2) else (X4_restingCells_j24 F (X4_restingCells_L4 F n) a2 1 a1 τ2))
theorem s_X4_restingCells_L4 (F : Nat) {K : Ctx} (C : Cx K sysX RX4 cX4_restingCells 3 3) (hr : Rt K (some .int)) : ∀ (n : Nat) (a1 : Int32) (a2 : Int32) (τ : Tau), Sm K sysX 3 (Qi K sysX) (X4_restingCells_L4 F n a1 a2 τ) 4 [(0, .ref 213), (1, .int a1), (2, .int a2)] [] τ := by
  intro n
  induction n with
  | zero => intro a1 a2 τ; exact sm_none
  | succ n ih =>
    intro a1 a2 τ
    rw [X4_restingCells_L4]
    refine sm_seg C [(.iload_n 2, 0), (.bipush 9, 9)] (pc' := 7) (L' := [(0, .ref 213), (1, .int a1), (2, .int a2)]) (S' := [.int 9, .int a2]) (by decide +kernel) rfl ?_
    refine sm_icmpge 32 (off := 25) C (by decide +kernel) (by decide) (fun _ => ?_) (fun _ => ?_)
    · refine sm_seg C [(.iload_n 1, 0)] (pc' := 33) (L' := [(0, .ref 213), (1, .int a1), (2, .int a2)]) (S' := [.int a1]) (by decide +kernel) rfl ?_
      exact sm_iret C hr rfl (by decide +kernel)
    · refine sm_seg C [(.iload_n 1, 0), (.aload_n 0, 0), (.iload_n 2, 0)] (pc' := 13) (L' := [(0, .ref 213), (1, .int a1), (2, .int a2)]) (S' := [.int a2, .ref 213, .int a1]) (by decide +kernel) rfl ?_
      refine sm_vcal [.int a2] [.int a1] rfl C mw_X4_rests ml_4_112 rfl (ci := 4) rfl (ltX (by decide +kernel : kdX 213 = 4) (by decide)) (by decide +kernel : kdX 213 = 4) (by decide) ⟨by decide, by decide⟩ (Nat.le_of_ble_eq_true rfl) (by decide +kernel) (c_X4_rests F a2 τ) (fun r1 τ2 => ?_)
      refine sm_ifeq 23 (off := 7) C (by decide +kernel) (by decide) (fun _ => ?_) (fun _ => ?_)
      · refine sm_seg C [(.iconst 0, 0)] (pc' := 24) (L' := [(0, .ref 213), (1, .int a1), (2, .int a2)]) (S' := [.int 0, .int a1]) (by decide +kernel) rfl ?_
        exact sm_sub [0, 2] rfl (s_X4_restingCells_j24 F C hr (X4_restingCells_L4 F n) ih a2 0 a1 τ2)
      · refine sm_seg C [(.iconst 1, 1), (.goto 4, 0)] (pc' := 24) (L' := [(0, .ref 213), (1, .int a1), (2, .int a2)]) (S' := [.int 1, .int a1]) (by decide +kernel) rfl ?_
        exact sm_sub [0, 2] rfl (s_X4_restingCells_j24 F C hr (X4_restingCells_L4 F n) ih a2 1 a1 τ2)
def X4_restingCells (F : Nat) (τ : Tau) : Option (Int32 × Tau) :=
  X4_restingCells_L4 F F 0 0 τ
set_option maxRecDepth 20000 in
set_option maxHeartbeats 4000000 in
theorem c_X4_restingCells (F : Nat) (τ : Tau) (r : Int32) (τ' : Tau) (h : X4_restingCells F τ = some (r, τ')) : MCi sysX yX4_restingCells cX4_restingCells 3 (some .int) 3 [.ref 213] τ r τ' :=
  mci_of (by decide +kernel) (Nat.le_of_ble_eq_true rfl) (fun K C hr => by
    show Sm K sysX 3 (Qi K sysX) (X4_restingCells F τ) 0 [(0, .ref 213)] [] τ
    unfold X4_restingCells
    refine sm_seg C [(.iconst 0, 0), (.istore_n 1, 0), (.iconst 0, 0), (.istore_n 2, 0)] (pc' := 4) (L' := [(2, .int 0), (1, .int 0), (0, .ref 213)]) (S' := []) (by decide +kernel) rfl ?_
    exact sm_sub [2, 1, 0] rfl (s_X4_restingCells_L4 F C hr F 0 0 τ)) h
/-! BasketEnvoys_Riddles.firstRest -/
def X4_firstRest_L2 (F : Nat) : Nat → Int32 → Tau → Option (Int32 × Tau)
  | 0, _, _ => none
  | n + 1, a1, τ =>
    if 9 ≤ a1 then (some ((-1), τ)) else (cal (X4_rests F a1 τ) fun r1 τ2 => if r1 = 0 then (X4_firstRest_L2 F n (a1 + 1) τ2) else (some (a1, τ2)))
theorem s_X4_firstRest_L2 (F : Nat) {K : Ctx} (C : Cx K sysX RX4 cX4_firstRest 2 3) (hr : Rt K (some .int)) : ∀ (n : Nat) (a1 : Int32) (τ : Tau), Sm K sysX 2 (Qi K sysX) (X4_firstRest_L2 F n a1 τ) 2 [(0, .ref 213), (1, .int a1)] [] τ := by
  intro n
  induction n with
  | zero => intro a1 τ; exact sm_none
  | succ n ih =>
    intro a1 τ
    rw [X4_firstRest_L2]
    refine sm_seg C [(.iload_n 1, 0), (.bipush 9, 9)] (pc' := 5) (L' := [(0, .ref 213), (1, .int a1)]) (S' := [.int 9, .int a1]) (by decide +kernel) rfl ?_
    refine sm_icmpge 24 (off := 19) C (by decide +kernel) (by decide) (fun _ => ?_) (fun _ => ?_)
    · refine sm_seg C [(.iconst (-1), (-1))] (pc' := 25) (L' := [(0, .ref 213), (1, .int a1)]) (S' := [.int (-1)]) (by decide +kernel) rfl ?_
      exact sm_iret C hr rfl (by decide +kernel)
    · refine sm_seg C [(.aload_n 0, 0), (.iload_n 1, 0)] (pc' := 10) (L' := [(0, .ref 213), (1, .int a1)]) (S' := [.int a1, .ref 213]) (by decide +kernel) rfl ?_
      refine sm_vcal [.int a1] [] rfl C mw_X4_rests ml_4_112 rfl (ci := 4) rfl (ltX (by decide +kernel : kdX 213 = 4) (by decide)) (by decide +kernel : kdX 213 = 4) (by decide) ⟨by decide, by decide⟩ (Nat.le_of_ble_eq_true rfl) (by decide +kernel) (c_X4_rests F a1 τ) (fun r1 τ2 => ?_)
      refine sm_ifeq 18 (off := 5) C (by decide +kernel) (by decide) (fun _ => ?_) (fun _ => ?_)
      · refine sm_seg C [(.iinc 1 1, 1), (.goto (-19), 0)] (pc' := 2) (L' := [(1, .int (a1 + 1)), (0, .ref 213)]) (S' := []) (by decide +kernel) rfl ?_
        exact sm_sub [1, 0] rfl (ih (a1 + 1) τ2)
      · refine sm_seg C [(.iload_n 1, 0)] (pc' := 17) (L' := [(0, .ref 213), (1, .int a1)]) (S' := [.int a1]) (by decide +kernel) rfl ?_
        exact sm_iret C hr rfl (by decide +kernel)
def X4_firstRest (F : Nat) (τ : Tau) : Option (Int32 × Tau) :=
  X4_firstRest_L2 F F 0 τ
set_option maxRecDepth 20000 in
set_option maxHeartbeats 4000000 in
theorem c_X4_firstRest (F : Nat) (τ : Tau) (r : Int32) (τ' : Tau) (h : X4_firstRest F τ = some (r, τ')) : MCi sysX yX4_firstRest cX4_firstRest 2 (some .int) 3 [.ref 213] τ r τ' :=
  mci_of (by decide +kernel) (Nat.le_of_ble_eq_true rfl) (fun K C hr => by
    show Sm K sysX 2 (Qi K sysX) (X4_firstRest F τ) 0 [(0, .ref 213)] [] τ
    unfold X4_firstRest
    refine sm_seg C [(.iconst 0, 0), (.istore_n 1, 0)] (pc' := 2) (L' := [(1, .int 0), (0, .ref 213)]) (S' := []) (by decide +kernel) rfl ?_
    exact sm_sub [1, 0] rfl (s_X4_firstRest_L2 F C hr F 0 τ)) h
/-! BasketEnvoys_Riddles.whatRowGets -/
def X4_whatRowGets_j79 (F : Nat) (self8 : Int32 → Int32 → Int32 → Tau → Option (Int32 × Tau)) (a1 : Int32) (a2 : Int32) (a3 : Int32) (τ : Tau) : Option (Int32 × Tau) :=
  self8 a1 a2 (a3 + 1) τ
theorem s_X4_whatRowGets_j79 (F : Nat) {K : Ctx} (C : Cx K sysX RX4 cX4_whatRowGets 5 2) (hr : Rt K (some .int)) (self8 : Int32 → Int32 → Int32 → Tau → Option (Int32 × Tau)) (ih8 : ∀ (a1 : Int32) (a2 : Int32) (a3 : Int32) (τ : Tau), Sm K sysX 5 (Qi K sysX) (self8 a1 a2 a3 τ) 8 [(0, .ref 213), (1, .int a1), (2, .int a2), (3, .int a3)] [] τ) (a1 : Int32) (a2 : Int32) (a3 : Int32) (τ : Tau) : Sm K sysX 5 (Qi K sysX) (X4_whatRowGets_j79 F self8 a1 a2 a3 τ) 79 [(0, .ref 213), (1, .int a1), (2, .int a2), (3, .int a3)] [] τ := by
  unfold X4_whatRowGets_j79
  refine sm_seg C [(.iinc 3 1, 1), (.goto (-74), 0)] (pc' := 8) (L' := [(3, .int (a3 + 1)), (0, .ref 213), (1, .int a1), (2, .int a2)]) (S' := []) (by decide +kernel) rfl ?_
  exact sm_sub [1, 2, 3, 0] rfl (ih8 a1 a2 (a3 + 1) τ)
def X4_whatRowGets_j77 (F : Nat) (self8 : Int32 → Int32 → Int32 → Tau → Option (Int32 × Tau)) (a1 : Int32) (a3 : Int32) (τ : Tau) : Option (Int32 × Tau) :=
  X4_whatRowGets_j79 F self8 a1 a3 a3 τ
theorem s_X4_whatRowGets_j77 (F : Nat) {K : Ctx} (C : Cx K sysX RX4 cX4_whatRowGets 5 2) (hr : Rt K (some .int)) (self8 : Int32 → Int32 → Int32 → Tau → Option (Int32 × Tau)) (ih8 : ∀ (a1 : Int32) (a2 : Int32) (a3 : Int32) (τ : Tau), Sm K sysX 5 (Qi K sysX) (self8 a1 a2 a3 τ) 8 [(0, .ref 213), (1, .int a1), (2, .int a2), (3, .int a3)] [] τ) (a1 : Int32) (a3 : Int32) (τ : Tau) : Sm K sysX 5 (Qi K sysX) (X4_whatRowGets_j77 F self8 a1 a3 τ) 77 [(0, .ref 213), (1, .int a1), (3, .int a3)] [] τ := by
  unfold X4_whatRowGets_j77
  refine sm_seg C [(.iload_n 3, 0), (.istore_n 2, 0)] (pc' := 79) (L' := [(2, .int a3), (0, .ref 213), (1, .int a1), (3, .int a3)]) (S' := []) (by decide +kernel) rfl ?_
  exact sm_sub [1, 2, 0, 3] rfl (s_X4_whatRowGets_j79 F C hr self8 ih8 a1 a3 a3 τ)
def X4_whatRowGets_L8 (F : Nat) : Nat → Int32 → Int32 → Int32 → Tau → Option (Int32 × Tau)
  | 0, _, _, _, _ => none
  | n + 1, a1, a2, a3, τ =>
    if ((3 * a1) + 3) ≤ a3 then (cal (X10_entry F 35 a2 τ) fun r1 τ2 => some (r1, τ2)) else (cal (X10_entry F 36 a3 τ) fun r3 τ4 => cal (X10_entry F 36 a2 τ4) fun r5 τ6 => if 0 < (r3 - r5) then (X4_whatRowGets_j77 F (X4_whatRowGets_L8 F n) a1 a3 τ6) else (if (r3 - r5) = 0 then (cal (X10_entry F 35 a3 τ6) fun r7 τ8 => cal (X10_entry F 35 a2 τ8) fun r9 τ10 => if r9 ≤ r7 then (X4_whatRowGets_j79 F (X4_whatRowGets_L8 F n) a1 a2 a3 τ10) else (X4_whatRowGets_j77 F (X4_whatRowGets_L8 F n) a1 a3 τ10)) else (X4_whatRowGets_j79 F (X4_whatRowGets_L8 F n) a1 a2 a3 τ6)))
theorem s_X4_whatRowGets_L8 (F : Nat) {K : Ctx} (C : Cx K sysX RX4 cX4_whatRowGets 5 2) (hr : Rt K (some .int)) : ∀ (n : Nat) (a1 : Int32) (a2 : Int32) (a3 : Int32) (τ : Tau), Sm K sysX 5 (Qi K sysX) (X4_whatRowGets_L8 F n a1 a2 a3 τ) 8 [(0, .ref 213), (1, .int a1), (2, .int a2), (3, .int a3)] [] τ := by
  intro n
  induction n with
  | zero => intro a1 a2 a3 τ; exact sm_none
  | succ n ih =>
    intro a1 a2 a3 τ
    rw [X4_whatRowGets_L8]
    refine sm_seg C [(.iload_n 3, 0), (.iconst 3, 3), (.iload_n 1, 0), (.imul, 0), (.iconst 3, 3), (.iadd, 0)] (pc' := 14) (L' := [(0, .ref 213), (1, .int a1), (2, .int a2), (3, .int a3)]) (S' := [.int ((3 * a1) + 3), .int a3]) (by decide +kernel) rfl ?_
    refine sm_icmpge 85 (off := 71) C (by decide +kernel) (by decide) (fun _ => ?_) (fun _ => ?_)
    · refine sm_seg C [(.aload_n 0, 0)] (pc' := 86) (L' := [(0, .ref 213), (1, .int a1), (2, .int a2), (3, .int a3)]) (S' := [.ref 213]) (by decide +kernel) rfl ?_
      refine sm_getR 4 1 15 cls4 C (ltX (by decide +kernel : kdX 213 = 4) (by decide)) (by decide +kernel : kdX 213 = 4) (obX4 (by decide +kernel : kdX 213 = 4)) (by decide) (frX4_1 (by decide +kernel : kdX 213 = 4)) fl4_51 (by decide +kernel) ?_
      refine sm_getR 7 10 35 cls7 C (ltX (krX4_1 (by decide +kernel : kdX 213 = 4)) (by decide)) (krX4_1 (by decide +kernel : kdX 213 = 4)) (obX7 (krX4_1 (by decide +kernel : kdX 213 = 4))) (by decide) (frX7_10 (krX4_1 (by decide +kernel : kdX 213 = 4))) fl4_116 (by decide +kernel) ?_
      refine sm_seg C [(.iload_n 2, 0)] (pc' := 93) (L' := [(0, .ref 213), (1, .int a1), (2, .int a2), (3, .int a3)]) (S' := [.int a2, .ref 35]) (by decide +kernel) rfl ?_
      refine sm_ncal "BasketEnvoys" [.ref 35, .int a2] [] rfl C mw_X10_entry ml_4_108 rfl ⟨by decide, by decide⟩ (Nat.le_of_ble_eq_true rfl) (by decide +kernel) (c_X10_entry F 35 (krX7_10 (krX4_1 (by decide +kernel : kdX 213 = 4))) a2 τ) (fun r1 τ2 => ?_)
      exact sm_iret C hr rfl (by decide +kernel)
    · refine sm_seg C [(.aload_n 0, 0)] (pc' := 18) (L' := [(0, .ref 213), (1, .int a1), (2, .int a2), (3, .int a3)]) (S' := [.ref 213]) (by decide +kernel) rfl ?_
      refine sm_getR 4 1 15 cls4 C (ltX (by decide +kernel : kdX 213 = 4) (by decide)) (by decide +kernel : kdX 213 = 4) (obX4 (by decide +kernel : kdX 213 = 4)) (by decide) (frX4_1 (by decide +kernel : kdX 213 = 4)) fl4_51 (by decide +kernel) ?_
      refine sm_getR 7 11 36 cls7 C (ltX (krX4_1 (by decide +kernel : kdX 213 = 4)) (by decide)) (krX4_1 (by decide +kernel : kdX 213 = 4)) (obX7 (krX4_1 (by decide +kernel : kdX 213 = 4))) (by decide) (frX7_11 (krX4_1 (by decide +kernel : kdX 213 = 4))) fl4_119 (by decide +kernel) ?_
      refine sm_seg C [(.iload_n 3, 0)] (pc' := 25) (L' := [(0, .ref 213), (1, .int a1), (2, .int a2), (3, .int a3)]) (S' := [.int a3, .ref 36]) (by decide +kernel) rfl ?_
      refine sm_ncal "BasketEnvoys" [.ref 36, .int a3] [] rfl C mw_X10_entry ml_4_108 rfl ⟨by decide, by decide⟩ (Nat.le_of_ble_eq_true rfl) (by decide +kernel) (c_X10_entry F 36 (krX7_11 (krX4_1 (by decide +kernel : kdX 213 = 4))) a3 τ) (fun r3 τ4 => ?_)
      refine sm_seg C [(.aload_n 0, 0)] (pc' := 29) (L' := [(0, .ref 213), (1, .int a1), (2, .int a2), (3, .int a3)]) (S' := [.ref 213, .int r3]) (by decide +kernel) rfl ?_
      refine sm_getR 4 1 15 cls4 C (ltX (by decide +kernel : kdX 213 = 4) (by decide)) (by decide +kernel : kdX 213 = 4) (obX4 (by decide +kernel : kdX 213 = 4)) (by decide) (frX4_1 (by decide +kernel : kdX 213 = 4)) fl4_51 (by decide +kernel) ?_
      refine sm_getR 7 11 36 cls7 C (ltX (krX4_1 (by decide +kernel : kdX 213 = 4)) (by decide)) (krX4_1 (by decide +kernel : kdX 213 = 4)) (obX7 (krX4_1 (by decide +kernel : kdX 213 = 4))) (by decide) (frX7_11 (krX4_1 (by decide +kernel : kdX 213 = 4))) fl4_119 (by decide +kernel) ?_
      refine sm_seg C [(.iload_n 2, 0)] (pc' := 36) (L' := [(0, .ref 213), (1, .int a1), (2, .int a2), (3, .int a3)]) (S' := [.int a2, .ref 36, .int r3]) (by decide +kernel) rfl ?_
      refine sm_ncal "BasketEnvoys" [.ref 36, .int a2] [.int r3] rfl C mw_X10_entry ml_4_108 rfl ⟨by decide, by decide⟩ (Nat.le_of_ble_eq_true rfl) (by decide +kernel) (c_X10_entry F 36 (krX7_11 (krX4_1 (by decide +kernel : kdX 213 = 4))) a2 τ4) (fun r5 τ6 => ?_)
      refine sm_seg C [(.isub, 0), (.istore 4, 0), (.iload 4, 0)] (pc' := 44) (L' := [(4, .int (r3 - r5)), (0, .ref 213), (1, .int a1), (2, .int a2), (3, .int a3)]) (S' := [.int (r3 - r5)]) (by decide +kernel) rfl ?_
      refine sm_ifgt 77 (off := 33) C (by decide +kernel) (by decide) (fun _ => ?_) (fun _ => ?_)
      · exact sm_sub [1, 2, 4] rfl (s_X4_whatRowGets_j77 F C hr (X4_whatRowGets_L8 F n) ih a1 a3 τ6)
      · refine sm_seg C [(.iload 4, 0)] (pc' := 49) (L' := [(4, .int (r3 - r5)), (0, .ref 213), (1, .int a1), (2, .int a2), (3, .int a3)]) (S' := [.int (r3 - r5)]) (by decide +kernel) rfl ?_
        refine sm_ifne 79 (off := 30) C (by decide +kernel) (by decide) (fun _ => ?_) (fun _ => ?_)
        · refine sm_seg C [(.aload_n 0, 0)] (pc' := 53) (L' := [(4, .int (r3 - r5)), (0, .ref 213), (1, .int a1), (2, .int a2), (3, .int a3)]) (S' := [.ref 213]) (by decide +kernel) rfl ?_
          refine sm_getR 4 1 15 cls4 C (ltX (by decide +kernel : kdX 213 = 4) (by decide)) (by decide +kernel : kdX 213 = 4) (obX4 (by decide +kernel : kdX 213 = 4)) (by decide) (frX4_1 (by decide +kernel : kdX 213 = 4)) fl4_51 (by decide +kernel) ?_
          refine sm_getR 7 10 35 cls7 C (ltX (krX4_1 (by decide +kernel : kdX 213 = 4)) (by decide)) (krX4_1 (by decide +kernel : kdX 213 = 4)) (obX7 (krX4_1 (by decide +kernel : kdX 213 = 4))) (by decide) (frX7_10 (krX4_1 (by decide +kernel : kdX 213 = 4))) fl4_116 (by decide +kernel) ?_
          refine sm_seg C [(.iload_n 3, 0)] (pc' := 60) (L' := [(4, .int (r3 - r5)), (0, .ref 213), (1, .int a1), (2, .int a2), (3, .int a3)]) (S' := [.int a3, .ref 35]) (by decide +kernel) rfl ?_
          refine sm_ncal "BasketEnvoys" [.ref 35, .int a3] [] rfl C mw_X10_entry ml_4_108 rfl ⟨by decide, by decide⟩ (Nat.le_of_ble_eq_true rfl) (by decide +kernel) (c_X10_entry F 35 (krX7_10 (krX4_1 (by decide +kernel : kdX 213 = 4))) a3 τ6) (fun r7 τ8 => ?_)
          refine sm_seg C [(.aload_n 0, 0)] (pc' := 64) (L' := [(4, .int (r3 - r5)), (0, .ref 213), (1, .int a1), (2, .int a2), (3, .int a3)]) (S' := [.ref 213, .int r7]) (by decide +kernel) rfl ?_
          refine sm_getR 4 1 15 cls4 C (ltX (by decide +kernel : kdX 213 = 4) (by decide)) (by decide +kernel : kdX 213 = 4) (obX4 (by decide +kernel : kdX 213 = 4)) (by decide) (frX4_1 (by decide +kernel : kdX 213 = 4)) fl4_51 (by decide +kernel) ?_
          refine sm_getR 7 10 35 cls7 C (ltX (krX4_1 (by decide +kernel : kdX 213 = 4)) (by decide)) (krX4_1 (by decide +kernel : kdX 213 = 4)) (obX7 (krX4_1 (by decide +kernel : kdX 213 = 4))) (by decide) (frX7_10 (krX4_1 (by decide +kernel : kdX 213 = 4))) fl4_116 (by decide +kernel) ?_
          refine sm_seg C [(.iload_n 2, 0)] (pc' := 71) (L' := [(4, .int (r3 - r5)), (0, .ref 213), (1, .int a1), (2, .int a2), (3, .int a3)]) (S' := [.int a2, .ref 35, .int r7]) (by decide +kernel) rfl ?_
          refine sm_ncal "BasketEnvoys" [.ref 35, .int a2] [.int r7] rfl C mw_X10_entry ml_4_108 rfl ⟨by decide, by decide⟩ (Nat.le_of_ble_eq_true rfl) (by decide +kernel) (c_X10_entry F 35 (krX7_10 (krX4_1 (by decide +kernel : kdX 213 = 4))) a2 τ8) (fun r9 τ10 => ?_)
          refine sm_icmpge 79 (off := 5) C (by decide +kernel) (by decide) (fun _ => ?_) (fun _ => ?_)
          · exact sm_sub [1, 2, 3, 4] rfl (s_X4_whatRowGets_j79 F C hr (X4_whatRowGets_L8 F n) ih a1 a2 a3 τ10)
          · exact sm_sub [1, 2, 4] rfl (s_X4_whatRowGets_j77 F C hr (X4_whatRowGets_L8 F n) ih a1 a3 τ10)
        · exact sm_sub [1, 2, 3, 4] rfl (s_X4_whatRowGets_j79 F C hr (X4_whatRowGets_L8 F n) ih a1 a2 a3 τ6)
def X4_whatRowGets (F : Nat) (a1 : Int32) (τ : Tau) : Option (Int32 × Tau) :=
  X4_whatRowGets_L8 F F a1 (3 * a1) ((3 * a1) + 1) τ
set_option maxRecDepth 20000 in
set_option maxHeartbeats 4000000 in
theorem c_X4_whatRowGets (F : Nat) (a1 : Int32) (τ : Tau) (r : Int32) (τ' : Tau) (h : X4_whatRowGets F a1 τ = some (r, τ')) : MCi sysX yX4_whatRowGets cX4_whatRowGets 5 (some .int) 2 [.ref 213, .int a1] τ r τ' :=
  mci_of (by decide +kernel) (Nat.le_of_ble_eq_true rfl) (fun K C hr => by
    show Sm K sysX 5 (Qi K sysX) (X4_whatRowGets F a1 τ) 0 [(0, .ref 213), (1, .int a1)] [] τ
    unfold X4_whatRowGets
    refine sm_seg C [(.iconst 3, 3), (.iload_n 1, 0), (.imul, 0), (.istore_n 2, 0), (.iload_n 2, 0), (.iconst 1, 1), (.iadd, 0), (.istore_n 3, 0)] (pc' := 8) (L' := [(3, .int ((3 * a1) + 1)), (2, .int (3 * a1)), (0, .ref 213), (1, .int a1)]) (S' := []) (by decide +kernel) rfl ?_
    exact sm_sub [2, 3, 1, 0] rfl (s_X4_whatRowGets_L8 F C hr F a1 (3 * a1) ((3 * a1) + 1) τ)) h
/-! BasketEnvoys_Riddles.leads -/
def X4_leads_L5 (F : Nat) : Nat → Int32 → Int32 → Tau → Option (Int32 × Tau)
  | 0, _, _, _ => none
  | n + 1, a1, a2, τ =>
    if 3 ≤ a2 then (some (a1, τ)) else (cal (X4_whatRowGets F a2 τ) fun r1 τ2 => X4_leads_L5 F n (imax a1 r1) (a2 + 1) τ2)
theorem s_X4_leads_L5 (F : Nat) {K : Ctx} (C : Cx K sysX RX4 cX4_leads 3 3) (hr : Rt K (some .int)) : ∀ (n : Nat) (a1 : Int32) (a2 : Int32) (τ : Tau), Sm K sysX 3 (Qi K sysX) (X4_leads_L5 F n a1 a2 τ) 5 [(0, .ref 213), (1, .int a1), (2, .int a2)] [] τ := by
  intro n
  induction n with
  | zero => intro a1 a2 τ; exact sm_none
  | succ n ih =>
    intro a1 a2 τ
    rw [X4_leads_L5]
    refine sm_seg C [(.iload_n 2, 0), (.iconst 3, 3)] (pc' := 7) (L' := [(0, .ref 213), (1, .int a1), (2, .int a2)]) (S' := [.int 3, .int a2]) (by decide +kernel) rfl ?_
    refine sm_icmpge 26 (off := 19) C (by decide +kernel) (by decide) (fun _ => ?_) (fun _ => ?_)
    · refine sm_seg C [(.iload_n 1, 0)] (pc' := 27) (L' := [(0, .ref 213), (1, .int a1), (2, .int a2)]) (S' := [.int a1]) (by decide +kernel) rfl ?_
      exact sm_iret C hr rfl (by decide +kernel)
    · refine sm_seg C [(.iload_n 1, 0), (.aload_n 0, 0), (.iload_n 2, 0)] (pc' := 13) (L' := [(0, .ref 213), (1, .int a1), (2, .int a2)]) (S' := [.int a2, .ref 213, .int a1]) (by decide +kernel) rfl ?_
      refine sm_vcal [.int a2] [.int a1] rfl C mw_X4_whatRowGets ml_4_122 rfl (ci := 4) rfl (ltX (by decide +kernel : kdX 213 = 4) (by decide)) (by decide +kernel : kdX 213 = 4) (by decide) ⟨by decide, by decide⟩ (Nat.le_of_ble_eq_true rfl) (by decide +kernel) (c_X4_whatRowGets F a2 τ) (fun r1 τ2 => ?_)
      refine sm_max C (by decide) ml_4_125 jw_maxs jw_math jw_maxc (Nat.le_of_ble_eq_true rfl) (by decide +kernel) ?_
      refine sm_seg C [(.istore_n 1, 0), (.iinc 2 1, 1), (.goto (-18), 0)] (pc' := 5) (L' := [(2, .int (a2 + 1)), (1, .int (imax a1 r1)), (0, .ref 213)]) (S' := []) (by decide +kernel) rfl ?_
      exact sm_sub [2, 1, 0] rfl (ih (imax a1 r1) (a2 + 1) τ2)
def X4_leads (F : Nat) (τ : Tau) : Option (Int32 × Tau) :=
  X4_leads_L5 F F (-9) 0 τ
set_option maxRecDepth 20000 in
set_option maxHeartbeats 4000000 in
theorem c_X4_leads (F : Nat) (τ : Tau) (r : Int32) (τ' : Tau) (h : X4_leads F τ = some (r, τ')) : MCi sysX yX4_leads cX4_leads 3 (some .int) 3 [.ref 213] τ r τ' :=
  mci_of (by decide +kernel) (Nat.le_of_ble_eq_true rfl) (fun K C hr => by
    show Sm K sysX 3 (Qi K sysX) (X4_leads F τ) 0 [(0, .ref 213)] [] τ
    unfold X4_leads
    refine sm_seg C [(.bipush (-9), (-9)), (.istore_n 1, 0), (.iconst 0, 0), (.istore_n 2, 0)] (pc' := 5) (L' := [(2, .int 0), (1, .int (-9)), (0, .ref 213)]) (S' := []) (by decide +kernel) rfl ?_
    exact sm_sub [2, 1, 0] rfl (s_X4_leads_L5 F C hr F (-9) 0 τ)) h
/-! BasketEnvoys.tables -/
def X10_tables (F : Nat) (a1 : Int32) (τ : Tau) : Option (Int32 × Tau) :=
  if a1 = 0 then (cal (X4_restingCells F τ) fun r1 τ2 => some (r1, τ2)) else if a1 = 1 then (cal (X4_firstRest F τ) fun r3 τ4 => some (r3, τ4)) else if a1 = 2 then (cal (X4_leads F τ) fun r5 τ6 => some (r5, τ6)) else (some ((-100), τ))
set_option maxRecDepth 20000 in
set_option maxHeartbeats 4000000 in
theorem c_X10_tables (F : Nat) (a1 : Int32) (τ : Tau) (r : Int32) (τ' : Tau) (h : X10_tables F a1 τ = some (r, τ')) : MCi sysX yX10_tables cX10_tables 2 (some .int) 4 [.ref 0, .int a1] τ r τ' :=
  mci_of (by decide +kernel) (Nat.le_of_ble_eq_true rfl) (fun K C hr => by
    show Sm K sysX 2 (Qi K sysX) (X10_tables F a1 τ) 0 [(0, .ref 0), (1, .int a1)] [] τ
    unfold X10_tables
    refine sm_seg C [(.iload_n 1, 0)] (pc' := 1) (L' := [(0, .ref 0), (1, .int a1)]) (S' := [.int a1]) (by decide +kernel) rfl ?_
    have hd1 : decode cX10_tables 1 = .ok (.tableswitch 51 0 2 #[27, 35, 43], 27) := by decide +kernel
    refine sm_ite (fun e => ?_) (fun n1_0 => ?_)
    · refine sm_tabIn (off := 27) 28 C hd1 (by rw [e]; decide) (by rw [e]; decide) (by rw [e]; decide) (by decide) ?_
      refine sm_seg C [(.aload_n 0, 0)] (pc' := 29) (L' := [(0, .ref 0), (1, .int a1)]) (S' := [.ref 0]) (by decide +kernel) rfl ?_
      refine sm_getR 10 7 213 cls10 C (ltX (by decide +kernel : kdX 0 = 10) (by decide)) (by decide +kernel : kdX 0 = 10) (obX10 (by decide +kernel : kdX 0 = 10)) (by decide) (frX10_7 (by decide +kernel : kdX 0 = 10)) fl10_56 (by decide +kernel) ?_
      refine sm_vcal [] [] rfl C mw_X4_restingCells ml_10_298 rfl (ci := 4) rfl (ltX (krX10_7 (by decide +kernel : kdX 0 = 10)) (by decide)) (krX10_7 (by decide +kernel : kdX 0 = 10)) (by decide) ⟨by decide, by decide⟩ (Nat.le_of_ble_eq_true rfl) (by decide +kernel) (c_X4_restingCells F τ) (fun r1 τ2 => ?_)
      exact sm_iret C hr rfl (by decide +kernel)
    refine sm_ite (fun e => ?_) (fun n1_1 => ?_)
    · refine sm_tabIn (off := 35) 36 C hd1 (by rw [e]; decide) (by rw [e]; decide) (by rw [e]; decide) (by decide) ?_
      refine sm_seg C [(.aload_n 0, 0)] (pc' := 37) (L' := [(0, .ref 0), (1, .int a1)]) (S' := [.ref 0]) (by decide +kernel) rfl ?_
      refine sm_getR 10 7 213 cls10 C (ltX (by decide +kernel : kdX 0 = 10) (by decide)) (by decide +kernel : kdX 0 = 10) (obX10 (by decide +kernel : kdX 0 = 10)) (by decide) (frX10_7 (by decide +kernel : kdX 0 = 10)) fl10_56 (by decide +kernel) ?_
      refine sm_vcal [] [] rfl C mw_X4_firstRest ml_10_301 rfl (ci := 4) rfl (ltX (krX10_7 (by decide +kernel : kdX 0 = 10)) (by decide)) (krX10_7 (by decide +kernel : kdX 0 = 10)) (by decide) ⟨by decide, by decide⟩ (Nat.le_of_ble_eq_true rfl) (by decide +kernel) (c_X4_firstRest F τ) (fun r3 τ4 => ?_)
      exact sm_iret C hr rfl (by decide +kernel)
    refine sm_ite (fun e => ?_) (fun n1_2 => ?_)
    · refine sm_tabIn (off := 43) 44 C hd1 (by rw [e]; decide) (by rw [e]; decide) (by rw [e]; decide) (by decide) ?_
      refine sm_seg C [(.aload_n 0, 0)] (pc' := 45) (L' := [(0, .ref 0), (1, .int a1)]) (S' := [.ref 0]) (by decide +kernel) rfl ?_
      refine sm_getR 10 7 213 cls10 C (ltX (by decide +kernel : kdX 0 = 10) (by decide)) (by decide +kernel : kdX 0 = 10) (obX10 (by decide +kernel : kdX 0 = 10)) (by decide) (frX10_7 (by decide +kernel : kdX 0 = 10)) fl10_56 (by decide +kernel) ?_
      refine sm_vcal [] [] rfl C mw_X4_leads ml_10_304 rfl (ci := 4) rfl (ltX (krX10_7 (by decide +kernel : kdX 0 = 10)) (by decide)) (krX10_7 (by decide +kernel : kdX 0 = 10)) (by decide) ⟨by decide, by decide⟩ (Nat.le_of_ble_eq_true rfl) (by decide +kernel) (c_X4_leads F τ) (fun r5 τ6 => ?_)
      exact sm_iret C hr rfl (by decide +kernel)
    refine sm_tabOut 52 C hd1 (by have q0 := toInt_neZ (z := 0) n1_0 (by decide); have q1 := toInt_neZ (z := 1) n1_1 (by decide); have q2 := toInt_neZ (z := 2) n1_2 (by decide); omega) (by decide) ?_
    refine sm_seg C [(.bipush (-100), (-100))] (pc' := 54) (L' := [(0, .ref 0), (1, .int a1)]) (S' := [.int (-100)]) (by decide +kernel) rfl ?_
    exact sm_iret C hr rfl (by decide +kernel)) h
/-! BasketEnvoys_Tokens.clearFault -/
def X6_clearFault (F : Nat) (τ : Tau) : Option (Int32 × Tau) :=
  pst τ 197 1 0 fun τ1 => pst τ1 197 2 (-1) fun τ2 => some (0, τ2)
set_option maxRecDepth 20000 in
set_option maxHeartbeats 4000000 in
theorem c_X6_clearFault (F : Nat) (τ : Tau) (r : Int32) (τ' : Tau) (h : X6_clearFault F τ = some (r, τ')) : MCv sysX yX6_clearFault cX6_clearFault 1 1 [.ref 197] τ τ' :=
  mcv_of (by decide +kernel) (Nat.le_of_ble_eq_true rfl) (fun K C hr => by
    show Sm K sysX 1 (Qv K sysX) (X6_clearFault F τ) 0 [(0, .ref 197)] [] τ
    unfold X6_clearFault
    refine sm_seg C [(.aload_n 0, 0), (.iconst 0, 0)] (pc' := 2) (L' := [(0, .ref 197)]) (S' := [.int 0, .ref 197]) (by decide +kernel) rfl ?_
    refine sm_pst 6 1 cls6 C (ltX (by decide +kernel : kdX 197 = 6) (by decide)) (by decide +kernel : kdX 197 = 6) (obX6 (by decide +kernel : kdX 197 = 6)) (by decide) (fiX6_1 (by decide +kernel : kdX 197 = 6)) rfl rfl rfl fl6_15 (by decide +kernel) (fun τ1 => ?_)
    refine sm_seg C [(.aload_n 0, 0), (.iconst (-1), (-1))] (pc' := 7) (L' := [(0, .ref 197)]) (S' := [.int (-1), .ref 197]) (by decide +kernel) rfl ?_
    refine sm_pst 6 2 cls6 C (ltX (by decide +kernel : kdX 197 = 6) (by decide)) (by decide +kernel : kdX 197 = 6) (obX6 (by decide +kernel : kdX 197 = 6)) (by decide) (fiX6_2 (by decide +kernel : kdX 197 = 6)) rfl rfl rfl fl6_18 (by decide +kernel) (fun τ2 => ?_)
    exact sm_vret C hr (by decide +kernel)) h
/-! java/lang/String.isLatin1 -/
def X_String_isLatin1___Z (F : Nat) (s0 : Nat) (τ : Tau) : Option (Int32 × Tau) :=
  if (1 : Int32) = 0 then (some (0, τ)) else (if (0 : Int32) = 0 then (some (1, τ)) else (some (0, τ)))
set_option maxRecDepth 20000 in
set_option maxHeartbeats 4000000 in
theorem c_X_String_isLatin1___Z (F : Nat) (s0 : Nat) (h0 : s0 < 30) (τ : Tau) (r : Int32) (τ' : Tau) (h : X_String_isLatin1___Z F s0 τ = some (r, τ')) : MCi sysX ⟨"java/lang/String", "isLatin1", "()Z"⟩ prog_17_method_154_code 1 (some .boolean) 1 [.ref (100000 + s0)] τ r τ' :=
  mci_of (by decide +kernel) (Nat.le_of_ble_eq_true rfl) (fun K C hr => by
    show Sm K sysX 1 (Qi K sysX) (X_String_isLatin1___Z F s0 τ) 0 [(0, .ref (100000 + s0))] [] τ
    unfold X_String_isLatin1___Z
    refine sm_compact C fs_38 (by decide +kernel) ?_
    refine sm_ifeq 17 (off := 14) C (by decide +kernel) (by decide) (fun _ => ?_) (fun _ => ?_)
    · refine sm_seg C [(.iconst 0, 0)] (pc' := 18) (L' := [(0, .ref (100000 + s0))]) (S' := [.int 0]) (by decide +kernel) rfl ?_
      exact sm_iret C hr rfl (by decide +kernel)
    · refine sm_seg C [(.aload_n 0, 0)] (pc' := 7) (L' := [(0, .ref (100000 + s0))]) (S' := [.ref (100000 + s0)]) (by decide +kernel) rfl ?_
      refine sm_strC C h0 fs_15 (by decide +kernel) ?_
      refine sm_ifne 17 (off := 7) C (by decide +kernel) (by decide) (fun _ => ?_) (fun _ => ?_)
      · refine sm_seg C [(.iconst 1, 1), (.goto 4, 0)] (pc' := 18) (L' := [(0, .ref (100000 + s0))]) (S' := [.int 1]) (by decide +kernel) rfl ?_
        exact sm_iret C hr rfl (by decide +kernel)
      · refine sm_seg C [(.iconst 0, 0)] (pc' := 18) (L' := [(0, .ref (100000 + s0))]) (S' := [.int 0]) (by decide +kernel) rfl ?_
        exact sm_iret C hr rfl (by decide +kernel)) h
/-! java/lang/String.coder -/
def X_String_coder___B (F : Nat) (s0 : Nat) (τ : Tau) : Option (Int32 × Tau) :=
  if (1 : Int32) = 0 then (some (1, τ)) else (some ((0 : Int32), τ))
set_option maxRecDepth 20000 in
set_option maxHeartbeats 4000000 in
theorem c_X_String_coder___B (F : Nat) (s0 : Nat) (h0 : s0 < 30) (τ : Tau) (r : Int32) (τ' : Tau) (h : X_String_coder___B F s0 τ = some (r, τ')) : MCi sysX ⟨"java/lang/String", "coder", "()B"⟩ prog_17_method_152_code 1 (some .byte) 1 [.ref (100000 + s0)] τ r τ' :=
  mci_of (by decide +kernel) (Nat.le_of_ble_eq_true rfl) (fun K C hr => by
    show Sm K sysX 1 (Qi K sysX) (X_String_coder___B F s0 τ) 0 [(0, .ref (100000 + s0))] [] τ
    unfold X_String_coder___B
    refine sm_compact C fs_38 (by decide +kernel) ?_
    refine sm_ifeq 13 (off := 10) C (by decide +kernel) (by decide) (fun _ => ?_) (fun _ => ?_)
    · refine sm_seg C [(.iconst 1, 1)] (pc' := 14) (L' := [(0, .ref (100000 + s0))]) (S' := [.int 1]) (by decide +kernel) rfl ?_
      exact sm_iret C hr rfl (by decide +kernel)
    · refine sm_seg C [(.aload_n 0, 0)] (pc' := 7) (L' := [(0, .ref (100000 + s0))]) (S' := [.ref (100000 + s0)]) (by decide +kernel) rfl ?_
      refine sm_strC C h0 fs_15 (by decide +kernel) ?_
      refine sm_seg C [(.goto 4, 0)] (pc' := 14) (L' := [(0, .ref (100000 + s0))]) (S' := [.int (0 : Int32)]) (by decide +kernel) rfl ?_
      exact sm_iret C hr rfl (by decide +kernel)) h
/-! java/lang/String.length -/
def X_String_length___I (F : Nat) (s0 : Nat) (τ : Tau) : Option (Int32 × Tau) :=
  cal (X_String_coder___B F s0 τ) fun r1 τ2 => some ((shr (Int32.ofNat (sL s0)) r1), τ2)
set_option maxRecDepth 20000 in
set_option maxHeartbeats 4000000 in
theorem c_X_String_length___I (F : Nat) (s0 : Nat) (h0 : s0 < 30) (τ : Tau) (r : Int32) (τ' : Tau) (h : X_String_length___I F s0 τ = some (r, τ')) : MCi sysX ⟨"java/lang/String", "length", "()I"⟩ prog_17_method_54_code 1 (some .int) 2 [.ref (100000 + s0)] τ r τ' :=
  mci_of (by decide +kernel) (Nat.le_of_ble_eq_true rfl) (fun K C hr => by
    show Sm K sysX 1 (Qi K sysX) (X_String_length___I F s0 τ) 0 [(0, .ref (100000 + s0))] [] τ
    unfold X_String_length___I
    refine sm_seg C [(.aload_n 0, 0)] (pc' := 1) (L' := [(0, .ref (100000 + s0))]) (S' := [.ref (100000 + s0)]) (by decide +kernel) rfl ?_
    refine sm_strV C h0 fs_9 (by decide +kernel) ?_
    refine sm_blen C h0 (by decide +kernel) ?_
    refine sm_seg C [(.aload_n 0, 0)] (pc' := 6) (L' := [(0, .ref (100000 + s0))]) (S' := [.ref (100000 + s0), .int (Int32.ofNat (sL s0))]) (by decide +kernel) rfl ?_
    refine sm_vstr [] [.int (Int32.ofNat (sL s0))] rfl C h0 mw_String_coder___B rfl ml_String_335 rfl ⟨by decide, by decide⟩ (Nat.le_of_ble_eq_true rfl) (by decide +kernel) (c_X_String_coder___B F s0 h0 τ) (fun r1 τ2 => ?_)
    refine sm_seg C [(.ishr, 0)] (pc' := 10) (L' := [(0, .ref (100000 + s0))]) (S' := [.int (shr (Int32.ofNat (sL s0)) r1)]) (by decide +kernel) rfl ?_
    exact sm_iret C hr rfl (by decide +kernel)) h
/-! java/lang/StringLatin1.canEncode -/
def X_StringLatin1_canEncode__I_Z (F : Nat) (a0 : Int32) (τ : Tau) : Option (Int32 × Tau) :=
  if a0 < 0 then (some (0, τ)) else (if 255 < a0 then (some (0, τ)) else (some (1, τ)))
set_option maxRecDepth 20000 in
set_option maxHeartbeats 4000000 in
theorem c_X_StringLatin1_canEncode__I_Z (F : Nat) (a0 : Int32) (τ : Tau) (r : Int32) (τ' : Tau) (h : X_StringLatin1_canEncode__I_Z F a0 τ = some (r, τ')) : MCi sysX ⟨"java/lang/StringLatin1", "canEncode", "(I)Z"⟩ prog_18_method_4_code 1 (some .boolean) 1 [.int a0] τ r τ' :=
  mci_of (by decide +kernel) (Nat.le_of_ble_eq_true rfl) (fun K C hr => by
    show Sm K sysX 1 (Qi K sysX) (X_StringLatin1_canEncode__I_Z F a0 τ) 0 [(0, .int a0)] [] τ
    unfold X_StringLatin1_canEncode__I_Z
    refine sm_seg C [(.iload_n 0, 0)] (pc' := 1) (L' := [(0, .int a0)]) (S' := [.int a0]) (by decide +kernel) rfl ?_
    refine sm_iflt 15 (off := 14) C (by decide +kernel) (by decide) (fun _ => ?_) (fun _ => ?_)
    · refine sm_seg C [(.iconst 0, 0)] (pc' := 16) (L' := [(0, .int a0)]) (S' := [.int 0]) (by decide +kernel) rfl ?_
      exact sm_iret C hr rfl (by decide +kernel)
    · refine sm_seg C [(.iload_n 0, 0), (.sipush 255, 255)] (pc' := 8) (L' := [(0, .int a0)]) (S' := [.int 255, .int a0]) (by decide +kernel) rfl ?_
      refine sm_icmpgt 15 (off := 7) C (by decide +kernel) (by decide) (fun _ => ?_) (fun _ => ?_)
      · refine sm_seg C [(.iconst 0, 0)] (pc' := 16) (L' := [(0, .int a0)]) (S' := [.int 0]) (by decide +kernel) rfl ?_
        exact sm_iret C hr rfl (by decide +kernel)
      · refine sm_seg C [(.iconst 1, 1), (.goto 4, 0)] (pc' := 16) (L' := [(0, .int a0)]) (S' := [.int 1]) (by decide +kernel) rfl ?_
        exact sm_iret C hr rfl (by decide +kernel)) h
/-! java/lang/StringLatin1.indexOfChar -/
def X_StringLatin1_indexOfChar___BIII_I_L7 (F : Nat) (s0 : Nat) : Nat → Int32 → Int32 → Int32 → Tau → Option (Int32 × Tau)
  | 0, _, _, _, _ => none
  | n + 1, a3, a4, a5, τ =>
    if a3 ≤ a5 then (some ((-1), τ)) else (gd a5 (sL s0) (if (sC s0 (ix a5)) = a4 then (some (a5, τ)) else (X_StringLatin1_indexOfChar___BIII_I_L7 F s0 n a3 a4 (a5 + 1) τ)))
theorem s_X_StringLatin1_indexOfChar___BIII_I_L7 (F : Nat) (s0 : Nat) {K : Ctx} (C : Cx K sysX "java/lang/StringLatin1" prog_18_method_23_code 6 1) (hr : Rt K (some .int)) (h0 : s0 < 30) : ∀ (n : Nat) (a3 : Int32) (a4 : Int32) (a5 : Int32) (τ : Tau), Sm K sysX 6 (Qi K sysX) (X_StringLatin1_indexOfChar___BIII_I_L7 F s0 n a3 a4 a5 τ) 7 [(0, .ref (200000 + s0)), (3, .int a3), (4, .int a4), (5, .int a5)] [] τ := by
  intro n
  induction n with
  | zero => intro a3 a4 a5 τ; exact sm_none
  | succ n ih =>
    intro a3 a4 a5 τ
    rw [X_StringLatin1_indexOfChar___BIII_I_L7]
    refine sm_seg C [(.iload 5, 0), (.iload_n 3, 0)] (pc' := 10) (L' := [(0, .ref (200000 + s0)), (3, .int a3), (4, .int a4), (5, .int a5)]) (S' := [.int a3, .int a5]) (by decide +kernel) rfl ?_
    refine sm_icmpge 31 (off := 21) C (by decide +kernel) (by decide) (fun _ => ?_) (fun _ => ?_)
    · refine sm_seg C [(.iconst (-1), (-1))] (pc' := 32) (L' := [(0, .ref (200000 + s0)), (3, .int a3), (4, .int a4), (5, .int a5)]) (S' := [.int (-1)]) (by decide +kernel) rfl ?_
      exact sm_iret C hr rfl (by decide +kernel)
    · refine sm_seg C [(.aload_n 0, 0), (.iload 5, 0)] (pc' := 16) (L' := [(0, .ref (200000 + s0)), (3, .int a3), (4, .int a4), (5, .int a5)]) (S' := [.int a5, .ref (200000 + s0)]) (by decide +kernel) rfl ?_
      refine sm_bald C h0 (by decide +kernel) ?_
      refine sm_seg C [(.iload 4, 0)] (pc' := 19) (L' := [(0, .ref (200000 + s0)), (3, .int a3), (4, .int a4), (5, .int a5)]) (S' := [.int a4, .int (sC s0 (ix a5))]) (by decide +kernel) rfl ?_
      refine sm_icmpne 25 (off := 6) C (by decide +kernel) (by decide) (fun _ => ?_) (fun _ => ?_)
      · refine sm_seg C [(.iload 5, 0)] (pc' := 24) (L' := [(0, .ref (200000 + s0)), (3, .int a3), (4, .int a4), (5, .int a5)]) (S' := [.int a5]) (by decide +kernel) rfl ?_
        exact sm_iret C hr rfl (by decide +kernel)
      · refine sm_seg C [(.iinc 5 1, 1), (.goto (-21), 0)] (pc' := 7) (L' := [(5, .int (a5 + 1)), (0, .ref (200000 + s0)), (3, .int a3), (4, .int a4)]) (S' := []) (by decide +kernel) rfl ?_
        exact sm_sub [1, 2, 3, 0] rfl (ih a3 a4 (a5 + 1) τ)
def X_StringLatin1_indexOfChar___BIII_I (F : Nat) (s0 : Nat) (a1 : Int32) (a2 : Int32) (a3 : Int32) (τ : Tau) : Option (Int32 × Tau) :=
  X_StringLatin1_indexOfChar___BIII_I_L7 F s0 F a3 (a1.toInt8.toInt32) a2 τ
set_option maxRecDepth 20000 in
set_option maxHeartbeats 4000000 in
theorem c_X_StringLatin1_indexOfChar___BIII_I (F : Nat) (s0 : Nat) (h0 : s0 < 30) (a1 : Int32) (a2 : Int32) (a3 : Int32) (τ : Tau) (r : Int32) (τ' : Tau) (h : X_StringLatin1_indexOfChar___BIII_I F s0 a1 a2 a3 τ = some (r, τ')) : MCi sysX ⟨"java/lang/StringLatin1", "indexOfChar", "([BIII)I"⟩ prog_18_method_23_code 6 (some .int) 1 [.ref (200000 + s0), .int a1, .int a2, .int a3] τ r τ' :=
  mci_of (by decide +kernel) (Nat.le_of_ble_eq_true rfl) (fun K C hr => by
    show Sm K sysX 6 (Qi K sysX) (X_StringLatin1_indexOfChar___BIII_I F s0 a1 a2 a3 τ) 0 [(0, .ref (200000 + s0)), (1, .int a1), (2, .int a2), (3, .int a3)] [] τ
    unfold X_StringLatin1_indexOfChar___BIII_I
    refine sm_seg C [(.iload_n 1, 0)] (pc' := 1) (L' := [(0, .ref (200000 + s0)), (1, .int a1), (2, .int a2), (3, .int a3)]) (S' := [.int a1]) (by decide +kernel) rfl ?_
    refine sm_i2b C (by decide +kernel) ?_
    refine sm_seg C [(.istore 4, 0), (.iload_n 2, 0), (.istore 5, 0)] (pc' := 7) (L' := [(5, .int a2), (4, .int (a1.toInt8.toInt32)), (0, .ref (200000 + s0)), (1, .int a1), (2, .int a2), (3, .int a3)]) (S' := []) (by decide +kernel) rfl ?_
    exact sm_sub [2, 5, 1, 0] rfl (s_X_StringLatin1_indexOfChar___BIII_I_L7 F s0 C hr h0 F a3 (a1.toInt8.toInt32) a2 τ)) h
/-! java/lang/StringLatin1.indexOf -/
def X_StringLatin1_indexOf___BIII_I (F : Nat) (s0 : Nat) (a1 : Int32) (a2 : Int32) (a3 : Int32) (τ : Tau) : Option (Int32 × Tau) :=
  cal (X_StringLatin1_canEncode__I_Z F a1 τ) fun r1 τ2 => if r1 = 0 then (some ((-1), τ2)) else (if (imax a2 0) < (imin a3 (Int32.ofNat (sL s0))) then (cal (X_StringLatin1_indexOfChar___BIII_I F s0 a1 (imax a2 0) (imin a3 (Int32.ofNat (sL s0))) τ2) fun r3 τ4 => some (r3, τ4)) else (some ((-1), τ2)))
set_option maxRecDepth 20000 in
set_option maxHeartbeats 4000000 in
theorem c_X_StringLatin1_indexOf___BIII_I (F : Nat) (s0 : Nat) (h0 : s0 < 30) (a1 : Int32) (a2 : Int32) (a3 : Int32) (τ : Tau) (r : Int32) (τ' : Tau) (h : X_StringLatin1_indexOf___BIII_I F s0 a1 a2 a3 τ = some (r, τ')) : MCi sysX ⟨"java/lang/StringLatin1", "indexOf", "([BIII)I"⟩ prog_18_method_22_code 4 (some .int) 2 [.ref (200000 + s0), .int a1, .int a2, .int a3] τ r τ' :=
  mci_of (by decide +kernel) (Nat.le_of_ble_eq_true rfl) (fun K C hr => by
    show Sm K sysX 4 (Qi K sysX) (X_StringLatin1_indexOf___BIII_I F s0 a1 a2 a3 τ) 0 [(0, .ref (200000 + s0)), (1, .int a1), (2, .int a2), (3, .int a3)] [] τ
    unfold X_StringLatin1_indexOf___BIII_I
    refine sm_seg C [(.iload_n 1, 0)] (pc' := 1) (L' := [(0, .ref (200000 + s0)), (1, .int a1), (2, .int a2), (3, .int a3)]) (S' := [.int a1]) (by decide +kernel) rfl ?_
    refine sm_scal [.int a1] [] rfl C mw_StringLatin1_canEncode__I_Z ml_StringLatin1_88 rfl ⟨by decide, by decide⟩ (Nat.le_of_ble_eq_true rfl) (by decide +kernel) (c_X_StringLatin1_canEncode__I_Z F a1 τ) (fun r1 τ2 => ?_)
    refine sm_ifne 9 (off := 5) C (by decide +kernel) (by decide) (fun _ => ?_) (fun _ => ?_)
    · refine sm_seg C [(.iconst (-1), (-1))] (pc' := 8) (L' := [(0, .ref (200000 + s0)), (1, .int a1), (2, .int a2), (3, .int a3)]) (S' := [.int (-1)]) (by decide +kernel) rfl ?_
      exact sm_iret C hr rfl (by decide +kernel)
    · refine sm_seg C [(.iload_n 2, 0), (.iconst 0, 0)] (pc' := 11) (L' := [(0, .ref (200000 + s0)), (1, .int a1), (2, .int a2), (3, .int a3)]) (S' := [.int 0, .int a2]) (by decide +kernel) rfl ?_
      refine sm_max C (by decide) ml_StringLatin1_92 jw_maxs jw_math jw_maxc (Nat.le_of_ble_eq_true rfl) (by decide +kernel) ?_
      refine sm_seg C [(.istore_n 2, 0), (.iload_n 3, 0), (.aload_n 0, 0)] (pc' := 17) (L' := [(2, .int (imax a2 0)), (0, .ref (200000 + s0)), (1, .int a1), (3, .int a3)]) (S' := [.ref (200000 + s0), .int a3]) (by decide +kernel) rfl ?_
      refine sm_blen C h0 (by decide +kernel) ?_
      refine sm_min C (by decide) ml_StringLatin1_38 jw_mins jw_math jw_minc (Nat.le_of_ble_eq_true rfl) (by decide +kernel) ?_
      refine sm_seg C [(.istore_n 3, 0), (.iload_n 2, 0), (.iload_n 3, 0)] (pc' := 24) (L' := [(3, .int (imin a3 (Int32.ofNat (sL s0)))), (2, .int (imax a2 0)), (0, .ref (200000 + s0)), (1, .int a1)]) (S' := [.int (imin a3 (Int32.ofNat (sL s0))), .int (imax a2 0)]) (by decide +kernel) rfl ?_
      refine sm_icmplt 29 (off := 5) C (by decide +kernel) (by decide) (fun _ => ?_) (fun _ => ?_)
      · refine sm_seg C [(.aload_n 0, 0), (.iload_n 1, 0), (.iload_n 2, 0), (.iload_n 3, 0)] (pc' := 33) (L' := [(3, .int (imin a3 (Int32.ofNat (sL s0)))), (2, .int (imax a2 0)), (0, .ref (200000 + s0)), (1, .int a1)]) (S' := [.int (imin a3 (Int32.ofNat (sL s0))), .int (imax a2 0), .int a1, .ref (200000 + s0)]) (by decide +kernel) rfl ?_
        refine sm_scal [.ref (200000 + s0), .int a1, .int (imax a2 0), .int (imin a3 (Int32.ofNat (sL s0)))] [] rfl C mw_StringLatin1_indexOfChar___BIII_I ml_StringLatin1_95 rfl ⟨by decide, by decide⟩ (Nat.le_of_ble_eq_true rfl) (by decide +kernel) (c_X_StringLatin1_indexOfChar___BIII_I F s0 h0 a1 (imax a2 0) (imin a3 (Int32.ofNat (sL s0))) τ2) (fun r3 τ4 => ?_)
        exact sm_iret C hr rfl (by decide +kernel)
      · refine sm_seg C [(.iconst (-1), (-1))] (pc' := 28) (L' := [(3, .int (imin a3 (Int32.ofNat (sL s0)))), (2, .int (imax a2 0)), (0, .ref (200000 + s0)), (1, .int a1)]) (S' := [.int (-1)]) (by decide +kernel) rfl ?_
        exact sm_iret C hr rfl (by decide +kernel)) h
/-! java/lang/String.indexOf -/
def X_String_indexOf__II_I (F : Nat) (s0 : Nat) (a1 : Int32) (a2 : Int32) (τ : Tau) : Option (Int32 × Tau) :=
  cal (X_String_isLatin1___Z F s0 τ) fun r1 τ2 => if r1 = 0 then (cal (X_String_length___I F s0 τ2) fun r3 τ4 => none) else (cal (X_String_length___I F s0 τ2) fun r7 τ8 => cal (X_StringLatin1_indexOf___BIII_I F s0 a1 a2 r7 τ8) fun r9 τ10 => some (r9, τ10))
set_option maxRecDepth 20000 in
set_option maxHeartbeats 4000000 in
theorem c_X_String_indexOf__II_I (F : Nat) (s0 : Nat) (h0 : s0 < 30) (a1 : Int32) (a2 : Int32) (τ : Tau) (r : Int32) (τ' : Tau) (h : X_String_indexOf__II_I F s0 a1 a2 τ = some (r, τ')) : MCi sysX ⟨"java/lang/String", "indexOf", "(II)I"⟩ prog_17_method_80_code 3 (some .int) 3 [.ref (100000 + s0), .int a1, .int a2] τ r τ' :=
  mci_of (by decide +kernel) (Nat.le_of_ble_eq_true rfl) (fun K C hr => by
    show Sm K sysX 3 (Qi K sysX) (X_String_indexOf__II_I F s0 a1 a2 τ) 0 [(0, .ref (100000 + s0)), (1, .int a1), (2, .int a2)] [] τ
    unfold X_String_indexOf__II_I
    refine sm_seg C [(.aload_n 0, 0)] (pc' := 1) (L' := [(0, .ref (100000 + s0)), (1, .int a1), (2, .int a2)]) (S' := [.ref (100000 + s0)]) (by decide +kernel) rfl ?_
    refine sm_vstr [] [] rfl C h0 mw_String_isLatin1___Z rfl ml_String_492 rfl ⟨by decide, by decide⟩ (Nat.le_of_ble_eq_true rfl) (by decide +kernel) (c_X_String_isLatin1___Z F s0 h0 τ) (fun r1 τ2 => ?_)
    refine sm_ifeq 23 (off := 19) C (by decide +kernel) (by decide) (fun _ => ?_) (fun _ => ?_)
    · refine sm_seg C [(.aload_n 0, 0)] (pc' := 24) (L' := [(0, .ref (100000 + s0)), (1, .int a1), (2, .int a2)]) (S' := [.ref (100000 + s0)]) (by decide +kernel) rfl ?_
      refine sm_strV C h0 fs_9 (by decide +kernel) ?_
      refine sm_seg C [(.iload_n 1, 0), (.iload_n 2, 0), (.aload_n 0, 0)] (pc' := 30) (L' := [(0, .ref (100000 + s0)), (1, .int a1), (2, .int a2)]) (S' := [.ref (100000 + s0), .int a2, .int a1, .ref (200000 + s0)]) (by decide +kernel) rfl ?_
      refine sm_vstr [] [.int a2, .int a1, .ref (200000 + s0)] rfl C h0 mw_String_length___I rfl ml_String_505 rfl ⟨by decide, by decide⟩ (Nat.le_of_ble_eq_true rfl) (by decide +kernel) (c_X_String_length___I F s0 h0 τ2) (fun r3 τ4 => ?_)
      exact sm_none
    · refine sm_seg C [(.aload_n 0, 0)] (pc' := 8) (L' := [(0, .ref (100000 + s0)), (1, .int a1), (2, .int a2)]) (S' := [.ref (100000 + s0)]) (by decide +kernel) rfl ?_
      refine sm_strV C h0 fs_9 (by decide +kernel) ?_
      refine sm_seg C [(.iload_n 1, 0), (.iload_n 2, 0), (.aload_n 0, 0)] (pc' := 14) (L' := [(0, .ref (100000 + s0)), (1, .int a1), (2, .int a2)]) (S' := [.ref (100000 + s0), .int a2, .int a1, .ref (200000 + s0)]) (by decide +kernel) rfl ?_
      refine sm_vstr [] [.int a2, .int a1, .ref (200000 + s0)] rfl C h0 mw_String_length___I rfl ml_String_505 rfl ⟨by decide, by decide⟩ (Nat.le_of_ble_eq_true rfl) (by decide +kernel) (c_X_String_length___I F s0 h0 τ2) (fun r7 τ8 => ?_)
      refine sm_scal [.ref (200000 + s0), .int a1, .int a2, .int r7] [] rfl C mw_StringLatin1_indexOf___BIII_I ml_String_637 rfl ⟨by decide, by decide⟩ (Nat.le_of_ble_eq_true rfl) (by decide +kernel) (c_X_StringLatin1_indexOf___BIII_I F s0 h0 a1 a2 r7 τ8) (fun r9 τ10 => ?_)
      refine sm_seg C [(.goto 16, 0)] (pc' := 36) (L' := [(0, .ref (100000 + s0)), (1, .int a1), (2, .int a2)]) (S' := [.int r9]) (by decide +kernel) rfl ?_
      exact sm_iret C hr rfl (by decide +kernel)) h
/-! java/lang/String.indexOf -/
def X_String_indexOf__I_I (F : Nat) (s0 : Nat) (a1 : Int32) (τ : Tau) : Option (Int32 × Tau) :=
  cal (X_String_indexOf__II_I F s0 a1 0 τ) fun r1 τ2 => some (r1, τ2)
set_option maxRecDepth 20000 in
set_option maxHeartbeats 4000000 in
theorem c_X_String_indexOf__I_I (F : Nat) (s0 : Nat) (h0 : s0 < 30) (a1 : Int32) (τ : Tau) (r : Int32) (τ' : Tau) (h : X_String_indexOf__I_I F s0 a1 τ = some (r, τ')) : MCi sysX ⟨"java/lang/String", "indexOf", "(I)I"⟩ prog_17_method_79_code 2 (some .int) 4 [.ref (100000 + s0), .int a1] τ r τ' :=
  mci_of (by decide +kernel) (Nat.le_of_ble_eq_true rfl) (fun K C hr => by
    show Sm K sysX 2 (Qi K sysX) (X_String_indexOf__I_I F s0 a1 τ) 0 [(0, .ref (100000 + s0)), (1, .int a1)] [] τ
    unfold X_String_indexOf__I_I
    refine sm_seg C [(.aload_n 0, 0), (.iload_n 1, 0), (.iconst 0, 0)] (pc' := 3) (L' := [(0, .ref (100000 + s0)), (1, .int a1)]) (S' := [.int 0, .int a1, .ref (100000 + s0)]) (by decide +kernel) rfl ?_
    refine sm_vstr [.int a1, .int 0] [] rfl C h0 mw_String_indexOf__II_I rfl ml_String_633 rfl ⟨by decide, by decide⟩ (Nat.le_of_ble_eq_true rfl) (by decide +kernel) (c_X_String_indexOf__II_I F s0 h0 a1 0 τ) (fun r1 τ2 => ?_)
    exact sm_iret C hr rfl (by decide +kernel)) h
/-! BasketEnvoys_Tokens.kindOf -/
def X6_kindOf_j54 (F : Nat) (a0 : Int32) (τ : Tau) : Option (Int32 × Tau) :=
  cal (X_String_indexOf__I_I F 1 a0 τ) fun r1 τ2 => if r1 < 0 then (some (4, τ2)) else (some (3, τ2))
theorem s_X6_kindOf_j54 (F : Nat) {K : Ctx} (C : Cx K sysX RX6 cX6_kindOf 1 5) (hr : Rt K (some .int)) (a0 : Int32) (τ : Tau) : Sm K sysX 1 (Qi K sysX) (X6_kindOf_j54 F a0 τ) 54 [(0, .int a0)] [] τ := by
  unfold X6_kindOf_j54
  refine sm_ldcS C st_1 (by decide +kernel) ?_
  refine sm_seg C [(.iload_n 0, 0)] (pc' := 57) (L' := [(0, .int a0)]) (S' := [.int a0, .ref (100000 + 1)]) (by decide +kernel) rfl ?_
  refine sm_vstr [.int a0] [] rfl C (by decide : 1 < 30) mw_String_indexOf__I_I rfl ml_6_73 rfl ⟨by decide, by decide⟩ (Nat.le_of_ble_eq_true rfl) (by decide +kernel) (c_X_String_indexOf__I_I F 1 (by decide : 1 < 30) a0 τ) (fun r1 τ2 => ?_)
  refine sm_iflt 67 (off := 7) C (by decide +kernel) (by decide) (fun _ => ?_) (fun _ => ?_)
  · refine sm_seg C [(.iconst 4, 4)] (pc' := 68) (L' := [(0, .int a0)]) (S' := [.int 4]) (by decide +kernel) rfl ?_
    exact sm_iret C hr rfl (by decide +kernel)
  · refine sm_seg C [(.iconst 3, 3), (.goto 4, 0)] (pc' := 68) (L' := [(0, .int a0)]) (S' := [.int 3]) (by decide +kernel) rfl ?_
    exact sm_iret C hr rfl (by decide +kernel)
def X6_kindOf_j40 (F : Nat) (a0 : Int32) (τ : Tau) : Option (Int32 × Tau) :=
  if a0 < 48 then (X6_kindOf_j54 F a0 τ) else (if 57 < a0 then (X6_kindOf_j54 F a0 τ) else (some (2, τ)))
theorem s_X6_kindOf_j40 (F : Nat) {K : Ctx} (C : Cx K sysX RX6 cX6_kindOf 1 5) (hr : Rt K (some .int)) (a0 : Int32) (τ : Tau) : Sm K sysX 1 (Qi K sysX) (X6_kindOf_j40 F a0 τ) 40 [(0, .int a0)] [] τ := by
  unfold X6_kindOf_j40
  refine sm_seg C [(.iload_n 0, 0), (.bipush 48, 48)] (pc' := 43) (L' := [(0, .int a0)]) (S' := [.int 48, .int a0]) (by decide +kernel) rfl ?_
  refine sm_icmplt 54 (off := 11) C (by decide +kernel) (by decide) (fun _ => ?_) (fun _ => ?_)
  · exact sm_sub [0] rfl (s_X6_kindOf_j54 F C hr a0 τ)
  · refine sm_seg C [(.iload_n 0, 0), (.bipush 57, 57)] (pc' := 49) (L' := [(0, .int a0)]) (S' := [.int 57, .int a0]) (by decide +kernel) rfl ?_
    refine sm_icmpgt 54 (off := 5) C (by decide +kernel) (by decide) (fun _ => ?_) (fun _ => ?_)
    · exact sm_sub [0] rfl (s_X6_kindOf_j54 F C hr a0 τ)
    · refine sm_seg C [(.iconst 2, 2)] (pc' := 53) (L' := [(0, .int a0)]) (S' := [.int 2]) (by decide +kernel) rfl ?_
      exact sm_iret C hr rfl (by decide +kernel)
def X6_kindOf_j26 (F : Nat) (a0 : Int32) (τ : Tau) : Option (Int32 × Tau) :=
  if a0 < 65 then (X6_kindOf_j40 F a0 τ) else (if 90 < a0 then (X6_kindOf_j40 F a0 τ) else (some (1, τ)))
theorem s_X6_kindOf_j26 (F : Nat) {K : Ctx} (C : Cx K sysX RX6 cX6_kindOf 1 5) (hr : Rt K (some .int)) (a0 : Int32) (τ : Tau) : Sm K sysX 1 (Qi K sysX) (X6_kindOf_j26 F a0 τ) 26 [(0, .int a0)] [] τ := by
  unfold X6_kindOf_j26
  refine sm_seg C [(.iload_n 0, 0), (.bipush 65, 65)] (pc' := 29) (L' := [(0, .int a0)]) (S' := [.int 65, .int a0]) (by decide +kernel) rfl ?_
  refine sm_icmplt 40 (off := 11) C (by decide +kernel) (by decide) (fun _ => ?_) (fun _ => ?_)
  · exact sm_sub [0] rfl (s_X6_kindOf_j40 F C hr a0 τ)
  · refine sm_seg C [(.iload_n 0, 0), (.bipush 90, 90)] (pc' := 35) (L' := [(0, .int a0)]) (S' := [.int 90, .int a0]) (by decide +kernel) rfl ?_
    refine sm_icmpgt 40 (off := 5) C (by decide +kernel) (by decide) (fun _ => ?_) (fun _ => ?_)
    · exact sm_sub [0] rfl (s_X6_kindOf_j40 F C hr a0 τ)
    · refine sm_seg C [(.iconst 1, 1)] (pc' := 39) (L' := [(0, .int a0)]) (S' := [.int 1]) (by decide +kernel) rfl ?_
      exact sm_iret C hr rfl (by decide +kernel)
def X6_kindOf (F : Nat) (a0 : Int32) (τ : Tau) : Option (Int32 × Tau) :=
  if a0 = 32 then (some (0, τ)) else (if a0 = 10 then (some (0, τ)) else (if a0 < 97 then (X6_kindOf_j26 F a0 τ) else (if a0 ≤ 122 then (some (1, τ)) else (X6_kindOf_j26 F a0 τ))))
set_option maxRecDepth 20000 in
set_option maxHeartbeats 4000000 in
theorem c_X6_kindOf (F : Nat) (a0 : Int32) (τ : Tau) (r : Int32) (τ' : Tau) (h : X6_kindOf F a0 τ = some (r, τ')) : MCi sysX yX6_kindOf cX6_kindOf 1 (some .int) 5 [.int a0] τ r τ' :=
  mci_of (by decide +kernel) (Nat.le_of_ble_eq_true rfl) (fun K C hr => by
    show Sm K sysX 1 (Qi K sysX) (X6_kindOf F a0 τ) 0 [(0, .int a0)] [] τ
    unfold X6_kindOf
    refine sm_seg C [(.iload_n 0, 0), (.bipush 32, 32)] (pc' := 3) (L' := [(0, .int a0)]) (S' := [.int 32, .int a0]) (by decide +kernel) rfl ?_
    refine sm_icmpeq 12 (off := 9) C (by decide +kernel) (by decide) (fun _ => ?_) (fun _ => ?_)
    · refine sm_seg C [(.iconst 0, 0)] (pc' := 13) (L' := [(0, .int a0)]) (S' := [.int 0]) (by decide +kernel) rfl ?_
      exact sm_iret C hr rfl (by decide +kernel)
    · refine sm_seg C [(.iload_n 0, 0), (.bipush 10, 10)] (pc' := 9) (L' := [(0, .int a0)]) (S' := [.int 10, .int a0]) (by decide +kernel) rfl ?_
      refine sm_icmpne 14 (off := 5) C (by decide +kernel) (by decide) (fun _ => ?_) (fun _ => ?_)
      · refine sm_seg C [(.iconst 0, 0)] (pc' := 13) (L' := [(0, .int a0)]) (S' := [.int 0]) (by decide +kernel) rfl ?_
        exact sm_iret C hr rfl (by decide +kernel)
      · refine sm_seg C [(.iload_n 0, 0), (.bipush 97, 97)] (pc' := 17) (L' := [(0, .int a0)]) (S' := [.int 97, .int a0]) (by decide +kernel) rfl ?_
        refine sm_icmplt 26 (off := 9) C (by decide +kernel) (by decide) (fun _ => ?_) (fun _ => ?_)
        · exact sm_sub [0] rfl (s_X6_kindOf_j26 F C hr a0 τ)
        · refine sm_seg C [(.iload_n 0, 0), (.bipush 122, 122)] (pc' := 23) (L' := [(0, .int a0)]) (S' := [.int 122, .int a0]) (by decide +kernel) rfl ?_
          refine sm_icmple 38 (off := 15) C (by decide +kernel) (by decide) (fun _ => ?_) (fun _ => ?_)
          · refine sm_seg C [(.iconst 1, 1)] (pc' := 39) (L' := [(0, .int a0)]) (S' := [.int 1]) (by decide +kernel) rfl ?_
            exact sm_iret C hr rfl (by decide +kernel)
          · exact sm_sub [0] rfl (s_X6_kindOf_j26 F C hr a0 τ)) h
/-! BasketEnvoys_Tokens.add -/
def X6_add (F : Nat) (a1 : Int32) (a2 : Int32) (τ : Tau) : Option (Int32 × Tau) :=
  if 400 < (τ 197 3) then (some (0, τ)) else (ast τ 199 401 (τ 197 3) a1 fun τ1 => ast τ1 200 401 (τ1 197 3) a2 fun τ2 => ast τ2 201 401 (τ2 197 3) 1 fun τ3 => ast τ3 202 401 (τ3 197 3) 0 fun τ4 => pst τ4 197 3 ((τ4 197 3) + 1) fun τ5 => some (0, τ5))
set_option maxRecDepth 20000 in
set_option maxHeartbeats 4000000 in
theorem c_X6_add (F : Nat) (a1 : Int32) (a2 : Int32) (τ : Tau) (r : Int32) (τ' : Tau) (h : X6_add F a1 a2 τ = some (r, τ')) : MCv sysX yX6_add cX6_add 3 1 [.ref 197, .int a1, .int a2] τ τ' :=
  mcv_of (by decide +kernel) (Nat.le_of_ble_eq_true rfl) (fun K C hr => by
    show Sm K sysX 3 (Qv K sysX) (X6_add F a1 a2 τ) 0 [(0, .ref 197), (1, .int a1), (2, .int a2)] [] τ
    unfold X6_add
    refine sm_seg C [(.aload_n 0, 0)] (pc' := 1) (L' := [(0, .ref 197), (1, .int a1), (2, .int a2)]) (S' := [.ref 197]) (by decide +kernel) rfl ?_
    refine sm_getI 6 3 cls6 C (ltX (by decide +kernel : kdX 197 = 6) (by decide)) (by decide +kernel : kdX 197 = 6) (obX6 (by decide +kernel : kdX 197 = 6)) (by decide) (fiX6_3 (by decide +kernel : kdX 197 = 6)) fl6_21 (by decide +kernel) ?_
    refine sm_seg C [(.sipush 400, 400)] (pc' := 7) (L' := [(0, .ref 197), (1, .int a1), (2, .int a2)]) (S' := [.int 400, .int (τ 197 3)]) (by decide +kernel) rfl ?_
    refine sm_icmpgt 60 (off := 53) C (by decide +kernel) (by decide) (fun _ => ?_) (fun _ => ?_)
    · exact sm_vret C hr (by decide +kernel)
    · refine sm_seg C [(.aload_n 0, 0)] (pc' := 11) (L' := [(0, .ref 197), (1, .int a1), (2, .int a2)]) (S' := [.ref 197]) (by decide +kernel) rfl ?_
      refine sm_getR 6 9 199 cls6 C (ltX (by decide +kernel : kdX 197 = 6) (by decide)) (by decide +kernel : kdX 197 = 6) (obX6 (by decide +kernel : kdX 197 = 6)) (by decide) (frX6_9 (by decide +kernel : kdX 197 = 6)) fl6_40 (by decide +kernel) ?_
      refine sm_seg C [(.aload_n 0, 0)] (pc' := 15) (L' := [(0, .ref 197), (1, .int a1), (2, .int a2)]) (S' := [.ref 197, .ref 199]) (by decide +kernel) rfl ?_
      refine sm_getI 6 3 cls6 C (ltX (by decide +kernel : kdX 197 = 6) (by decide)) (by decide +kernel : kdX 197 = 6) (obX6 (by decide +kernel : kdX 197 = 6)) (by decide) (fiX6_3 (by decide +kernel : kdX 197 = 6)) fl6_21 (by decide +kernel) ?_
      refine sm_seg C [(.iload_n 1, 0)] (pc' := 19) (L' := [(0, .ref 197), (1, .int a1), (2, .int a2)]) (S' := [.int a1, .int (τ 197 3), .ref 199]) (by decide +kernel) rfl ?_
      refine sm_ast 401 C (ltX (krX6_9 (by decide +kernel : kdX 197 = 6)) (by decide)) (krX6_9 (by decide +kernel : kdX 197 = 6)) (nrX6_9 (by decide +kernel : kdX 197 = 6)) (by decide +kernel) (fun τ1 => ?_)
      refine sm_seg C [(.aload_n 0, 0)] (pc' := 21) (L' := [(0, .ref 197), (1, .int a1), (2, .int a2)]) (S' := [.ref 197]) (by decide +kernel) rfl ?_
      refine sm_getR 6 10 200 cls6 C (ltX (by decide +kernel : kdX 197 = 6) (by decide)) (by decide +kernel : kdX 197 = 6) (obX6 (by decide +kernel : kdX 197 = 6)) (by decide) (frX6_10 (by decide +kernel : kdX 197 = 6)) fl6_44 (by decide +kernel) ?_
      refine sm_seg C [(.aload_n 0, 0)] (pc' := 25) (L' := [(0, .ref 197), (1, .int a1), (2, .int a2)]) (S' := [.ref 197, .ref 200]) (by decide +kernel) rfl ?_
      refine sm_getI 6 3 cls6 C (ltX (by decide +kernel : kdX 197 = 6) (by decide)) (by decide +kernel : kdX 197 = 6) (obX6 (by decide +kernel : kdX 197 = 6)) (by decide) (fiX6_3 (by decide +kernel : kdX 197 = 6)) fl6_21 (by decide +kernel) ?_
      refine sm_seg C [(.iload_n 2, 0)] (pc' := 29) (L' := [(0, .ref 197), (1, .int a1), (2, .int a2)]) (S' := [.int a2, .int (τ1 197 3), .ref 200]) (by decide +kernel) rfl ?_
      refine sm_ast 401 C (ltX (krX6_10 (by decide +kernel : kdX 197 = 6)) (by decide)) (krX6_10 (by decide +kernel : kdX 197 = 6)) (nrX6_10 (by decide +kernel : kdX 197 = 6)) (by decide +kernel) (fun τ2 => ?_)
      refine sm_seg C [(.aload_n 0, 0)] (pc' := 31) (L' := [(0, .ref 197), (1, .int a1), (2, .int a2)]) (S' := [.ref 197]) (by decide +kernel) rfl ?_
      refine sm_getR 6 11 201 cls6 C (ltX (by decide +kernel : kdX 197 = 6) (by decide)) (by decide +kernel : kdX 197 = 6) (obX6 (by decide +kernel : kdX 197 = 6)) (by decide) (frX6_11 (by decide +kernel : kdX 197 = 6)) fl6_47 (by decide +kernel) ?_
      refine sm_seg C [(.aload_n 0, 0)] (pc' := 35) (L' := [(0, .ref 197), (1, .int a1), (2, .int a2)]) (S' := [.ref 197, .ref 201]) (by decide +kernel) rfl ?_
      refine sm_getI 6 3 cls6 C (ltX (by decide +kernel : kdX 197 = 6) (by decide)) (by decide +kernel : kdX 197 = 6) (obX6 (by decide +kernel : kdX 197 = 6)) (by decide) (fiX6_3 (by decide +kernel : kdX 197 = 6)) fl6_21 (by decide +kernel) ?_
      refine sm_seg C [(.iconst 1, 1)] (pc' := 39) (L' := [(0, .ref 197), (1, .int a1), (2, .int a2)]) (S' := [.int 1, .int (τ2 197 3), .ref 201]) (by decide +kernel) rfl ?_
      refine sm_ast 401 C (ltX (krX6_11 (by decide +kernel : kdX 197 = 6)) (by decide)) (krX6_11 (by decide +kernel : kdX 197 = 6)) (nrX6_11 (by decide +kernel : kdX 197 = 6)) (by decide +kernel) (fun τ3 => ?_)
      refine sm_seg C [(.aload_n 0, 0)] (pc' := 41) (L' := [(0, .ref 197), (1, .int a1), (2, .int a2)]) (S' := [.ref 197]) (by decide +kernel) rfl ?_
      refine sm_getR 6 12 202 cls6 C (ltX (by decide +kernel : kdX 197 = 6) (by decide)) (by decide +kernel : kdX 197 = 6) (obX6 (by decide +kernel : kdX 197 = 6)) (by decide) (frX6_12 (by decide +kernel : kdX 197 = 6)) fl6_50 (by decide +kernel) ?_
      refine sm_seg C [(.aload_n 0, 0)] (pc' := 45) (L' := [(0, .ref 197), (1, .int a1), (2, .int a2)]) (S' := [.ref 197, .ref 202]) (by decide +kernel) rfl ?_
      refine sm_getI 6 3 cls6 C (ltX (by decide +kernel : kdX 197 = 6) (by decide)) (by decide +kernel : kdX 197 = 6) (obX6 (by decide +kernel : kdX 197 = 6)) (by decide) (fiX6_3 (by decide +kernel : kdX 197 = 6)) fl6_21 (by decide +kernel) ?_
      refine sm_seg C [(.iconst 0, 0)] (pc' := 49) (L' := [(0, .ref 197), (1, .int a1), (2, .int a2)]) (S' := [.int 0, .int (τ3 197 3), .ref 202]) (by decide +kernel) rfl ?_
      refine sm_ast 401 C (ltX (krX6_12 (by decide +kernel : kdX 197 = 6)) (by decide)) (krX6_12 (by decide +kernel : kdX 197 = 6)) (nrX6_12 (by decide +kernel : kdX 197 = 6)) (by decide +kernel) (fun τ4 => ?_)
      refine sm_seg C [(.aload_n 0, 0), (.dup, 0)] (pc' := 52) (L' := [(0, .ref 197), (1, .int a1), (2, .int a2)]) (S' := [.ref 197, .ref 197]) (by decide +kernel) rfl ?_
      refine sm_getI 6 3 cls6 C (ltX (by decide +kernel : kdX 197 = 6) (by decide)) (by decide +kernel : kdX 197 = 6) (obX6 (by decide +kernel : kdX 197 = 6)) (by decide) (fiX6_3 (by decide +kernel : kdX 197 = 6)) fl6_21 (by decide +kernel) ?_
      refine sm_seg C [(.iconst 1, 1), (.iadd, 0)] (pc' := 57) (L' := [(0, .ref 197), (1, .int a1), (2, .int a2)]) (S' := [.int ((τ4 197 3) + 1), .ref 197]) (by decide +kernel) rfl ?_
      refine sm_pst 6 3 cls6 C (ltX (by decide +kernel : kdX 197 = 6) (by decide)) (by decide +kernel : kdX 197 = 6) (obX6 (by decide +kernel : kdX 197 = 6)) (by decide) (fiX6_3 (by decide +kernel : kdX 197 = 6)) rfl rfl rfl fl6_21 (by decide +kernel) (fun τ5 => ?_)
      exact sm_vret C hr (by decide +kernel)) h
/-! java/lang/StringLatin1.charAt -/
def X_StringLatin1_charAt___BI_C (F : Nat) (s0 : Nat) (a1 : Int32) (τ : Tau) : Option (Int32 × Tau) :=
  cal (sCheck a1 (Int32.ofNat (sL s0)) τ) fun r1 τ2 => gd a1 (sL s0) (some (vp_nar .char (chr ((sC s0 (ix a1)) &&& 255)), τ2))
set_option maxRecDepth 20000 in
set_option maxHeartbeats 4000000 in
theorem c_X_StringLatin1_charAt___BI_C (F : Nat) (s0 : Nat) (h0 : s0 < 30) (a1 : Int32) (τ : Tau) (r : Int32) (τ' : Tau) (h : X_StringLatin1_charAt___BI_C F s0 a1 τ = some (r, τ')) : MCi sysX ⟨"java/lang/StringLatin1", "charAt", "([BI)C"⟩ prog_18_method_2_code 2 (some .char) 3 [.ref (200000 + s0), .int a1] τ r τ' :=
  mci_of (by decide +kernel) (Nat.le_of_ble_eq_true rfl) (fun K C hr => by
    show Sm K sysX 2 (Qi K sysX) (X_StringLatin1_charAt___BI_C F s0 a1 τ) 0 [(0, .ref (200000 + s0)), (1, .int a1)] [] τ
    unfold X_StringLatin1_charAt___BI_C
    refine sm_seg C [(.iload_n 1, 0), (.aload_n 0, 0)] (pc' := 2) (L' := [(0, .ref (200000 + s0)), (1, .int a1)]) (S' := [.ref (200000 + s0), .int a1]) (by decide +kernel) rfl ?_
    refine sm_blen C h0 (by decide +kernel) ?_
    refine sm_scalv [.int a1, .int (Int32.ofNat (sL s0))] [] rfl C mw_String_checkIndex__II_V ml_StringLatin1_9 rfl ⟨by decide, by decide⟩ (Nat.le_of_ble_eq_true rfl) (by decide +kernel) (c_sCheck a1 (Int32.ofNat (sL s0)) τ) (fun r1 τ2 => ?_)
    refine sm_seg C [(.aload_n 0, 0), (.iload_n 1, 0)] (pc' := 8) (L' := [(0, .ref (200000 + s0)), (1, .int a1)]) (S' := [.int a1, .ref (200000 + s0)]) (by decide +kernel) rfl ?_
    refine sm_bald C h0 (by decide +kernel) ?_
    refine sm_seg C [(.sipush 255, 255), (.iand, 0), (.i2c, 0)] (pc' := 14) (L' := [(0, .ref (200000 + s0)), (1, .int a1)]) (S' := [.int (chr ((sC s0 (ix a1)) &&& 255))]) (by decide +kernel) rfl ?_
    exact sm_iret C hr nar_char (by decide +kernel)) h
/-! java/lang/String.charAt -/
def X_String_charAt__I_C (F : Nat) (s0 : Nat) (a1 : Int32) (τ : Tau) : Option (Int32 × Tau) :=
  cal (X_String_isLatin1___Z F s0 τ) fun r1 τ2 => if r1 = 0 then (none) else (cal (X_StringLatin1_charAt___BI_C F s0 a1 τ2) fun r5 τ6 => some (vp_nar .char r5, τ6))
set_option maxRecDepth 20000 in
set_option maxHeartbeats 4000000 in
theorem c_X_String_charAt__I_C (F : Nat) (s0 : Nat) (h0 : s0 < 30) (a1 : Int32) (τ : Tau) (r : Int32) (τ' : Tau) (h : X_String_charAt__I_C F s0 a1 τ = some (r, τ')) : MCi sysX ⟨"java/lang/String", "charAt", "(I)C"⟩ prog_17_method_56_code 2 (some .char) 4 [.ref (100000 + s0), .int a1] τ r τ' :=
  mci_of (by decide +kernel) (Nat.le_of_ble_eq_true rfl) (fun K C hr => by
    show Sm K sysX 2 (Qi K sysX) (X_String_charAt__I_C F s0 a1 τ) 0 [(0, .ref (100000 + s0)), (1, .int a1)] [] τ
    unfold X_String_charAt__I_C
    refine sm_seg C [(.aload_n 0, 0)] (pc' := 1) (L' := [(0, .ref (100000 + s0)), (1, .int a1)]) (S' := [.ref (100000 + s0)]) (by decide +kernel) rfl ?_
    refine sm_vstr [] [] rfl C h0 mw_String_isLatin1___Z rfl ml_String_492 rfl ⟨by decide, by decide⟩ (Nat.le_of_ble_eq_true rfl) (by decide +kernel) (c_X_String_isLatin1___Z F s0 h0 τ) (fun r1 τ2 => ?_)
    refine sm_ifeq 16 (off := 12) C (by decide +kernel) (by decide) (fun _ => ?_) (fun _ => ?_)
    · refine sm_seg C [(.aload_n 0, 0)] (pc' := 17) (L' := [(0, .ref (100000 + s0)), (1, .int a1)]) (S' := [.ref (100000 + s0)]) (by decide +kernel) rfl ?_
      refine sm_strV C h0 fs_9 (by decide +kernel) ?_
      refine sm_seg C [(.iload_n 1, 0)] (pc' := 21) (L' := [(0, .ref (100000 + s0)), (1, .int a1)]) (S' := [.int a1, .ref (200000 + s0)]) (by decide +kernel) rfl ?_
      exact sm_none
    · refine sm_seg C [(.aload_n 0, 0)] (pc' := 8) (L' := [(0, .ref (100000 + s0)), (1, .int a1)]) (S' := [.ref (100000 + s0)]) (by decide +kernel) rfl ?_
      refine sm_strV C h0 fs_9 (by decide +kernel) ?_
      refine sm_seg C [(.iload_n 1, 0)] (pc' := 12) (L' := [(0, .ref (100000 + s0)), (1, .int a1)]) (S' := [.int a1, .ref (200000 + s0)]) (by decide +kernel) rfl ?_
      refine sm_scal [.ref (200000 + s0), .int a1] [] rfl C mw_StringLatin1_charAt___BI_C ml_String_495 rfl ⟨by decide, by decide⟩ (Nat.le_of_ble_eq_true rfl) (by decide +kernel) (c_X_StringLatin1_charAt___BI_C F s0 h0 a1 τ2) (fun r5 τ6 => ?_)
      exact sm_iret C hr nar_char (by decide +kernel)) h
/-! BasketEnvoys_Tokens.signAt -/
def X6_signAt (F : Nat) (a1 : Int32) (τ : Tau) : Option (Int32 × Tau) :=
  if a1 < 0 then (some (32, τ)) else (if 400 ≤ a1 then (some (32, τ)) else (ald τ 198 400 a1 fun v1 => some (vp_nar .char v1, τ)))
set_option maxRecDepth 20000 in
set_option maxHeartbeats 4000000 in
theorem c_X6_signAt (F : Nat) (a1 : Int32) (τ : Tau) (r : Int32) (τ' : Tau) (h : X6_signAt F a1 τ = some (r, τ')) : MCi sysX yX6_signAt cX6_signAt 2 (some .char) 1 [.ref 197, .int a1] τ r τ' :=
  mci_of (by decide +kernel) (Nat.le_of_ble_eq_true rfl) (fun K C hr => by
    show Sm K sysX 2 (Qi K sysX) (X6_signAt F a1 τ) 0 [(0, .ref 197), (1, .int a1)] [] τ
    unfold X6_signAt
    refine sm_seg C [(.iload_n 1, 0)] (pc' := 1) (L' := [(0, .ref 197), (1, .int a1)]) (S' := [.int a1]) (by decide +kernel) rfl ?_
    refine sm_iflt 20 (off := 19) C (by decide +kernel) (by decide) (fun _ => ?_) (fun _ => ?_)
    · refine sm_seg C [(.bipush 32, 32)] (pc' := 22) (L' := [(0, .ref 197), (1, .int a1)]) (S' := [.int 32]) (by decide +kernel) rfl ?_
      exact sm_iret C hr rfl (by decide +kernel)
    · refine sm_seg C [(.iload_n 1, 0), (.sipush 400, 400)] (pc' := 8) (L' := [(0, .ref 197), (1, .int a1)]) (S' := [.int 400, .int a1]) (by decide +kernel) rfl ?_
      refine sm_icmpge 20 (off := 12) C (by decide +kernel) (by decide) (fun _ => ?_) (fun _ => ?_)
      · refine sm_seg C [(.bipush 32, 32)] (pc' := 22) (L' := [(0, .ref 197), (1, .int a1)]) (S' := [.int 32]) (by decide +kernel) rfl ?_
        exact sm_iret C hr rfl (by decide +kernel)
      · refine sm_seg C [(.aload_n 0, 0)] (pc' := 12) (L' := [(0, .ref 197), (1, .int a1)]) (S' := [.ref 197]) (by decide +kernel) rfl ?_
        refine sm_getR 6 8 198 cls6 C (ltX (by decide +kernel : kdX 197 = 6) (by decide)) (by decide +kernel : kdX 197 = 6) (obX6 (by decide +kernel : kdX 197 = 6)) (by decide) (frX6_8 (by decide +kernel : kdX 197 = 6)) fl6_36 (by decide +kernel) ?_
        refine sm_seg C [(.iload_n 1, 0)] (pc' := 16) (L' := [(0, .ref 197), (1, .int a1)]) (S' := [.int a1, .ref 198]) (by decide +kernel) rfl ?_
        refine sm_ldc_ 400 C (ltX (krX6_8 (by decide +kernel : kdX 197 = 6)) (by decide)) (krX6_8 (by decide +kernel : kdX 197 = 6)) (nrX6_8 (by decide +kernel : kdX 197 = 6)) (by decide +kernel) (fun v1 => ?_)
        refine sm_seg C [(.goto 5, 0)] (pc' := 22) (L' := [(0, .ref 197), (1, .int a1)]) (S' := [.int v1]) (by decide +kernel) rfl ?_
        exact sm_iret C hr nar_char (by decide +kernel)) h
/-! BasketEnvoys_Tokens.isAt -/
def X6_isAt_L7 (F : Nat) (s1 : Nat) : Nat → Int32 → Int32 → Int32 → Int32 → Tau → Option (Int32 × Tau)
  | 0, _, _, _, _, _ => none
  | n + 1, a2, a3, a4, a5, τ =>
    if a3 ≤ a5 then (some (1, τ)) else (cal (X_String_length___I F s1 τ) fun r1 τ2 => if r1 ≤ a5 then (some (1, τ2)) else (cal (X_String_charAt__I_C F s1 a5 τ2) fun r3 τ4 => cal (X6_signAt F ((a4 + a5) - a2) τ4) fun r5 τ6 => if r3 = r5 then (X6_isAt_L7 F s1 n a2 a3 a4 (a5 + 1) τ6) else (some (0, τ6))))
theorem s_X6_isAt_L7 (F : Nat) (s1 : Nat) {K : Ctx} (C : Cx K sysX RX6 cX6_isAt 6 5) (hr : Rt K (some .boolean)) (h1 : s1 < 30) : ∀ (n : Nat) (a2 : Int32) (a3 : Int32) (a4 : Int32) (a5 : Int32) (τ : Tau), Sm K sysX 6 (Qi K sysX) (X6_isAt_L7 F s1 n a2 a3 a4 a5 τ) 7 [(0, .ref 197), (1, .ref (100000 + s1)), (2, .int a2), (3, .int a3), (4, .int a4), (5, .int a5)] [] τ := by
  intro n
  induction n with
  | zero => intro a2 a3 a4 a5 τ; exact sm_none
  | succ n ih =>
    intro a2 a3 a4 a5 τ
    rw [X6_isAt_L7]
    refine sm_seg C [(.iload 5, 0), (.iload_n 3, 0)] (pc' := 10) (L' := [(0, .ref 197), (1, .ref (100000 + s1)), (2, .int a2), (3, .int a3), (4, .int a4), (5, .int a5)]) (S' := [.int a3, .int a5]) (by decide +kernel) rfl ?_
    refine sm_icmpge 50 (off := 40) C (by decide +kernel) (by decide) (fun _ => ?_) (fun _ => ?_)
    · refine sm_seg C [(.iconst 1, 1)] (pc' := 51) (L' := [(0, .ref 197), (1, .ref (100000 + s1)), (2, .int a2), (3, .int a3), (4, .int a4), (5, .int a5)]) (S' := [.int 1]) (by decide +kernel) rfl ?_
      exact sm_iret C hr rfl (by decide +kernel)
    · refine sm_seg C [(.iload 5, 0), (.aload_n 1, 0)] (pc' := 16) (L' := [(0, .ref 197), (1, .ref (100000 + s1)), (2, .int a2), (3, .int a3), (4, .int a4), (5, .int a5)]) (S' := [.ref (100000 + s1), .int a5]) (by decide +kernel) rfl ?_
      refine sm_vstr [] [.int a5] rfl C h1 mw_String_length___I rfl ml_6_91 rfl ⟨by decide, by decide⟩ (Nat.le_of_ble_eq_true rfl) (by decide +kernel) (c_X_String_length___I F s1 h1 τ) (fun r1 τ2 => ?_)
      refine sm_icmpge 50 (off := 31) C (by decide +kernel) (by decide) (fun _ => ?_) (fun _ => ?_)
      · refine sm_seg C [(.iconst 1, 1)] (pc' := 51) (L' := [(0, .ref 197), (1, .ref (100000 + s1)), (2, .int a2), (3, .int a3), (4, .int a4), (5, .int a5)]) (S' := [.int 1]) (by decide +kernel) rfl ?_
        exact sm_iret C hr rfl (by decide +kernel)
      · refine sm_seg C [(.aload_n 1, 0), (.iload 5, 0)] (pc' := 25) (L' := [(0, .ref 197), (1, .ref (100000 + s1)), (2, .int a2), (3, .int a3), (4, .int a4), (5, .int a5)]) (S' := [.int a5, .ref (100000 + s1)]) (by decide +kernel) rfl ?_
        refine sm_vstr [.int a5] [] rfl C h1 mw_String_charAt__I_C rfl ml_6_94 rfl ⟨by decide, by decide⟩ (Nat.le_of_ble_eq_true rfl) (by decide +kernel) (c_X_String_charAt__I_C F s1 h1 a5 τ2) (fun r3 τ4 => ?_)
        refine sm_seg C [(.aload_n 0, 0), (.iload 4, 0), (.iload 5, 0), (.iadd, 0), (.iload_n 2, 0), (.isub, 0)] (pc' := 36) (L' := [(0, .ref 197), (1, .ref (100000 + s1)), (2, .int a2), (3, .int a3), (4, .int a4), (5, .int a5)]) (S' := [.int ((a4 + a5) - a2), .ref 197, .int r3]) (by decide +kernel) rfl ?_
        refine sm_vcal [.int ((a4 + a5) - a2)] [.int r3] rfl C mw_X6_signAt ml_6_87 rfl (ci := 6) rfl (ltX (by decide +kernel : kdX 197 = 6) (by decide)) (by decide +kernel : kdX 197 = 6) (by decide) ⟨by decide, by decide⟩ (Nat.le_of_ble_eq_true rfl) (by decide +kernel) (c_X6_signAt F ((a4 + a5) - a2) τ4) (fun r5 τ6 => ?_)
        refine sm_icmpeq 44 (off := 5) C (by decide +kernel) (by decide) (fun _ => ?_) (fun _ => ?_)
        · refine sm_seg C [(.iinc 5 1, 1), (.goto (-40), 0)] (pc' := 7) (L' := [(5, .int (a5 + 1)), (0, .ref 197), (1, .ref (100000 + s1)), (2, .int a2), (3, .int a3), (4, .int a4)]) (S' := []) (by decide +kernel) rfl ?_
          exact sm_sub [1, 2, 3, 4, 5, 0] rfl (ih a2 a3 a4 (a5 + 1) τ6)
        · refine sm_seg C [(.iconst 0, 0)] (pc' := 43) (L' := [(0, .ref 197), (1, .ref (100000 + s1)), (2, .int a2), (3, .int a3), (4, .int a4), (5, .int a5)]) (S' := [.int 0]) (by decide +kernel) rfl ?_
          exact sm_iret C hr rfl (by decide +kernel)
def X6_isAt (F : Nat) (s1 : Nat) (a2 : Int32) (a3 : Int32) (a4 : Int32) (τ : Tau) : Option (Int32 × Tau) :=
  X6_isAt_L7 F s1 F a2 a3 a4 (imax 0 a2) τ
set_option maxRecDepth 20000 in
set_option maxHeartbeats 4000000 in
theorem c_X6_isAt (F : Nat) (s1 : Nat) (h1 : s1 < 30) (a2 : Int32) (a3 : Int32) (a4 : Int32) (τ : Tau) (r : Int32) (τ' : Tau) (h : X6_isAt F s1 a2 a3 a4 τ = some (r, τ')) : MCi sysX yX6_isAt cX6_isAt 6 (some .boolean) 5 [.ref 197, .ref (100000 + s1), .int a2, .int a3, .int a4] τ r τ' :=
  mci_of (by decide +kernel) (Nat.le_of_ble_eq_true rfl) (fun K C hr => by
    show Sm K sysX 6 (Qi K sysX) (X6_isAt F s1 a2 a3 a4 τ) 0 [(0, .ref 197), (1, .ref (100000 + s1)), (2, .int a2), (3, .int a3), (4, .int a4)] [] τ
    unfold X6_isAt
    refine sm_seg C [(.iconst 0, 0), (.iload_n 2, 0)] (pc' := 2) (L' := [(0, .ref 197), (1, .ref (100000 + s1)), (2, .int a2), (3, .int a3), (4, .int a4)]) (S' := [.int a2, .int 0]) (by decide +kernel) rfl ?_
    refine sm_max C (by decide) ml_6_101 jw_maxs jw_math jw_maxc (Nat.le_of_ble_eq_true rfl) (by decide +kernel) ?_
    refine sm_seg C [(.istore 5, 0)] (pc' := 7) (L' := [(5, .int (imax 0 a2)), (0, .ref 197), (1, .ref (100000 + s1)), (2, .int a2), (3, .int a3), (4, .int a4)]) (S' := []) (by decide +kernel) rfl ?_
    exact sm_sub [1, 2, 3, 4, 5, 0] rfl (s_X6_isAt_L7 F s1 C hr h1 F a2 a3 a4 (imax 0 a2) τ)) h
