/-! BasketEnvoysModel.mute -/
def X11_mute_j85 (F : Nat) (a4 : Int32) (z0 : Int32) (z1 : Int32) (τ : Tau) : Option (Int32 × Tau) :=
  ast τ 1 2244 z1 z0 fun τ9 => ast τ9 1 2244 (87 + a4) (-1) fun τ10 => ald τ10 1 2244 256 fun v11 => ast τ10 1 2244 256 (v11 + 1) fun τ12 => cal (X11_forgets F τ12) fun r13 τ14 => some (a4, τ14)
theorem s_X11_mute_j85 (F : Nat) {K : Ctx} (C : Cx K sysM RX11 cX11_mute 5 2) (hr : Rt K (some .int)) (a4 : Int32) (z0 : Int32) (z1 : Int32) (τ : Tau) : Sm K sysM 5 (Qi K sysM) (X11_mute_j85 F a4 z0 z1 τ) 85 [(0, .ref 0), (4, .int a4)] [.int z0, .int z1, .ref 1] τ := by
  unfold X11_mute_j85
  refine sm_ast 2244 C (ltM (krM11_0 (by decide +kernel : kdM 0 = 11)) (by decide)) (krM11_0 (by decide +kernel : kdM 0 = 11)) (nrM11_0 (by decide +kernel : kdM 0 = 11)) (by decide +kernel) (fun τ9 => ?_)
  refine sm_seg C [(.aload_n 0, 0)] (pc' := 87) (L' := [(0, .ref 0), (4, .int a4)]) (S' := [.ref 0]) (by decide +kernel) rfl ?_
  refine sm_getR 11 0 1 cls11 C (ltM (by decide +kernel : kdM 0 = 11) (by decide)) (by decide +kernel : kdM 0 = 11) (obM11 (by decide +kernel : kdM 0 = 11)) (by decide) (frM11_0 (by decide +kernel : kdM 0 = 11)) fl11_7 (by decide +kernel) ?_
  refine sm_seg C [(.bipush 87, 87), (.iload 4, 0), (.iadd, 0), (.iconst (-1), (-1))] (pc' := 96) (L' := [(0, .ref 0), (4, .int a4)]) (S' := [.int (-1), .int (87 + a4), .ref 1]) (by decide +kernel) rfl ?_
  refine sm_ast 2244 C (ltM (krM11_0 (by decide +kernel : kdM 0 = 11)) (by decide)) (krM11_0 (by decide +kernel : kdM 0 = 11)) (nrM11_0 (by decide +kernel : kdM 0 = 11)) (by decide +kernel) (fun τ10 => ?_)
  refine sm_seg C [(.aload_n 0, 0)] (pc' := 98) (L' := [(0, .ref 0), (4, .int a4)]) (S' := [.ref 0]) (by decide +kernel) rfl ?_
  refine sm_getR 11 0 1 cls11 C (ltM (by decide +kernel : kdM 0 = 11) (by decide)) (by decide +kernel : kdM 0 = 11) (obM11 (by decide +kernel : kdM 0 = 11)) (by decide) (frM11_0 (by decide +kernel : kdM 0 = 11)) fl11_7 (by decide +kernel) ?_
  refine sm_seg C [(.sipush 256, 256), (.dup2, 0)] (pc' := 105) (L' := [(0, .ref 0), (4, .int a4)]) (S' := [.int 256, .ref 1, .int 256, .ref 1]) (by decide +kernel) rfl ?_
  refine sm_ald 2244 C (ltM (krM11_0 (by decide +kernel : kdM 0 = 11)) (by decide)) (krM11_0 (by decide +kernel : kdM 0 = 11)) (nrM11_0 (by decide +kernel : kdM 0 = 11)) (by decide +kernel) (fun v11 => ?_)
  refine sm_seg C [(.iconst 1, 1), (.iadd, 0)] (pc' := 108) (L' := [(0, .ref 0), (4, .int a4)]) (S' := [.int (v11 + 1), .int 256, .ref 1]) (by decide +kernel) rfl ?_
  refine sm_ast 2244 C (ltM (krM11_0 (by decide +kernel : kdM 0 = 11)) (by decide)) (krM11_0 (by decide +kernel : kdM 0 = 11)) (nrM11_0 (by decide +kernel : kdM 0 = 11)) (by decide +kernel) (fun τ12 => ?_)
  refine sm_seg C [(.aload_n 0, 0)] (pc' := 110) (L' := [(0, .ref 0), (4, .int a4)]) (S' := [.ref 0]) (by decide +kernel) rfl ?_
  refine sm_vcalv [] [] rfl C mw_X11_forgets ml_11_85 rfl (ci := 11) rfl (ltM (by decide +kernel : kdM 0 = 11) (by decide)) (by decide +kernel : kdM 0 = 11) (by decide) ⟨by decide, by decide⟩ (Nat.le_of_ble_eq_true rfl) (by decide +kernel) (c_X11_forgets F τ12) (fun r13 τ14 => ?_)
  refine sm_seg C [(.iload 4, 0)] (pc' := 115) (L' := [(0, .ref 0), (4, .int a4)]) (S' := [.int a4]) (by decide +kernel) rfl ?_
  exact sm_iret C hr rfl (by decide +kernel)
def X11_mute (F : Nat) (a1 : Int32) (a2 : Int32) (a3 : Int32) (τ : Tau) : Option (Int32 × Tau) :=
  cal (X11_isIn F a1 0 9 τ) fun r1 τ2 => if r1 = 0 then (some ((-1), τ2)) else (cal (X11_isIn F a2 0 9 τ2) fun r3 τ4 => if r3 = 0 then (some ((-1), τ4)) else (ald τ4 1 2244 256 fun v5 => if v5 = 14 then (some ((-1), τ4)) else (ald τ4 1 2244 256 fun v6 => ast τ4 1 2244 (45 + v6) a1 fun τ7 => ast τ7 1 2244 (59 + v6) a2 fun τ8 => if a3 = 0 then (X11_mute_j85 F v6 0 (73 + v6) τ8) else (X11_mute_j85 F v6 1 (73 + v6) τ8))))
set_option maxRecDepth 20000 in
set_option maxHeartbeats 4000000 in
theorem c_X11_mute (F : Nat) (a1 : Int32) (a2 : Int32) (a3 : Int32) (τ : Tau) (r : Int32) (τ' : Tau) (h : X11_mute F a1 a2 a3 τ = some (r, τ')) : MCi sysM yX11_mute cX11_mute 5 (some .int) 2 [.ref 0, .int a1, .int a2, .int a3] τ r τ' :=
  mci_of (by decide +kernel) (Nat.le_of_ble_eq_true rfl) (fun K C hr => by
    show Sm K sysM 5 (Qi K sysM) (X11_mute F a1 a2 a3 τ) 0 [(0, .ref 0), (1, .int a1), (2, .int a2), (3, .int a3)] [] τ
    unfold X11_mute
    refine sm_seg C [(.iload_n 1, 0), (.iconst 0, 0), (.bipush 9, 9)] (pc' := 4) (L' := [(0, .ref 0), (1, .int a1), (2, .int a2), (3, .int a3)]) (S' := [.int 9, .int 0, .int a1]) (by decide +kernel) rfl ?_
    refine sm_scal [.int a1, .int 0, .int 9] [] rfl C mw_X11_isIn ml_11_78 rfl ⟨by decide, by decide⟩ (Nat.le_of_ble_eq_true rfl) (by decide +kernel) (c_X11_isIn F a1 0 9 τ) (fun r1 τ2 => ?_)
    refine sm_ifeq 33 (off := 26) C (by decide +kernel) (by decide) (fun _ => ?_) (fun _ => ?_)
    · refine sm_seg C [(.iconst (-1), (-1))] (pc' := 34) (L' := [(0, .ref 0), (1, .int a1), (2, .int a2), (3, .int a3)]) (S' := [.int (-1)]) (by decide +kernel) rfl ?_
      exact sm_iret C hr rfl (by decide +kernel)
    · refine sm_seg C [(.iload_n 2, 0), (.iconst 0, 0), (.bipush 9, 9)] (pc' := 14) (L' := [(0, .ref 0), (1, .int a1), (2, .int a2), (3, .int a3)]) (S' := [.int 9, .int 0, .int a2]) (by decide +kernel) rfl ?_
      refine sm_scal [.int a2, .int 0, .int 9] [] rfl C mw_X11_isIn ml_11_78 rfl ⟨by decide, by decide⟩ (Nat.le_of_ble_eq_true rfl) (by decide +kernel) (c_X11_isIn F a2 0 9 τ2) (fun r3 τ4 => ?_)
      refine sm_ifeq 33 (off := 16) C (by decide +kernel) (by decide) (fun _ => ?_) (fun _ => ?_)
      · refine sm_seg C [(.iconst (-1), (-1))] (pc' := 34) (L' := [(0, .ref 0), (1, .int a1), (2, .int a2), (3, .int a3)]) (S' := [.int (-1)]) (by decide +kernel) rfl ?_
        exact sm_iret C hr rfl (by decide +kernel)
      · refine sm_seg C [(.aload_n 0, 0)] (pc' := 21) (L' := [(0, .ref 0), (1, .int a1), (2, .int a2), (3, .int a3)]) (S' := [.ref 0]) (by decide +kernel) rfl ?_
        refine sm_getR 11 0 1 cls11 C (ltM (by decide +kernel : kdM 0 = 11) (by decide)) (by decide +kernel : kdM 0 = 11) (obM11 (by decide +kernel : kdM 0 = 11)) (by decide) (frM11_0 (by decide +kernel : kdM 0 = 11)) fl11_7 (by decide +kernel) ?_
        refine sm_seg C [(.sipush 256, 256)] (pc' := 27) (L' := [(0, .ref 0), (1, .int a1), (2, .int a2), (3, .int a3)]) (S' := [.int 256, .ref 1]) (by decide +kernel) rfl ?_
        refine sm_ald 2244 C (ltM (krM11_0 (by decide +kernel : kdM 0 = 11)) (by decide)) (krM11_0 (by decide +kernel : kdM 0 = 11)) (nrM11_0 (by decide +kernel : kdM 0 = 11)) (by decide +kernel) (fun v5 => ?_)
        refine sm_seg C [(.bipush 14, 14)] (pc' := 30) (L' := [(0, .ref 0), (1, .int a1), (2, .int a2), (3, .int a3)]) (S' := [.int 14, .int v5]) (by decide +kernel) rfl ?_
        refine sm_icmpne 35 (off := 5) C (by decide +kernel) (by decide) (fun _ => ?_) (fun _ => ?_)
        · refine sm_seg C [(.iconst (-1), (-1))] (pc' := 34) (L' := [(0, .ref 0), (1, .int a1), (2, .int a2), (3, .int a3)]) (S' := [.int (-1)]) (by decide +kernel) rfl ?_
          exact sm_iret C hr rfl (by decide +kernel)
        · refine sm_seg C [(.aload_n 0, 0)] (pc' := 36) (L' := [(0, .ref 0), (1, .int a1), (2, .int a2), (3, .int a3)]) (S' := [.ref 0]) (by decide +kernel) rfl ?_
          refine sm_getR 11 0 1 cls11 C (ltM (by decide +kernel : kdM 0 = 11) (by decide)) (by decide +kernel : kdM 0 = 11) (obM11 (by decide +kernel : kdM 0 = 11)) (by decide) (frM11_0 (by decide +kernel : kdM 0 = 11)) fl11_7 (by decide +kernel) ?_
          refine sm_seg C [(.sipush 256, 256)] (pc' := 42) (L' := [(0, .ref 0), (1, .int a1), (2, .int a2), (3, .int a3)]) (S' := [.int 256, .ref 1]) (by decide +kernel) rfl ?_
          refine sm_ald 2244 C (ltM (krM11_0 (by decide +kernel : kdM 0 = 11)) (by decide)) (krM11_0 (by decide +kernel : kdM 0 = 11)) (nrM11_0 (by decide +kernel : kdM 0 = 11)) (by decide +kernel) (fun v6 => ?_)
          refine sm_seg C [(.istore 4, 0), (.aload_n 0, 0)] (pc' := 46) (L' := [(4, .int v6), (0, .ref 0), (1, .int a1), (2, .int a2), (3, .int a3)]) (S' := [.ref 0]) (by decide +kernel) rfl ?_
          refine sm_getR 11 0 1 cls11 C (ltM (by decide +kernel : kdM 0 = 11) (by decide)) (by decide +kernel : kdM 0 = 11) (obM11 (by decide +kernel : kdM 0 = 11)) (by decide) (frM11_0 (by decide +kernel : kdM 0 = 11)) fl11_7 (by decide +kernel) ?_
          refine sm_seg C [(.bipush 45, 45), (.iload 4, 0), (.iadd, 0), (.iload_n 1, 0)] (pc' := 55) (L' := [(4, .int v6), (0, .ref 0), (1, .int a1), (2, .int a2), (3, .int a3)]) (S' := [.int a1, .int (45 + v6), .ref 1]) (by decide +kernel) rfl ?_
          refine sm_ast 2244 C (ltM (krM11_0 (by decide +kernel : kdM 0 = 11)) (by decide)) (krM11_0 (by decide +kernel : kdM 0 = 11)) (nrM11_0 (by decide +kernel : kdM 0 = 11)) (by decide +kernel) (fun τ7 => ?_)
          refine sm_seg C [(.aload_n 0, 0)] (pc' := 57) (L' := [(4, .int v6), (0, .ref 0), (1, .int a1), (2, .int a2), (3, .int a3)]) (S' := [.ref 0]) (by decide +kernel) rfl ?_
          refine sm_getR 11 0 1 cls11 C (ltM (by decide +kernel : kdM 0 = 11) (by decide)) (by decide +kernel : kdM 0 = 11) (obM11 (by decide +kernel : kdM 0 = 11)) (by decide) (frM11_0 (by decide +kernel : kdM 0 = 11)) fl11_7 (by decide +kernel) ?_
          refine sm_seg C [(.bipush 59, 59), (.iload 4, 0), (.iadd, 0), (.iload_n 2, 0)] (pc' := 66) (L' := [(4, .int v6), (0, .ref 0), (1, .int a1), (2, .int a2), (3, .int a3)]) (S' := [.int a2, .int (59 + v6), .ref 1]) (by decide +kernel) rfl ?_
          refine sm_ast 2244 C (ltM (krM11_0 (by decide +kernel : kdM 0 = 11)) (by decide)) (krM11_0 (by decide +kernel : kdM 0 = 11)) (nrM11_0 (by decide +kernel : kdM 0 = 11)) (by decide +kernel) (fun τ8 => ?_)
          refine sm_seg C [(.aload_n 0, 0)] (pc' := 68) (L' := [(4, .int v6), (0, .ref 0), (1, .int a1), (2, .int a2), (3, .int a3)]) (S' := [.ref 0]) (by decide +kernel) rfl ?_
          refine sm_getR 11 0 1 cls11 C (ltM (by decide +kernel : kdM 0 = 11) (by decide)) (by decide +kernel : kdM 0 = 11) (obM11 (by decide +kernel : kdM 0 = 11)) (by decide) (frM11_0 (by decide +kernel : kdM 0 = 11)) fl11_7 (by decide +kernel) ?_
          refine sm_seg C [(.bipush 73, 73), (.iload 4, 0), (.iadd, 0), (.iload_n 3, 0)] (pc' := 77) (L' := [(4, .int v6), (0, .ref 0), (1, .int a1), (2, .int a2), (3, .int a3)]) (S' := [.int a3, .int (73 + v6), .ref 1]) (by decide +kernel) rfl ?_
          refine sm_ifeq 84 (off := 7) C (by decide +kernel) (by decide) (fun _ => ?_) (fun _ => ?_)
          · refine sm_seg C [(.iconst 0, 0)] (pc' := 85) (L' := [(4, .int v6), (0, .ref 0), (1, .int a1), (2, .int a2), (3, .int a3)]) (S' := [.int 0, .int (73 + v6), .ref 1]) (by decide +kernel) rfl ?_
            exact sm_sub [1, 0] rfl (s_X11_mute_j85 F C hr v6 0 (73 + v6) τ8)
          · refine sm_seg C [(.iconst 1, 1), (.goto 4, 0)] (pc' := 85) (L' := [(4, .int v6), (0, .ref 0), (1, .int a1), (2, .int a2), (3, .int a3)]) (S' := [.int 1, .int (73 + v6), .ref 1]) (by decide +kernel) rfl ?_
            exact sm_sub [1, 0] rfl (s_X11_mute_j85 F C hr v6 1 (73 + v6) τ8)) h
/-! BasketEnvoysModel.of -/
def X11_of_j88 (F : Nat) (a1 : Int32) (a2 : Int32) (z0 : Int32) (τ : Tau) : Option (Int32 × Tau) :=
  if a2 = 0 then (ald τ 1 2244 (45 + a1) fun v6 => some (v6, τ)) else if a2 = 1 then (ald τ 1 2244 (59 + a1) fun v7 => some (v7, τ)) else if a2 = 2 then (ald τ 1 2244 (73 + a1) fun v8 => some (v8, τ)) else if a2 = 3 then (ald τ 1 2244 (87 + a1) fun v9 => some (v9, τ)) else if a2 = 4 then (ald τ 1 2244 (101 + a1) fun v10 => some (v10, τ)) else if a2 = 5 then (ald τ 1 2244 (115 + a1) fun v11 => some (v11, τ)) else if a2 = 6 then (ald τ 1 2244 (129 + a1) fun v12 => some (v12, τ)) else if a2 = 7 then (cal (X11_criesOf F a1 τ) fun r13 τ14 => some (r13, τ14)) else if a2 = 8 then (if z0 = (-1) then (some ((-1), τ)) else (cal (X11_nodsOf F a1 z0 τ) fun r15 τ16 => some (r15, τ16))) else (if z0 = (-1) then (some ((-1), τ)) else (cal (X11_winsOf F a1 z0 τ) fun r17 τ18 => some (r17, τ18)))
theorem s_X11_of_j88 (F : Nat) {K : Ctx} (C : Cx K sysM RX11 cX11_of 4 6) (hr : Rt K (some .int)) (a1 : Int32) (a2 : Int32) (z0 : Int32) (τ : Tau) : Sm K sysM 4 (Qi K sysM) (X11_of_j88 F a1 a2 z0 τ) 88 [(0, .ref 0), (1, .int a1), (2, .int a2)] [.int z0] τ := by
  unfold X11_of_j88
  refine sm_seg C [(.istore_n 3, 0), (.iload_n 2, 0)] (pc' := 90) (L' := [(3, .int z0), (0, .ref 0), (1, .int a1), (2, .int a2)]) (S' := [.int a2]) (by decide +kernel) rfl ?_
  have hd90 : decode cX11_of 90 = .ok (.tableswitch 143 0 8 #[50, 60, 70, 80, 90, 100, 110, 121, 127], 50) := by decide +kernel
  refine sm_ite (fun e => ?_) (fun n90_0 => ?_)
  · refine sm_tabIn (off := 50) 140 C hd90 (by rw [e]; decide) (by rw [e]; decide) (by rw [e]; decide) (by decide) ?_
    refine sm_seg C [(.aload_n 0, 0)] (pc' := 141) (L' := [(3, .int z0), (0, .ref 0), (1, .int a1), (2, .int a2)]) (S' := [.ref 0]) (by decide +kernel) rfl ?_
    refine sm_getR 11 0 1 cls11 C (ltM (by decide +kernel : kdM 0 = 11) (by decide)) (by decide +kernel : kdM 0 = 11) (obM11 (by decide +kernel : kdM 0 = 11)) (by decide) (frM11_0 (by decide +kernel : kdM 0 = 11)) fl11_7 (by decide +kernel) ?_
    refine sm_seg C [(.bipush 45, 45), (.iload_n 1, 0), (.iadd, 0)] (pc' := 148) (L' := [(3, .int z0), (0, .ref 0), (1, .int a1), (2, .int a2)]) (S' := [.int (45 + a1), .ref 1]) (by decide +kernel) rfl ?_
    refine sm_ald 2244 C (ltM (krM11_0 (by decide +kernel : kdM 0 = 11)) (by decide)) (krM11_0 (by decide +kernel : kdM 0 = 11)) (nrM11_0 (by decide +kernel : kdM 0 = 11)) (by decide +kernel) (fun v6 => ?_)
    exact sm_iret C hr rfl (by decide +kernel)
  refine sm_ite (fun e => ?_) (fun n90_1 => ?_)
  · refine sm_tabIn (off := 60) 150 C hd90 (by rw [e]; decide) (by rw [e]; decide) (by rw [e]; decide) (by decide) ?_
    refine sm_seg C [(.aload_n 0, 0)] (pc' := 151) (L' := [(3, .int z0), (0, .ref 0), (1, .int a1), (2, .int a2)]) (S' := [.ref 0]) (by decide +kernel) rfl ?_
    refine sm_getR 11 0 1 cls11 C (ltM (by decide +kernel : kdM 0 = 11) (by decide)) (by decide +kernel : kdM 0 = 11) (obM11 (by decide +kernel : kdM 0 = 11)) (by decide) (frM11_0 (by decide +kernel : kdM 0 = 11)) fl11_7 (by decide +kernel) ?_
    refine sm_seg C [(.bipush 59, 59), (.iload_n 1, 0), (.iadd, 0)] (pc' := 158) (L' := [(3, .int z0), (0, .ref 0), (1, .int a1), (2, .int a2)]) (S' := [.int (59 + a1), .ref 1]) (by decide +kernel) rfl ?_
    refine sm_ald 2244 C (ltM (krM11_0 (by decide +kernel : kdM 0 = 11)) (by decide)) (krM11_0 (by decide +kernel : kdM 0 = 11)) (nrM11_0 (by decide +kernel : kdM 0 = 11)) (by decide +kernel) (fun v7 => ?_)
    exact sm_iret C hr rfl (by decide +kernel)
  refine sm_ite (fun e => ?_) (fun n90_2 => ?_)
  · refine sm_tabIn (off := 70) 160 C hd90 (by rw [e]; decide) (by rw [e]; decide) (by rw [e]; decide) (by decide) ?_
    refine sm_seg C [(.aload_n 0, 0)] (pc' := 161) (L' := [(3, .int z0), (0, .ref 0), (1, .int a1), (2, .int a2)]) (S' := [.ref 0]) (by decide +kernel) rfl ?_
    refine sm_getR 11 0 1 cls11 C (ltM (by decide +kernel : kdM 0 = 11) (by decide)) (by decide +kernel : kdM 0 = 11) (obM11 (by decide +kernel : kdM 0 = 11)) (by decide) (frM11_0 (by decide +kernel : kdM 0 = 11)) fl11_7 (by decide +kernel) ?_
    refine sm_seg C [(.bipush 73, 73), (.iload_n 1, 0), (.iadd, 0)] (pc' := 168) (L' := [(3, .int z0), (0, .ref 0), (1, .int a1), (2, .int a2)]) (S' := [.int (73 + a1), .ref 1]) (by decide +kernel) rfl ?_
    refine sm_ald 2244 C (ltM (krM11_0 (by decide +kernel : kdM 0 = 11)) (by decide)) (krM11_0 (by decide +kernel : kdM 0 = 11)) (nrM11_0 (by decide +kernel : kdM 0 = 11)) (by decide +kernel) (fun v8 => ?_)
    exact sm_iret C hr rfl (by decide +kernel)
  refine sm_ite (fun e => ?_) (fun n90_3 => ?_)
  · refine sm_tabIn (off := 80) 170 C hd90 (by rw [e]; decide) (by rw [e]; decide) (by rw [e]; decide) (by decide) ?_
    refine sm_seg C [(.aload_n 0, 0)] (pc' := 171) (L' := [(3, .int z0), (0, .ref 0), (1, .int a1), (2, .int a2)]) (S' := [.ref 0]) (by decide +kernel) rfl ?_
    refine sm_getR 11 0 1 cls11 C (ltM (by decide +kernel : kdM 0 = 11) (by decide)) (by decide +kernel : kdM 0 = 11) (obM11 (by decide +kernel : kdM 0 = 11)) (by decide) (frM11_0 (by decide +kernel : kdM 0 = 11)) fl11_7 (by decide +kernel) ?_
    refine sm_seg C [(.bipush 87, 87), (.iload_n 1, 0), (.iadd, 0)] (pc' := 178) (L' := [(3, .int z0), (0, .ref 0), (1, .int a1), (2, .int a2)]) (S' := [.int (87 + a1), .ref 1]) (by decide +kernel) rfl ?_
    refine sm_ald 2244 C (ltM (krM11_0 (by decide +kernel : kdM 0 = 11)) (by decide)) (krM11_0 (by decide +kernel : kdM 0 = 11)) (nrM11_0 (by decide +kernel : kdM 0 = 11)) (by decide +kernel) (fun v9 => ?_)
    exact sm_iret C hr rfl (by decide +kernel)
  refine sm_ite (fun e => ?_) (fun n90_4 => ?_)
  · refine sm_tabIn (off := 90) 180 C hd90 (by rw [e]; decide) (by rw [e]; decide) (by rw [e]; decide) (by decide) ?_
    refine sm_seg C [(.aload_n 0, 0)] (pc' := 181) (L' := [(3, .int z0), (0, .ref 0), (1, .int a1), (2, .int a2)]) (S' := [.ref 0]) (by decide +kernel) rfl ?_
    refine sm_getR 11 0 1 cls11 C (ltM (by decide +kernel : kdM 0 = 11) (by decide)) (by decide +kernel : kdM 0 = 11) (obM11 (by decide +kernel : kdM 0 = 11)) (by decide) (frM11_0 (by decide +kernel : kdM 0 = 11)) fl11_7 (by decide +kernel) ?_
    refine sm_seg C [(.bipush 101, 101), (.iload_n 1, 0), (.iadd, 0)] (pc' := 188) (L' := [(3, .int z0), (0, .ref 0), (1, .int a1), (2, .int a2)]) (S' := [.int (101 + a1), .ref 1]) (by decide +kernel) rfl ?_
    refine sm_ald 2244 C (ltM (krM11_0 (by decide +kernel : kdM 0 = 11)) (by decide)) (krM11_0 (by decide +kernel : kdM 0 = 11)) (nrM11_0 (by decide +kernel : kdM 0 = 11)) (by decide +kernel) (fun v10 => ?_)
    exact sm_iret C hr rfl (by decide +kernel)
  refine sm_ite (fun e => ?_) (fun n90_5 => ?_)
  · refine sm_tabIn (off := 100) 190 C hd90 (by rw [e]; decide) (by rw [e]; decide) (by rw [e]; decide) (by decide) ?_
    refine sm_seg C [(.aload_n 0, 0)] (pc' := 191) (L' := [(3, .int z0), (0, .ref 0), (1, .int a1), (2, .int a2)]) (S' := [.ref 0]) (by decide +kernel) rfl ?_
    refine sm_getR 11 0 1 cls11 C (ltM (by decide +kernel : kdM 0 = 11) (by decide)) (by decide +kernel : kdM 0 = 11) (obM11 (by decide +kernel : kdM 0 = 11)) (by decide) (frM11_0 (by decide +kernel : kdM 0 = 11)) fl11_7 (by decide +kernel) ?_
    refine sm_seg C [(.bipush 115, 115), (.iload_n 1, 0), (.iadd, 0)] (pc' := 198) (L' := [(3, .int z0), (0, .ref 0), (1, .int a1), (2, .int a2)]) (S' := [.int (115 + a1), .ref 1]) (by decide +kernel) rfl ?_
    refine sm_ald 2244 C (ltM (krM11_0 (by decide +kernel : kdM 0 = 11)) (by decide)) (krM11_0 (by decide +kernel : kdM 0 = 11)) (nrM11_0 (by decide +kernel : kdM 0 = 11)) (by decide +kernel) (fun v11 => ?_)
    exact sm_iret C hr rfl (by decide +kernel)
  refine sm_ite (fun e => ?_) (fun n90_6 => ?_)
  · refine sm_tabIn (off := 110) 200 C hd90 (by rw [e]; decide) (by rw [e]; decide) (by rw [e]; decide) (by decide) ?_
    refine sm_seg C [(.aload_n 0, 0)] (pc' := 201) (L' := [(3, .int z0), (0, .ref 0), (1, .int a1), (2, .int a2)]) (S' := [.ref 0]) (by decide +kernel) rfl ?_
    refine sm_getR 11 0 1 cls11 C (ltM (by decide +kernel : kdM 0 = 11) (by decide)) (by decide +kernel : kdM 0 = 11) (obM11 (by decide +kernel : kdM 0 = 11)) (by decide) (frM11_0 (by decide +kernel : kdM 0 = 11)) fl11_7 (by decide +kernel) ?_
    refine sm_seg C [(.sipush 129, 129), (.iload_n 1, 0), (.iadd, 0)] (pc' := 209) (L' := [(3, .int z0), (0, .ref 0), (1, .int a1), (2, .int a2)]) (S' := [.int (129 + a1), .ref 1]) (by decide +kernel) rfl ?_
    refine sm_ald 2244 C (ltM (krM11_0 (by decide +kernel : kdM 0 = 11)) (by decide)) (krM11_0 (by decide +kernel : kdM 0 = 11)) (nrM11_0 (by decide +kernel : kdM 0 = 11)) (by decide +kernel) (fun v12 => ?_)
    exact sm_iret C hr rfl (by decide +kernel)
  refine sm_ite (fun e => ?_) (fun n90_7 => ?_)
  · refine sm_tabIn (off := 121) 211 C hd90 (by rw [e]; decide) (by rw [e]; decide) (by rw [e]; decide) (by decide) ?_
    refine sm_seg C [(.aload_n 0, 0), (.iload_n 1, 0)] (pc' := 213) (L' := [(3, .int z0), (0, .ref 0), (1, .int a1), (2, .int a2)]) (S' := [.int a1, .ref 0]) (by decide +kernel) rfl ?_
    refine sm_vcal [.int a1] [] rfl C mw_X11_criesOf ml_11_342 rfl (ci := 11) rfl (ltM (by decide +kernel : kdM 0 = 11) (by decide)) (by decide +kernel : kdM 0 = 11) (by decide) ⟨by decide, by decide⟩ (Nat.le_of_ble_eq_true rfl) (by decide +kernel) (c_X11_criesOf F a1 τ) (fun r13 τ14 => ?_)
    exact sm_iret C hr rfl (by decide +kernel)
  refine sm_ite (fun e => ?_) (fun n90_8 => ?_)
  · refine sm_tabIn (off := 127) 217 C hd90 (by rw [e]; decide) (by rw [e]; decide) (by rw [e]; decide) (by decide) ?_
    refine sm_seg C [(.iload_n 3, 0), (.iconst (-1), (-1))] (pc' := 219) (L' := [(3, .int z0), (0, .ref 0), (1, .int a1), (2, .int a2)]) (S' := [.int (-1), .int z0]) (by decide +kernel) rfl ?_
    refine sm_icmpne 226 (off := 7) C (by decide +kernel) (by decide) (fun _ => ?_) (fun _ => ?_)
    · refine sm_seg C [(.iconst (-1), (-1)), (.goto 9, 0)] (pc' := 232) (L' := [(3, .int z0), (0, .ref 0), (1, .int a1), (2, .int a2)]) (S' := [.int (-1)]) (by decide +kernel) rfl ?_
      exact sm_iret C hr rfl (by decide +kernel)
    · refine sm_seg C [(.aload_n 0, 0), (.iload_n 1, 0), (.iload_n 3, 0)] (pc' := 229) (L' := [(3, .int z0), (0, .ref 0), (1, .int a1), (2, .int a2)]) (S' := [.int z0, .int a1, .ref 0]) (by decide +kernel) rfl ?_
      refine sm_vcal [.int a1, .int z0] [] rfl C mw_X11_nodsOf ml_11_348 rfl (ci := 11) rfl (ltM (by decide +kernel : kdM 0 = 11) (by decide)) (by decide +kernel : kdM 0 = 11) (by decide) ⟨by decide, by decide⟩ (Nat.le_of_ble_eq_true rfl) (by decide +kernel) (c_X11_nodsOf F a1 z0 τ) (fun r15 τ16 => ?_)
      exact sm_iret C hr rfl (by decide +kernel)
  refine sm_tabOut 233 C hd90 (by have q0 := toInt_neZ (z := 0) n90_0 (by decide); have q1 := toInt_neZ (z := 1) n90_1 (by decide); have q2 := toInt_neZ (z := 2) n90_2 (by decide); have q3 := toInt_neZ (z := 3) n90_3 (by decide); have q4 := toInt_neZ (z := 4) n90_4 (by decide); have q5 := toInt_neZ (z := 5) n90_5 (by decide); have q6 := toInt_neZ (z := 6) n90_6 (by decide); have q7 := toInt_neZ (z := 7) n90_7 (by decide); have q8 := toInt_neZ (z := 8) n90_8 (by decide); omega) (by decide) ?_
  refine sm_seg C [(.iload_n 3, 0), (.iconst (-1), (-1))] (pc' := 235) (L' := [(3, .int z0), (0, .ref 0), (1, .int a1), (2, .int a2)]) (S' := [.int (-1), .int z0]) (by decide +kernel) rfl ?_
  refine sm_icmpne 242 (off := 7) C (by decide +kernel) (by decide) (fun _ => ?_) (fun _ => ?_)
  · refine sm_seg C [(.iconst (-1), (-1)), (.goto 9, 0)] (pc' := 248) (L' := [(3, .int z0), (0, .ref 0), (1, .int a1), (2, .int a2)]) (S' := [.int (-1)]) (by decide +kernel) rfl ?_
    exact sm_iret C hr rfl (by decide +kernel)
  · refine sm_seg C [(.aload_n 0, 0), (.iload_n 1, 0), (.iload_n 3, 0)] (pc' := 245) (L' := [(3, .int z0), (0, .ref 0), (1, .int a1), (2, .int a2)]) (S' := [.int z0, .int a1, .ref 0]) (by decide +kernel) rfl ?_
    refine sm_vcal [.int a1, .int z0] [] rfl C mw_X11_winsOf ml_11_351 rfl (ci := 11) rfl (ltM (by decide +kernel : kdM 0 = 11) (by decide)) (by decide +kernel : kdM 0 = 11) (by decide) ⟨by decide, by decide⟩ (Nat.le_of_ble_eq_true rfl) (by decide +kernel) (c_X11_winsOf F a1 z0 τ) (fun r17 τ18 => ?_)
    exact sm_iret C hr rfl (by decide +kernel)
def X11_of (F : Nat) (a1 : Int32) (a2 : Int32) (τ : Tau) : Option (Int32 × Tau) :=
  cal (X11_isMute F a1 τ) fun r1 τ2 => if r1 = 0 then (some ((-2), τ2)) else (cal (X11_isIn F a2 0 17 τ2) fun r3 τ4 => if r3 = 0 then (some ((-2), τ4)) else (if a2 < 10 then (ald τ4 1 2244 (87 + a1) fun v5 => if v5 = (-1) then (X11_of_j88 F a1 a2 (-1) τ4) else (cal (X11_nextThing F a1 τ4) fun r19 τ20 => X11_of_j88 F a1 a2 r19 τ20)) else (ald τ4 1 2244 (115 + a1) fun v21 => if v21 ≤ (a2 - 10) then (some ((-1), τ4)) else (ald τ4 1 2244 (((143 + (8 * a1)) + a2) - 10) fun v22 => some (v22, τ4)))))
set_option maxRecDepth 20000 in
set_option maxHeartbeats 4000000 in
theorem c_X11_of (F : Nat) (a1 : Int32) (a2 : Int32) (τ : Tau) (r : Int32) (τ' : Tau) (h : X11_of F a1 a2 τ = some (r, τ')) : MCi sysM yX11_of cX11_of 4 (some .int) 6 [.ref 0, .int a1, .int a2] τ r τ' :=
  mci_of (by decide +kernel) (Nat.le_of_ble_eq_true rfl) (fun K C hr => by
    show Sm K sysM 4 (Qi K sysM) (X11_of F a1 a2 τ) 0 [(0, .ref 0), (1, .int a1), (2, .int a2)] [] τ
    unfold X11_of
    refine sm_seg C [(.aload_n 0, 0), (.iload_n 1, 0)] (pc' := 2) (L' := [(0, .ref 0), (1, .int a1), (2, .int a2)]) (S' := [.int a1, .ref 0]) (by decide +kernel) rfl ?_
    refine sm_vcal [.int a1] [] rfl C mw_X11_isMute ml_11_94 rfl (ci := 11) rfl (ltM (by decide +kernel : kdM 0 = 11) (by decide)) (by decide +kernel : kdM 0 = 11) (by decide) ⟨by decide, by decide⟩ (Nat.le_of_ble_eq_true rfl) (by decide +kernel) (c_X11_isMute F a1 τ) (fun r1 τ2 => ?_)
    refine sm_ifeq 18 (off := 13) C (by decide +kernel) (by decide) (fun _ => ?_) (fun _ => ?_)
    · refine sm_seg C [(.bipush (-2), (-2))] (pc' := 20) (L' := [(0, .ref 0), (1, .int a1), (2, .int a2)]) (S' := [.int (-2)]) (by decide +kernel) rfl ?_
      exact sm_iret C hr rfl (by decide +kernel)
    · refine sm_seg C [(.iload_n 2, 0), (.iconst 0, 0), (.bipush 17, 17)] (pc' := 12) (L' := [(0, .ref 0), (1, .int a1), (2, .int a2)]) (S' := [.int 17, .int 0, .int a2]) (by decide +kernel) rfl ?_
      refine sm_scal [.int a2, .int 0, .int 17] [] rfl C mw_X11_isIn ml_11_78 rfl ⟨by decide, by decide⟩ (Nat.le_of_ble_eq_true rfl) (by decide +kernel) (c_X11_isIn F a2 0 17 τ2) (fun r3 τ4 => ?_)
      refine sm_ifne 21 (off := 6) C (by decide +kernel) (by decide) (fun _ => ?_) (fun _ => ?_)
      · refine sm_seg C [(.bipush (-2), (-2))] (pc' := 20) (L' := [(0, .ref 0), (1, .int a1), (2, .int a2)]) (S' := [.int (-2)]) (by decide +kernel) rfl ?_
        exact sm_iret C hr rfl (by decide +kernel)
      · refine sm_seg C [(.iload_n 2, 0), (.bipush 10, 10)] (pc' := 24) (L' := [(0, .ref 0), (1, .int a1), (2, .int a2)]) (S' := [.int 10, .int a2]) (by decide +kernel) rfl ?_
        refine sm_icmplt 66 (off := 42) C (by decide +kernel) (by decide) (fun _ => ?_) (fun _ => ?_)
        · refine sm_seg C [(.aload_n 0, 0)] (pc' := 67) (L' := [(0, .ref 0), (1, .int a1), (2, .int a2)]) (S' := [.ref 0]) (by decide +kernel) rfl ?_
          refine sm_getR 11 0 1 cls11 C (ltM (by decide +kernel : kdM 0 = 11) (by decide)) (by decide +kernel : kdM 0 = 11) (obM11 (by decide +kernel : kdM 0 = 11)) (by decide) (frM11_0 (by decide +kernel : kdM 0 = 11)) fl11_7 (by decide +kernel) ?_
          refine sm_seg C [(.bipush 87, 87), (.iload_n 1, 0), (.iadd, 0)] (pc' := 74) (L' := [(0, .ref 0), (1, .int a1), (2, .int a2)]) (S' := [.int (87 + a1), .ref 1]) (by decide +kernel) rfl ?_
          refine sm_ald 2244 C (ltM (krM11_0 (by decide +kernel : kdM 0 = 11)) (by decide)) (krM11_0 (by decide +kernel : kdM 0 = 11)) (nrM11_0 (by decide +kernel : kdM 0 = 11)) (by decide +kernel) (fun v5 => ?_)
          refine sm_seg C [(.iconst (-1), (-1))] (pc' := 76) (L' := [(0, .ref 0), (1, .int a1), (2, .int a2)]) (S' := [.int (-1), .int v5]) (by decide +kernel) rfl ?_
          refine sm_icmpne 83 (off := 7) C (by decide +kernel) (by decide) (fun _ => ?_) (fun _ => ?_)
          · refine sm_seg C [(.iconst (-1), (-1)), (.goto 8, 0)] (pc' := 88) (L' := [(0, .ref 0), (1, .int a1), (2, .int a2)]) (S' := [.int (-1)]) (by decide +kernel) rfl ?_
            exact sm_sub [0, 1, 2] rfl (s_X11_of_j88 F C hr a1 a2 (-1) τ4)
          · refine sm_seg C [(.aload_n 0, 0), (.iload_n 1, 0)] (pc' := 85) (L' := [(0, .ref 0), (1, .int a1), (2, .int a2)]) (S' := [.int a1, .ref 0]) (by decide +kernel) rfl ?_
            refine sm_vcal [.int a1] [] rfl C mw_X11_nextThing ml_11_360 rfl (ci := 11) rfl (ltM (by decide +kernel : kdM 0 = 11) (by decide)) (by decide +kernel : kdM 0 = 11) (by decide) ⟨by decide, by decide⟩ (Nat.le_of_ble_eq_true rfl) (by decide +kernel) (c_X11_nextThing F a1 τ4) (fun r19 τ20 => ?_)
            exact sm_sub [0, 1, 2] rfl (s_X11_of_j88 F C hr a1 a2 r19 τ20)
        · refine sm_seg C [(.iload_n 2, 0), (.bipush 10, 10), (.isub, 0), (.aload_n 0, 0)] (pc' := 32) (L' := [(0, .ref 0), (1, .int a1), (2, .int a2)]) (S' := [.ref 0, .int (a2 - 10)]) (by decide +kernel) rfl ?_
          refine sm_getR 11 0 1 cls11 C (ltM (by decide +kernel : kdM 0 = 11) (by decide)) (by decide +kernel : kdM 0 = 11) (obM11 (by decide +kernel : kdM 0 = 11)) (by decide) (frM11_0 (by decide +kernel : kdM 0 = 11)) fl11_7 (by decide +kernel) ?_
          refine sm_seg C [(.bipush 115, 115), (.iload_n 1, 0), (.iadd, 0)] (pc' := 39) (L' := [(0, .ref 0), (1, .int a1), (2, .int a2)]) (S' := [.int (115 + a1), .ref 1, .int (a2 - 10)]) (by decide +kernel) rfl ?_
          refine sm_ald 2244 C (ltM (krM11_0 (by decide +kernel : kdM 0 = 11)) (by decide)) (krM11_0 (by decide +kernel : kdM 0 = 11)) (nrM11_0 (by decide +kernel : kdM 0 = 11)) (by decide +kernel) (fun v21 => ?_)
          refine sm_icmpge 64 (off := 24) C (by decide +kernel) (by decide) (fun _ => ?_) (fun _ => ?_)
          · refine sm_seg C [(.iconst (-1), (-1))] (pc' := 65) (L' := [(0, .ref 0), (1, .int a1), (2, .int a2)]) (S' := [.int (-1)]) (by decide +kernel) rfl ?_
            exact sm_iret C hr rfl (by decide +kernel)
          · refine sm_seg C [(.aload_n 0, 0)] (pc' := 44) (L' := [(0, .ref 0), (1, .int a1), (2, .int a2)]) (S' := [.ref 0]) (by decide +kernel) rfl ?_
            refine sm_getR 11 0 1 cls11 C (ltM (by decide +kernel : kdM 0 = 11) (by decide)) (by decide +kernel : kdM 0 = 11) (obM11 (by decide +kernel : kdM 0 = 11)) (by decide) (frM11_0 (by decide +kernel : kdM 0 = 11)) fl11_7 (by decide +kernel) ?_
            refine sm_seg C [(.sipush 143, 143), (.bipush 8, 8), (.iload_n 1, 0), (.imul, 0), (.iadd, 0), (.iload_n 2, 0), (.iadd, 0), (.bipush 10, 10), (.isub, 0)] (pc' := 60) (L' := [(0, .ref 0), (1, .int a1), (2, .int a2)]) (S' := [.int (((143 + (8 * a1)) + a2) - 10), .ref 1]) (by decide +kernel) rfl ?_
            refine sm_ald 2244 C (ltM (krM11_0 (by decide +kernel : kdM 0 = 11)) (by decide)) (krM11_0 (by decide +kernel : kdM 0 = 11)) (nrM11_0 (by decide +kernel : kdM 0 = 11)) (by decide +kernel) (fun v22 => ?_)
            refine sm_seg C [(.goto 4, 0)] (pc' := 65) (L' := [(0, .ref 0), (1, .int a1), (2, .int a2)]) (S' := [.int v22]) (by decide +kernel) rfl ?_
            exact sm_iret C hr rfl (by decide +kernel)) h
/-! BasketEnvoysModel.onePrickMore -/
def X11_onePrickMore_L47 (F : Nat) : Nat → Int32 → Tau → Option (Int32 × Tau)
  | 0, _, _ => none
  | n + 1, a2, τ =>
    if 441 ≤ a2 then (some (0, τ)) else (ald τ 13 441 a2 fun v1 => ast τ 12 441 a2 (vp_nar .boolean v1) fun τ2 => X11_onePrickMore_L47 F n (a2 + 1) τ2)
theorem s_X11_onePrickMore_L47 (F : Nat) {K : Ctx} (C : Cx K sysM RX11 cX11_onePrickMore 4 2) (hr : Rt K none) : ∀ (n : Nat) (a2 : Int32) (τ : Tau), Sm K sysM 4 (Qv K sysM) (X11_onePrickMore_L47 F n a2 τ) 47 [(0, .ref 0), (2, .int a2)] [] τ := by
  intro n
  induction n with
  | zero => intro a2 τ; exact sm_none
  | succ n ih =>
    intro a2 τ
    rw [X11_onePrickMore_L47]
    refine sm_seg C [(.iload_n 2, 0), (.sipush 441, 441)] (pc' := 51) (L' := [(0, .ref 0), (2, .int a2)]) (S' := [.int 441, .int a2]) (by decide +kernel) rfl ?_
    refine sm_icmpge 72 (off := 21) C (by decide +kernel) (by decide) (fun _ => ?_) (fun _ => ?_)
    · exact sm_vret C hr (by decide +kernel)
    · refine sm_seg C [(.aload_n 0, 0)] (pc' := 55) (L' := [(0, .ref 0), (2, .int a2)]) (S' := [.ref 0]) (by decide +kernel) rfl ?_
      refine sm_getR 11 28 12 cls11 C (ltM (by decide +kernel : kdM 0 = 11) (by decide)) (by decide +kernel : kdM 0 = 11) (obM11 (by decide +kernel : kdM 0 = 11)) (by decide) (frM11_28 (by decide +kernel : kdM 0 = 11)) fl11_47 (by decide +kernel) ?_
      refine sm_seg C [(.iload_n 2, 0), (.aload_n 0, 0)] (pc' := 60) (L' := [(0, .ref 0), (2, .int a2)]) (S' := [.ref 0, .int a2, .ref 12]) (by decide +kernel) rfl ?_
      refine sm_getR 11 29 13 cls11 C (ltM (by decide +kernel : kdM 0 = 11) (by decide)) (by decide +kernel : kdM 0 = 11) (obM11 (by decide +kernel : kdM 0 = 11)) (by decide) (frM11_29 (by decide +kernel : kdM 0 = 11)) fl11_51 (by decide +kernel) ?_
      refine sm_seg C [(.iload_n 2, 0)] (pc' := 64) (L' := [(0, .ref 0), (2, .int a2)]) (S' := [.int a2, .ref 13, .int a2, .ref 12]) (by decide +kernel) rfl ?_
      refine sm_ldz 441 C (ltM (krM11_29 (by decide +kernel : kdM 0 = 11)) (by decide)) (krM11_29 (by decide +kernel : kdM 0 = 11)) (nrM11_29 (by decide +kernel : kdM 0 = 11)) (by decide +kernel) (fun v1 => ?_)
      refine sm_astz 441 C (ltM (krM11_28 (by decide +kernel : kdM 0 = 11)) (by decide)) (krM11_28 (by decide +kernel : kdM 0 = 11)) (nrM11_28 (by decide +kernel : kdM 0 = 11)) (by decide +kernel) (fun τ2 => ?_)
      refine sm_seg C [(.iinc 2 1, 1), (.goto (-22), 0)] (pc' := 47) (L' := [(2, .int (a2 + 1)), (0, .ref 0)]) (S' := []) (by decide +kernel) rfl ?_
      exact sm_sub [1, 0] rfl (ih (a2 + 1) τ2)
def X11_onePrickMore_L9 (F : Nat) (self2 : Int32 → Int32 → Tau → Option (Int32 × Tau)) : Nat → Int32 → Int32 → Int32 → Tau → Option (Int32 × Tau)
  | 0, _, _, _, _ => none
  | n + 1, a1, a2, a3, τ =>
    if a1 < (a2 + a3) then (self2 a1 (a2 + 1) τ) else (cal (X11_canPart F a2 a3 τ) fun r3 τ4 => ast τ4 13 441 ((21 * a2) + a3) (vp_nar .boolean r3) fun τ5 => X11_onePrickMore_L9 F self2 n a1 a2 (a3 + 1) τ5)
theorem s_X11_onePrickMore_L9 (F : Nat) {K : Ctx} (C : Cx K sysM RX11 cX11_onePrickMore 4 2) (hr : Rt K none) (self2 : Int32 → Int32 → Tau → Option (Int32 × Tau)) (ih2 : ∀ (a1 : Int32) (a2 : Int32) (τ : Tau), Sm K sysM 4 (Qv K sysM) (self2 a1 a2 τ) 2 [(0, .ref 0), (1, .int a1), (2, .int a2)] [] τ) : ∀ (n : Nat) (a1 : Int32) (a2 : Int32) (a3 : Int32) (τ : Tau), Sm K sysM 4 (Qv K sysM) (X11_onePrickMore_L9 F self2 n a1 a2 a3 τ) 9 [(0, .ref 0), (1, .int a1), (2, .int a2), (3, .int a3)] [] τ := by
  intro n
  induction n with
  | zero => intro a1 a2 a3 τ; exact sm_none
  | succ n ih =>
    intro a1 a2 a3 τ
    rw [X11_onePrickMore_L9]
    refine sm_seg C [(.iload_n 2, 0), (.iload_n 3, 0), (.iadd, 0), (.iload_n 1, 0)] (pc' := 13) (L' := [(0, .ref 0), (1, .int a1), (2, .int a2), (3, .int a3)]) (S' := [.int a1, .int (a2 + a3)]) (by decide +kernel) rfl ?_
    refine sm_icmpgt 39 (off := 26) C (by decide +kernel) (by decide) (fun _ => ?_) (fun _ => ?_)
    · refine sm_seg C [(.iinc 2 1, 1), (.goto (-40), 0)] (pc' := 2) (L' := [(2, .int (a2 + 1)), (0, .ref 0), (1, .int a1), (3, .int a3)]) (S' := []) (by decide +kernel) rfl ?_
      exact sm_sub [1, 2, 0] rfl (ih2 a1 (a2 + 1) τ)
    · refine sm_seg C [(.aload_n 0, 0)] (pc' := 17) (L' := [(0, .ref 0), (1, .int a1), (2, .int a2), (3, .int a3)]) (S' := [.ref 0]) (by decide +kernel) rfl ?_
      refine sm_getR 11 29 13 cls11 C (ltM (by decide +kernel : kdM 0 = 11) (by decide)) (by decide +kernel : kdM 0 = 11) (obM11 (by decide +kernel : kdM 0 = 11)) (by decide) (frM11_29 (by decide +kernel : kdM 0 = 11)) fl11_51 (by decide +kernel) ?_
      refine sm_seg C [(.bipush 21, 21), (.iload_n 2, 0), (.imul, 0), (.iload_n 3, 0), (.iadd, 0), (.aload_n 0, 0), (.iload_n 2, 0), (.iload_n 3, 0)] (pc' := 29) (L' := [(0, .ref 0), (1, .int a1), (2, .int a2), (3, .int a3)]) (S' := [.int a3, .int a2, .ref 0, .int ((21 * a2) + a3), .ref 13]) (by decide +kernel) rfl ?_
      refine sm_vcal [.int a2, .int a3] [.int ((21 * a2) + a3), .ref 13] rfl C mw_X11_canPart ml_11_412 rfl (ci := 11) rfl (ltM (by decide +kernel : kdM 0 = 11) (by decide)) (by decide +kernel : kdM 0 = 11) (by decide) ⟨by decide, by decide⟩ (Nat.le_of_ble_eq_true rfl) (by decide +kernel) (c_X11_canPart F a2 a3 τ) (fun r3 τ4 => ?_)
      refine sm_astz 441 C (ltM (krM11_29 (by decide +kernel : kdM 0 = 11)) (by decide)) (krM11_29 (by decide +kernel : kdM 0 = 11)) (nrM11_29 (by decide +kernel : kdM 0 = 11)) (by decide +kernel) (fun τ5 => ?_)
      refine sm_seg C [(.iinc 3 1, 1), (.goto (-27), 0)] (pc' := 9) (L' := [(3, .int (a3 + 1)), (0, .ref 0), (1, .int a1), (2, .int a2)]) (S' := []) (by decide +kernel) rfl ?_
      exact sm_sub [1, 2, 3, 0] rfl (ih a1 a2 (a3 + 1) τ5)
def X11_onePrickMore_L2 (F : Nat) : Nat → Int32 → Int32 → Tau → Option (Int32 × Tau)
  | 0, _, _, _ => none
  | n + 1, a1, a2, τ =>
    if a1 < a2 then (X11_onePrickMore_L47 F F 0 τ) else (X11_onePrickMore_L9 F (X11_onePrickMore_L2 F n) F a1 a2 0 τ)
theorem s_X11_onePrickMore_L2 (F : Nat) {K : Ctx} (C : Cx K sysM RX11 cX11_onePrickMore 4 2) (hr : Rt K none) : ∀ (n : Nat) (a1 : Int32) (a2 : Int32) (τ : Tau), Sm K sysM 4 (Qv K sysM) (X11_onePrickMore_L2 F n a1 a2 τ) 2 [(0, .ref 0), (1, .int a1), (2, .int a2)] [] τ := by
  intro n
  induction n with
  | zero => intro a1 a2 τ; exact sm_none
  | succ n ih =>
    intro a1 a2 τ
    rw [X11_onePrickMore_L2]
    refine sm_seg C [(.iload_n 2, 0), (.iload_n 1, 0)] (pc' := 4) (L' := [(0, .ref 0), (1, .int a1), (2, .int a2)]) (S' := [.int a1, .int a2]) (by decide +kernel) rfl ?_
    refine sm_icmpgt 45 (off := 41) C (by decide +kernel) (by decide) (fun _ => ?_) (fun _ => ?_)
    · refine sm_seg C [(.iconst 0, 0), (.istore_n 2, 0)] (pc' := 47) (L' := [(2, .int 0), (0, .ref 0), (1, .int a1)]) (S' := []) (by decide +kernel) rfl ?_
      exact sm_sub [1, 0] rfl (s_X11_onePrickMore_L47 F C hr F 0 τ)
    · refine sm_seg C [(.iconst 0, 0), (.istore_n 3, 0)] (pc' := 9) (L' := [(3, .int 0), (0, .ref 0), (1, .int a1), (2, .int a2)]) (S' := []) (by decide +kernel) rfl ?_
      exact sm_sub [1, 2, 3, 0] rfl (s_X11_onePrickMore_L9 F C hr (X11_onePrickMore_L2 F n) ih F a1 a2 0 τ)
def X11_onePrickMore (F : Nat) (a1 : Int32) (τ : Tau) : Option (Int32 × Tau) :=
  X11_onePrickMore_L2 F F a1 0 τ
set_option maxRecDepth 20000 in
set_option maxHeartbeats 4000000 in
theorem c_X11_onePrickMore (F : Nat) (a1 : Int32) (τ : Tau) (r : Int32) (τ' : Tau) (h : X11_onePrickMore F a1 τ = some (r, τ')) : MCv sysM yX11_onePrickMore cX11_onePrickMore 4 2 [.ref 0, .int a1] τ τ' :=
  mcv_of (by decide +kernel) (Nat.le_of_ble_eq_true rfl) (fun K C hr => by
    show Sm K sysM 4 (Qv K sysM) (X11_onePrickMore F a1 τ) 0 [(0, .ref 0), (1, .int a1)] [] τ
    unfold X11_onePrickMore
    refine sm_seg C [(.iconst 0, 0), (.istore_n 2, 0)] (pc' := 2) (L' := [(2, .int 0), (0, .ref 0), (1, .int a1)]) (S' := []) (by decide +kernel) rfl ?_
    exact sm_sub [1, 2, 0] rfl (s_X11_onePrickMore_L2 F C hr F a1 0 τ)) h
/-! BasketEnvoysModel.peace -/
def X11_peace_j80 (F : Nat) (a2 : Int32) (z0 : Int32) (τ : Tau) : Option (Int32 × Tau) :=
  cal (X11_putsBack F τ) fun r7 τ8 => if z0 = 0 then (some ((-1), τ8)) else (some (a2, τ8))
theorem s_X11_peace_j80 (F : Nat) {K : Ctx} (C : Cx K sysM RX11 cX11_peace 4 9) (hr : Rt K (some .int)) (a2 : Int32) (z0 : Int32) (τ : Tau) : Sm K sysM 4 (Qi K sysM) (X11_peace_j80 F a2 z0 τ) 80 [(0, .ref 0), (2, .int a2)] [.int z0] τ := by
  unfold X11_peace_j80
  refine sm_seg C [(.istore_n 3, 0), (.aload_n 0, 0)] (pc' := 82) (L' := [(3, .int z0), (0, .ref 0), (2, .int a2)]) (S' := [.ref 0]) (by decide +kernel) rfl ?_
  refine sm_vcalv [] [] rfl C mw_X11_putsBack ml_11_385 rfl (ci := 11) rfl (ltM (by decide +kernel : kdM 0 = 11) (by decide)) (by decide +kernel : kdM 0 = 11) (by decide) ⟨by decide, by decide⟩ (Nat.le_of_ble_eq_true rfl) (by decide +kernel) (c_X11_putsBack F τ) (fun r7 τ8 => ?_)
  refine sm_seg C [(.iload_n 3, 0)] (pc' := 86) (L' := [(3, .int z0), (0, .ref 0), (2, .int a2)]) (S' := [.int z0]) (by decide +kernel) rfl ?_
  refine sm_ifeq 93 (off := 7) C (by decide +kernel) (by decide) (fun _ => ?_) (fun _ => ?_)
  · refine sm_seg C [(.iconst (-1), (-1))] (pc' := 94) (L' := [(3, .int z0), (0, .ref 0), (2, .int a2)]) (S' := [.int (-1)]) (by decide +kernel) rfl ?_
    exact sm_iret C hr rfl (by decide +kernel)
  · refine sm_seg C [(.iload_n 2, 0), (.goto 4, 0)] (pc' := 94) (L' := [(3, .int z0), (0, .ref 0), (2, .int a2)]) (S' := [.int a2]) (by decide +kernel) rfl ?_
    exact sm_iret C hr rfl (by decide +kernel)
def X11_peace_j54 (F : Nat) (a1 : Int32) (a2 : Int32) (τ : Tau) : Option (Int32 × Tau) :=
  ald τ 1 2244 (35 + a1) fun v5 => ald τ 4 255 (35 + a1) fun v6 => if v5 ≤ v6 then (X11_peace_j80 F a2 0 τ) else (X11_peace_j80 F a2 1 τ)
theorem s_X11_peace_j54 (F : Nat) {K : Ctx} (C : Cx K sysM RX11 cX11_peace 4 9) (hr : Rt K (some .int)) (a1 : Int32) (a2 : Int32) (τ : Tau) : Sm K sysM 4 (Qi K sysM) (X11_peace_j54 F a1 a2 τ) 54 [(0, .ref 0), (1, .int a1), (2, .int a2)] [] τ := by
  unfold X11_peace_j54
  refine sm_seg C [(.aload_n 0, 0)] (pc' := 55) (L' := [(0, .ref 0), (1, .int a1), (2, .int a2)]) (S' := [.ref 0]) (by decide +kernel) rfl ?_
  refine sm_getR 11 0 1 cls11 C (ltM (by decide +kernel : kdM 0 = 11) (by decide)) (by decide +kernel : kdM 0 = 11) (obM11 (by decide +kernel : kdM 0 = 11)) (by decide) (frM11_0 (by decide +kernel : kdM 0 = 11)) fl11_7 (by decide +kernel) ?_
  refine sm_seg C [(.bipush 35, 35), (.iload_n 1, 0), (.iadd, 0)] (pc' := 62) (L' := [(0, .ref 0), (1, .int a1), (2, .int a2)]) (S' := [.int (35 + a1), .ref 1]) (by decide +kernel) rfl ?_
  refine sm_ald 2244 C (ltM (krM11_0 (by decide +kernel : kdM 0 = 11)) (by decide)) (krM11_0 (by decide +kernel : kdM 0 = 11)) (nrM11_0 (by decide +kernel : kdM 0 = 11)) (by decide +kernel) (fun v5 => ?_)
  refine sm_seg C [(.aload_n 0, 0)] (pc' := 64) (L' := [(0, .ref 0), (1, .int a1), (2, .int a2)]) (S' := [.ref 0, .int v5]) (by decide +kernel) rfl ?_
  refine sm_getR 11 3 4 cls11 C (ltM (by decide +kernel : kdM 0 = 11) (by decide)) (by decide +kernel : kdM 0 = 11) (obM11 (by decide +kernel : kdM 0 = 11)) (by decide) (frM11_3 (by decide +kernel : kdM 0 = 11)) fl11_19 (by decide +kernel) ?_
  refine sm_seg C [(.bipush 35, 35), (.iload_n 1, 0), (.iadd, 0)] (pc' := 71) (L' := [(0, .ref 0), (1, .int a1), (2, .int a2)]) (S' := [.int (35 + a1), .ref 4, .int v5]) (by decide +kernel) rfl ?_
  refine sm_ald 255 C (ltM (krM11_3 (by decide +kernel : kdM 0 = 11)) (by decide)) (krM11_3 (by decide +kernel : kdM 0 = 11)) (nrM11_3 (by decide +kernel : kdM 0 = 11)) (by decide +kernel) (fun v6 => ?_)
  refine sm_icmple 79 (off := 7) C (by decide +kernel) (by decide) (fun _ => ?_) (fun _ => ?_)
  · refine sm_seg C [(.iconst 0, 0)] (pc' := 80) (L' := [(0, .ref 0), (1, .int a1), (2, .int a2)]) (S' := [.int 0]) (by decide +kernel) rfl ?_
    exact sm_sub [0, 2] rfl (s_X11_peace_j80 F C hr a2 0 τ)
  · refine sm_seg C [(.iconst 1, 1), (.goto 4, 0)] (pc' := 80) (L' := [(0, .ref 0), (1, .int a1), (2, .int a2)]) (S' := [.int 1]) (by decide +kernel) rfl ?_
    exact sm_sub [0, 2] rfl (s_X11_peace_j80 F C hr a2 1 τ)
def X11_peace_L16 (F : Nat) : Nat → Int32 → Int32 → Tau → Option (Int32 × Tau)
  | 0, _, _, _ => none
  | n + 1, a1, a2, τ =>
    if 60 ≤ a2 then (X11_peace_j54 F a1 a2 τ) else (ald τ 1 2244 (35 + a1) fun v9 => ald τ 4 255 (35 + a1) fun v10 => if v9 = v10 then (cal (X11_goesBy F τ) fun r11 τ12 => X11_peace_L16 F n a1 (a2 + 1) τ12) else (X11_peace_j54 F a1 a2 τ))
theorem s_X11_peace_L16 (F : Nat) {K : Ctx} (C : Cx K sysM RX11 cX11_peace 4 9) (hr : Rt K (some .int)) : ∀ (n : Nat) (a1 : Int32) (a2 : Int32) (τ : Tau), Sm K sysM 4 (Qi K sysM) (X11_peace_L16 F n a1 a2 τ) 16 [(0, .ref 0), (1, .int a1), (2, .int a2)] [] τ := by
  intro n
  induction n with
  | zero => intro a1 a2 τ; exact sm_none
  | succ n ih =>
    intro a1 a2 τ
    rw [X11_peace_L16]
    refine sm_seg C [(.iload_n 2, 0), (.bipush 60, 60)] (pc' := 19) (L' := [(0, .ref 0), (1, .int a1), (2, .int a2)]) (S' := [.int 60, .int a2]) (by decide +kernel) rfl ?_
    refine sm_icmpge 54 (off := 35) C (by decide +kernel) (by decide) (fun _ => ?_) (fun _ => ?_)
    · exact sm_sub [0, 1, 2] rfl (s_X11_peace_j54 F C hr a1 a2 τ)
    · refine sm_seg C [(.aload_n 0, 0)] (pc' := 23) (L' := [(0, .ref 0), (1, .int a1), (2, .int a2)]) (S' := [.ref 0]) (by decide +kernel) rfl ?_
      refine sm_getR 11 0 1 cls11 C (ltM (by decide +kernel : kdM 0 = 11) (by decide)) (by decide +kernel : kdM 0 = 11) (obM11 (by decide +kernel : kdM 0 = 11)) (by decide) (frM11_0 (by decide +kernel : kdM 0 = 11)) fl11_7 (by decide +kernel) ?_
      refine sm_seg C [(.bipush 35, 35), (.iload_n 1, 0), (.iadd, 0)] (pc' := 30) (L' := [(0, .ref 0), (1, .int a1), (2, .int a2)]) (S' := [.int (35 + a1), .ref 1]) (by decide +kernel) rfl ?_
      refine sm_ald 2244 C (ltM (krM11_0 (by decide +kernel : kdM 0 = 11)) (by decide)) (krM11_0 (by decide +kernel : kdM 0 = 11)) (nrM11_0 (by decide +kernel : kdM 0 = 11)) (by decide +kernel) (fun v9 => ?_)
      refine sm_seg C [(.aload_n 0, 0)] (pc' := 32) (L' := [(0, .ref 0), (1, .int a1), (2, .int a2)]) (S' := [.ref 0, .int v9]) (by decide +kernel) rfl ?_
      refine sm_getR 11 3 4 cls11 C (ltM (by decide +kernel : kdM 0 = 11) (by decide)) (by decide +kernel : kdM 0 = 11) (obM11 (by decide +kernel : kdM 0 = 11)) (by decide) (frM11_3 (by decide +kernel : kdM 0 = 11)) fl11_19 (by decide +kernel) ?_
      refine sm_seg C [(.bipush 35, 35), (.iload_n 1, 0), (.iadd, 0)] (pc' := 39) (L' := [(0, .ref 0), (1, .int a1), (2, .int a2)]) (S' := [.int (35 + a1), .ref 4, .int v9]) (by decide +kernel) rfl ?_
      refine sm_ald 255 C (ltM (krM11_3 (by decide +kernel : kdM 0 = 11)) (by decide)) (krM11_3 (by decide +kernel : kdM 0 = 11)) (nrM11_3 (by decide +kernel : kdM 0 = 11)) (by decide +kernel) (fun v10 => ?_)
      refine sm_icmpne 54 (off := 14) C (by decide +kernel) (by decide) (fun _ => ?_) (fun _ => ?_)
      · refine sm_seg C [(.aload_n 0, 0)] (pc' := 44) (L' := [(0, .ref 0), (1, .int a1), (2, .int a2)]) (S' := [.ref 0]) (by decide +kernel) rfl ?_
        refine sm_vcal [] [] rfl C mw_X11_goesBy ml_11_373 rfl (ci := 11) rfl (ltM (by decide +kernel : kdM 0 = 11) (by decide)) (by decide +kernel : kdM 0 = 11) (by decide) ⟨by decide, by decide⟩ (Nat.le_of_ble_eq_true rfl) (by decide +kernel) (c_X11_goesBy F τ) (fun r11 τ12 => ?_)
        refine sm_seg C [(.pop, 0), (.iinc 2 1, 1), (.goto (-35), 0)] (pc' := 16) (L' := [(2, .int (a2 + 1)), (0, .ref 0), (1, .int a1)]) (S' := []) (by decide +kernel) rfl ?_
        exact sm_sub [1, 2, 0] rfl (ih a1 (a2 + 1) τ12)
      · exact sm_sub [0, 1, 2] rfl (s_X11_peace_j54 F C hr a1 a2 τ)
def X11_peace (F : Nat) (a1 : Int32) (τ : Tau) : Option (Int32 × Tau) :=
  cal (X11_isPower F a1 τ) fun r1 τ2 => if r1 = 0 then (some ((-1), τ2)) else (cal (X11_thinks F τ2) fun r3 τ4 => X11_peace_L16 F F a1 0 τ4)
set_option maxRecDepth 20000 in
set_option maxHeartbeats 4000000 in
theorem c_X11_peace (F : Nat) (a1 : Int32) (τ : Tau) (r : Int32) (τ' : Tau) (h : X11_peace F a1 τ = some (r, τ')) : MCi sysM yX11_peace cX11_peace 4 (some .int) 9 [.ref 0, .int a1] τ r τ' :=
  mci_of (by decide +kernel) (Nat.le_of_ble_eq_true rfl) (fun K C hr => by
    show Sm K sysM 4 (Qi K sysM) (X11_peace F a1 τ) 0 [(0, .ref 0), (1, .int a1)] [] τ
    unfold X11_peace
    refine sm_seg C [(.aload_n 0, 0), (.iload_n 1, 0)] (pc' := 2) (L' := [(0, .ref 0), (1, .int a1)]) (S' := [.int a1, .ref 0]) (by decide +kernel) rfl ?_
    refine sm_vcal [.int a1] [] rfl C mw_X11_isPower ml_11_90 rfl (ci := 11) rfl (ltM (by decide +kernel : kdM 0 = 11) (by decide)) (by decide +kernel : kdM 0 = 11) (by decide) ⟨by decide, by decide⟩ (Nat.le_of_ble_eq_true rfl) (by decide +kernel) (c_X11_isPower F a1 τ) (fun r1 τ2 => ?_)
    refine sm_ifne 10 (off := 5) C (by decide +kernel) (by decide) (fun _ => ?_) (fun _ => ?_)
    · refine sm_seg C [(.iconst (-1), (-1))] (pc' := 9) (L' := [(0, .ref 0), (1, .int a1)]) (S' := [.int (-1)]) (by decide +kernel) rfl ?_
      exact sm_iret C hr rfl (by decide +kernel)
    · refine sm_seg C [(.aload_n 0, 0)] (pc' := 11) (L' := [(0, .ref 0), (1, .int a1)]) (S' := [.ref 0]) (by decide +kernel) rfl ?_
      refine sm_vcalv [] [] rfl C mw_X11_thinks ml_11_379 rfl (ci := 11) rfl (ltM (by decide +kernel : kdM 0 = 11) (by decide)) (by decide +kernel : kdM 0 = 11) (by decide) ⟨by decide, by decide⟩ (Nat.le_of_ble_eq_true rfl) (by decide +kernel) (c_X11_thinks F τ2) (fun r3 τ4 => ?_)
      refine sm_seg C [(.iconst 0, 0), (.istore_n 2, 0)] (pc' := 16) (L' := [(2, .int 0), (0, .ref 0), (1, .int a1)]) (S' := []) (by decide +kernel) rfl ?_
      exact sm_sub [1, 2, 0] rfl (s_X11_peace_L16 F C hr F a1 0 τ4)) h
/-! BasketEnvoysModel.pins -/
def X11_pins_j86 (F : Nat) (self69 : Int32 → Int32 → Int32 → Tau → Option (Int32 × Tau)) (a1 : Int32) (a2 : Int32) (a3 : Int32) (z0 : Int32) (τ : Tau) : Option (Int32 × Tau) :=
  ald τ 12 441 z0 fun v5 => if v5 = 0 then (cal (X11_onePrickMore F a1 τ) fun r6 τ7 => self69 a1 a2 (a3 + 1) τ7) else (some (a3, τ))
theorem s_X11_pins_j86 (F : Nat) {K : Ctx} (C : Cx K sysM RX11 cX11_pins 4 3) (hr : Rt K (some .int)) (self69 : Int32 → Int32 → Int32 → Tau → Option (Int32 × Tau)) (ih69 : ∀ (a1 : Int32) (a2 : Int32) (a3 : Int32) (τ : Tau), Sm K sysM 4 (Qi K sysM) (self69 a1 a2 a3 τ) 69 [(0, .ref 0), (1, .int a1), (2, .int a2), (3, .int a3)] [] τ) (a1 : Int32) (a2 : Int32) (a3 : Int32) (z0 : Int32) (τ : Tau) : Sm K sysM 4 (Qi K sysM) (X11_pins_j86 F self69 a1 a2 a3 z0 τ) 86 [(0, .ref 0), (1, .int a1), (2, .int a2), (3, .int a3)] [.int z0, .ref 12] τ := by
  unfold X11_pins_j86
  refine sm_ldz 441 C (ltM (krM11_28 (by decide +kernel : kdM 0 = 11)) (by decide)) (krM11_28 (by decide +kernel : kdM 0 = 11)) (nrM11_28 (by decide +kernel : kdM 0 = 11)) (by decide +kernel) (fun v5 => ?_)
  refine sm_ifne 101 (off := 14) C (by decide +kernel) (by decide) (fun _ => ?_) (fun _ => ?_)
  · refine sm_seg C [(.aload_n 0, 0), (.iload_n 1, 0)] (pc' := 92) (L' := [(0, .ref 0), (1, .int a1), (2, .int a2), (3, .int a3)]) (S' := [.int a1, .ref 0]) (by decide +kernel) rfl ?_
    refine sm_vcalv [.int a1] [] rfl C mw_X11_onePrickMore ml_11_415 rfl (ci := 11) rfl (ltM (by decide +kernel : kdM 0 = 11) (by decide)) (by decide +kernel : kdM 0 = 11) (by decide) ⟨by decide, by decide⟩ (Nat.le_of_ble_eq_true rfl) (by decide +kernel) (c_X11_onePrickMore F a1 τ) (fun r6 τ7 => ?_)
    refine sm_seg C [(.iinc 3 1, 1), (.goto (-29), 0)] (pc' := 69) (L' := [(3, .int (a3 + 1)), (0, .ref 0), (1, .int a1), (2, .int a2)]) (S' := []) (by decide +kernel) rfl ?_
    exact sm_sub [1, 2, 3, 0] rfl (ih69 a1 a2 (a3 + 1) τ7)
  · refine sm_seg C [(.iload_n 3, 0)] (pc' := 102) (L' := [(0, .ref 0), (1, .int a1), (2, .int a2), (3, .int a3)]) (S' := [.int a3]) (by decide +kernel) rfl ?_
    exact sm_iret C hr rfl (by decide +kernel)
def X11_pins_L69 (F : Nat) : Nat → Int32 → Int32 → Int32 → Tau → Option (Int32 × Tau)
  | 0, _, _, _, _ => none
  | n + 1, a1, a2, a3, τ =>
    if a2 = 1 then (X11_pins_j86 F (X11_pins_L69 F n) a1 a2 a3 (21 * a1) τ) else (X11_pins_j86 F (X11_pins_L69 F n) a1 a2 a3 a1 τ)
theorem s_X11_pins_L69 (F : Nat) {K : Ctx} (C : Cx K sysM RX11 cX11_pins 4 3) (hr : Rt K (some .int)) : ∀ (n : Nat) (a1 : Int32) (a2 : Int32) (a3 : Int32) (τ : Tau), Sm K sysM 4 (Qi K sysM) (X11_pins_L69 F n a1 a2 a3 τ) 69 [(0, .ref 0), (1, .int a1), (2, .int a2), (3, .int a3)] [] τ := by
  intro n
  induction n with
  | zero => intro a1 a2 a3 τ; exact sm_none
  | succ n ih =>
    intro a1 a2 a3 τ
    rw [X11_pins_L69]
    refine sm_seg C [(.aload_n 0, 0)] (pc' := 70) (L' := [(0, .ref 0), (1, .int a1), (2, .int a2), (3, .int a3)]) (S' := [.ref 0]) (by decide +kernel) rfl ?_
    refine sm_getR 11 28 12 cls11 C (ltM (by decide +kernel : kdM 0 = 11) (by decide)) (by decide +kernel : kdM 0 = 11) (obM11 (by decide +kernel : kdM 0 = 11)) (by decide) (frM11_28 (by decide +kernel : kdM 0 = 11)) fl11_47 (by decide +kernel) ?_
    refine sm_seg C [(.iload_n 2, 0), (.iconst 1, 1)] (pc' := 75) (L' := [(0, .ref 0), (1, .int a1), (2, .int a2), (3, .int a3)]) (S' := [.int 1, .int a2, .ref 12]) (by decide +kernel) rfl ?_
    refine sm_icmpne 85 (off := 10) C (by decide +kernel) (by decide) (fun _ => ?_) (fun _ => ?_)
    · refine sm_seg C [(.bipush 21, 21), (.iload_n 1, 0), (.imul, 0), (.goto 4, 0)] (pc' := 86) (L' := [(0, .ref 0), (1, .int a1), (2, .int a2), (3, .int a3)]) (S' := [.int (21 * a1), .ref 12]) (by decide +kernel) rfl ?_
      exact sm_sub [0, 1, 2, 3] rfl (s_X11_pins_j86 F C hr (X11_pins_L69 F n) ih a1 a2 a3 (21 * a1) τ)
    · refine sm_seg C [(.iload_n 1, 0)] (pc' := 86) (L' := [(0, .ref 0), (1, .int a1), (2, .int a2), (3, .int a3)]) (S' := [.int a1, .ref 12]) (by decide +kernel) rfl ?_
      exact sm_sub [0, 1, 2, 3] rfl (s_X11_pins_j86 F C hr (X11_pins_L69 F n) ih a1 a2 a3 a1 τ)
def X11_pins_j53 (F : Nat) (self23 : Int32 → Int32 → Int32 → Tau → Option (Int32 × Tau)) (a1 : Int32) (a2 : Int32) (a3 : Int32) (z0 : Int32) (z1 : Int32) (τ : Tau) : Option (Int32 × Tau) :=
  ast τ 12 441 z1 (vp_nar .boolean z0) fun τ8 => ast τ8 13 441 a3 (vp_nar .boolean 0) fun τ9 => self23 a1 a2 (a3 + 1) τ9
theorem s_X11_pins_j53 (F : Nat) {K : Ctx} (C : Cx K sysM RX11 cX11_pins 4 3) (hr : Rt K (some .int)) (self23 : Int32 → Int32 → Int32 → Tau → Option (Int32 × Tau)) (ih23 : ∀ (a1 : Int32) (a2 : Int32) (a3 : Int32) (τ : Tau), Sm K sysM 4 (Qi K sysM) (self23 a1 a2 a3 τ) 23 [(0, .ref 0), (1, .int a1), (2, .int a2), (3, .int a3)] [] τ) (a1 : Int32) (a2 : Int32) (a3 : Int32) (z0 : Int32) (z1 : Int32) (τ : Tau) : Sm K sysM 4 (Qi K sysM) (X11_pins_j53 F self23 a1 a2 a3 z0 z1 τ) 53 [(0, .ref 0), (1, .int a1), (2, .int a2), (3, .int a3)] [.int z0, .int z1, .ref 12] τ := by
  unfold X11_pins_j53
  refine sm_astz 441 C (ltM (krM11_28 (by decide +kernel : kdM 0 = 11)) (by decide)) (krM11_28 (by decide +kernel : kdM 0 = 11)) (nrM11_28 (by decide +kernel : kdM 0 = 11)) (by decide +kernel) (fun τ8 => ?_)
  refine sm_seg C [(.aload_n 0, 0)] (pc' := 55) (L' := [(0, .ref 0), (1, .int a1), (2, .int a2), (3, .int a3)]) (S' := [.ref 0]) (by decide +kernel) rfl ?_
  refine sm_getR 11 29 13 cls11 C (ltM (by decide +kernel : kdM 0 = 11) (by decide)) (by decide +kernel : kdM 0 = 11) (obM11 (by decide +kernel : kdM 0 = 11)) (by decide) (frM11_29 (by decide +kernel : kdM 0 = 11)) fl11_51 (by decide +kernel) ?_
  refine sm_seg C [(.iload_n 3, 0), (.iconst 0, 0)] (pc' := 60) (L' := [(0, .ref 0), (1, .int a1), (2, .int a2), (3, .int a3)]) (S' := [.int 0, .int a3, .ref 13]) (by decide +kernel) rfl ?_
  refine sm_astz 441 C (ltM (krM11_29 (by decide +kernel : kdM 0 = 11)) (by decide)) (krM11_29 (by decide +kernel : kdM 0 = 11)) (nrM11_29 (by decide +kernel : kdM 0 = 11)) (by decide +kernel) (fun τ9 => ?_)
  refine sm_seg C [(.iinc 3 1, 1), (.goto (-41), 0)] (pc' := 23) (L' := [(3, .int (a3 + 1)), (0, .ref 0), (1, .int a1), (2, .int a2)]) (S' := []) (by decide +kernel) rfl ?_
  exact sm_sub [1, 2, 3, 0] rfl (ih23 a1 a2 (a3 + 1) τ9)
def X11_pins_L23 (F : Nat) : Nat → Int32 → Int32 → Int32 → Tau → Option (Int32 × Tau)
  | 0, _, _, _, _ => none
  | n + 1, a1, a2, a3, τ =>
    if 441 ≤ a3 then (X11_pins_L69 F F a1 a2 0 τ) else (if 1 < ((a3 / 21) + (rmd a3 21)) then (X11_pins_j53 F (X11_pins_L23 F n) a1 a2 a3 0 a3 τ) else (X11_pins_j53 F (X11_pins_L23 F n) a1 a2 a3 1 a3 τ))
theorem s_X11_pins_L23 (F : Nat) {K : Ctx} (C : Cx K sysM RX11 cX11_pins 4 3) (hr : Rt K (some .int)) : ∀ (n : Nat) (a1 : Int32) (a2 : Int32) (a3 : Int32) (τ : Tau), Sm K sysM 4 (Qi K sysM) (X11_pins_L23 F n a1 a2 a3 τ) 23 [(0, .ref 0), (1, .int a1), (2, .int a2), (3, .int a3)] [] τ := by
  intro n
  induction n with
  | zero => intro a1 a2 a3 τ; exact sm_none
  | succ n ih =>
    intro a1 a2 a3 τ
    rw [X11_pins_L23]
    refine sm_seg C [(.iload_n 3, 0), (.sipush 441, 441)] (pc' := 27) (L' := [(0, .ref 0), (1, .int a1), (2, .int a2), (3, .int a3)]) (S' := [.int 441, .int a3]) (by decide +kernel) rfl ?_
    refine sm_icmpge 67 (off := 40) C (by decide +kernel) (by decide) (fun _ => ?_) (fun _ => ?_)
    · refine sm_seg C [(.iconst 0, 0), (.istore_n 3, 0)] (pc' := 69) (L' := [(3, .int 0), (0, .ref 0), (1, .int a1), (2, .int a2)]) (S' := []) (by decide +kernel) rfl ?_
      exact sm_sub [1, 2, 3, 0] rfl (s_X11_pins_L69 F C hr F a1 a2 0 τ)
    · refine sm_seg C [(.aload_n 0, 0)] (pc' := 31) (L' := [(0, .ref 0), (1, .int a1), (2, .int a2), (3, .int a3)]) (S' := [.ref 0]) (by decide +kernel) rfl ?_
      refine sm_getR 11 28 12 cls11 C (ltM (by decide +kernel : kdM 0 = 11) (by decide)) (by decide +kernel : kdM 0 = 11) (obM11 (by decide +kernel : kdM 0 = 11)) (by decide) (frM11_28 (by decide +kernel : kdM 0 = 11)) fl11_47 (by decide +kernel) ?_
      refine sm_seg C [(.iload_n 3, 0), (.iload_n 3, 0), (.bipush 21, 21)] (pc' := 38) (L' := [(0, .ref 0), (1, .int a1), (2, .int a2), (3, .int a3)]) (S' := [.int 21, .int a3, .int a3, .ref 12]) (by decide +kernel) rfl ?_
      refine sm_idiv C (by decide +kernel) (by decide) ?_
      refine sm_seg C [(.iload_n 3, 0), (.bipush 21, 21)] (pc' := 42) (L' := [(0, .ref 0), (1, .int a1), (2, .int a2), (3, .int a3)]) (S' := [.int 21, .int a3, .int (a3 / 21), .int a3, .ref 12]) (by decide +kernel) rfl ?_
      refine sm_irem C (by decide +kernel) (by decide) ?_
      refine sm_seg C [(.iadd, 0), (.iconst 1, 1)] (pc' := 45) (L' := [(0, .ref 0), (1, .int a1), (2, .int a2), (3, .int a3)]) (S' := [.int 1, .int ((a3 / 21) + (rmd a3 21)), .int a3, .ref 12]) (by decide +kernel) rfl ?_
      refine sm_icmpgt 52 (off := 7) C (by decide +kernel) (by decide) (fun _ => ?_) (fun _ => ?_)
      · refine sm_seg C [(.iconst 0, 0)] (pc' := 53) (L' := [(0, .ref 0), (1, .int a1), (2, .int a2), (3, .int a3)]) (S' := [.int 0, .int a3, .ref 12]) (by decide +kernel) rfl ?_
        exact sm_sub [0, 1, 2, 3] rfl (s_X11_pins_j53 F C hr (X11_pins_L23 F n) ih a1 a2 a3 0 a3 τ)
      · refine sm_seg C [(.iconst 1, 1), (.goto 4, 0)] (pc' := 53) (L' := [(0, .ref 0), (1, .int a1), (2, .int a2), (3, .int a3)]) (S' := [.int 1, .int a3, .ref 12]) (by decide +kernel) rfl ?_
        exact sm_sub [0, 1, 2, 3] rfl (s_X11_pins_j53 F C hr (X11_pins_L23 F n) ih a1 a2 a3 1 a3 τ)
def X11_pins (F : Nat) (a1 : Int32) (a2 : Int32) (τ : Tau) : Option (Int32 × Tau) :=
  cal (X11_isIn F a1 1 20 τ) fun r1 τ2 => if r1 = 0 then (some ((-1), τ2)) else (cal (X11_isIn F a2 0 1 τ2) fun r3 τ4 => if r3 = 0 then (some ((-1), τ4)) else (X11_pins_L23 F F a1 a2 0 τ4))
set_option maxRecDepth 20000 in
set_option maxHeartbeats 4000000 in
theorem c_X11_pins (F : Nat) (a1 : Int32) (a2 : Int32) (τ : Tau) (r : Int32) (τ' : Tau) (h : X11_pins F a1 a2 τ = some (r, τ')) : MCi sysM yX11_pins cX11_pins 4 (some .int) 3 [.ref 0, .int a1, .int a2] τ r τ' :=
  mci_of (by decide +kernel) (Nat.le_of_ble_eq_true rfl) (fun K C hr => by
    show Sm K sysM 4 (Qi K sysM) (X11_pins F a1 a2 τ) 0 [(0, .ref 0), (1, .int a1), (2, .int a2)] [] τ
    unfold X11_pins
    refine sm_seg C [(.iload_n 1, 0), (.iconst 1, 1), (.bipush 20, 20)] (pc' := 4) (L' := [(0, .ref 0), (1, .int a1), (2, .int a2)]) (S' := [.int 20, .int 1, .int a1]) (by decide +kernel) rfl ?_
    refine sm_scal [.int a1, .int 1, .int 20] [] rfl C mw_X11_isIn ml_11_78 rfl ⟨by decide, by decide⟩ (Nat.le_of_ble_eq_true rfl) (by decide +kernel) (c_X11_isIn F a1 1 20 τ) (fun r1 τ2 => ?_)
    refine sm_ifeq 19 (off := 12) C (by decide +kernel) (by decide) (fun _ => ?_) (fun _ => ?_)
    · refine sm_seg C [(.iconst (-1), (-1))] (pc' := 20) (L' := [(0, .ref 0), (1, .int a1), (2, .int a2)]) (S' := [.int (-1)]) (by decide +kernel) rfl ?_
      exact sm_iret C hr rfl (by decide +kernel)
    · refine sm_seg C [(.iload_n 2, 0), (.iconst 0, 0), (.iconst 1, 1)] (pc' := 13) (L' := [(0, .ref 0), (1, .int a1), (2, .int a2)]) (S' := [.int 1, .int 0, .int a2]) (by decide +kernel) rfl ?_
      refine sm_scal [.int a2, .int 0, .int 1] [] rfl C mw_X11_isIn ml_11_78 rfl ⟨by decide, by decide⟩ (Nat.le_of_ble_eq_true rfl) (by decide +kernel) (c_X11_isIn F a2 0 1 τ2) (fun r3 τ4 => ?_)
      refine sm_ifne 21 (off := 5) C (by decide +kernel) (by decide) (fun _ => ?_) (fun _ => ?_)
      · refine sm_seg C [(.iconst (-1), (-1))] (pc' := 20) (L' := [(0, .ref 0), (1, .int a1), (2, .int a2)]) (S' := [.int (-1)]) (by decide +kernel) rfl ?_
        exact sm_iret C hr rfl (by decide +kernel)
      · refine sm_seg C [(.iconst 0, 0), (.istore_n 3, 0)] (pc' := 23) (L' := [(3, .int 0), (0, .ref 0), (1, .int a1), (2, .int a2)]) (S' := []) (by decide +kernel) rfl ?_
        exact sm_sub [1, 2, 3, 0] rfl (s_X11_pins_L23 F C hr F a1 a2 0 τ4)) h
/-! BasketEnvoysModel.power -/
def X11_power (F : Nat) (a1 : Int32) (τ : Tau) : Option (Int32 × Tau) :=
  cal (X11_isIn F a1 0 99 τ) fun r1 τ2 => if r1 = 0 then (some ((-1), τ2)) else (ald τ2 1 2244 255 fun v3 => if v3 = 10 then (some ((-1), τ2)) else (ald τ2 1 2244 255 fun v4 => ast τ2 1 2244 (5 + v4) a1 fun τ5 => ald τ5 1 2244 255 fun v6 => ast τ5 1 2244 255 (v6 + 1) fun τ7 => cal (X11_forgets F τ7) fun r8 τ9 => ald τ9 1 2244 255 fun v10 => some ((v10 - 1), τ9)))
set_option maxRecDepth 20000 in
set_option maxHeartbeats 4000000 in
theorem c_X11_power (F : Nat) (a1 : Int32) (τ : Tau) (r : Int32) (τ' : Tau) (h : X11_power F a1 τ = some (r, τ')) : MCi sysM yX11_power cX11_power 2 (some .int) 2 [.ref 0, .int a1] τ r τ' :=
  mci_of (by decide +kernel) (Nat.le_of_ble_eq_true rfl) (fun K C hr => by
    show Sm K sysM 2 (Qi K sysM) (X11_power F a1 τ) 0 [(0, .ref 0), (1, .int a1)] [] τ
    unfold X11_power
    refine sm_seg C [(.iload_n 1, 0), (.iconst 0, 0), (.bipush 99, 99)] (pc' := 4) (L' := [(0, .ref 0), (1, .int a1)]) (S' := [.int 99, .int 0, .int a1]) (by decide +kernel) rfl ?_
    refine sm_scal [.int a1, .int 0, .int 99] [] rfl C mw_X11_isIn ml_11_78 rfl ⟨by decide, by decide⟩ (Nat.le_of_ble_eq_true rfl) (by decide +kernel) (c_X11_isIn F a1 0 99 τ) (fun r1 τ2 => ?_)
    refine sm_ifeq 23 (off := 16) C (by decide +kernel) (by decide) (fun _ => ?_) (fun _ => ?_)
    · refine sm_seg C [(.iconst (-1), (-1))] (pc' := 24) (L' := [(0, .ref 0), (1, .int a1)]) (S' := [.int (-1)]) (by decide +kernel) rfl ?_
      exact sm_iret C hr rfl (by decide +kernel)
    · refine sm_seg C [(.aload_n 0, 0)] (pc' := 11) (L' := [(0, .ref 0), (1, .int a1)]) (S' := [.ref 0]) (by decide +kernel) rfl ?_
      refine sm_getR 11 0 1 cls11 C (ltM (by decide +kernel : kdM 0 = 11) (by decide)) (by decide +kernel : kdM 0 = 11) (obM11 (by decide +kernel : kdM 0 = 11)) (by decide) (frM11_0 (by decide +kernel : kdM 0 = 11)) fl11_7 (by decide +kernel) ?_
      refine sm_seg C [(.sipush 255, 255)] (pc' := 17) (L' := [(0, .ref 0), (1, .int a1)]) (S' := [.int 255, .ref 1]) (by decide +kernel) rfl ?_
      refine sm_ald 2244 C (ltM (krM11_0 (by decide +kernel : kdM 0 = 11)) (by decide)) (krM11_0 (by decide +kernel : kdM 0 = 11)) (nrM11_0 (by decide +kernel : kdM 0 = 11)) (by decide +kernel) (fun v3 => ?_)
      refine sm_seg C [(.bipush 10, 10)] (pc' := 20) (L' := [(0, .ref 0), (1, .int a1)]) (S' := [.int 10, .int v3]) (by decide +kernel) rfl ?_
      refine sm_icmpne 25 (off := 5) C (by decide +kernel) (by decide) (fun _ => ?_) (fun _ => ?_)
      · refine sm_seg C [(.iconst (-1), (-1))] (pc' := 24) (L' := [(0, .ref 0), (1, .int a1)]) (S' := [.int (-1)]) (by decide +kernel) rfl ?_
        exact sm_iret C hr rfl (by decide +kernel)
      · refine sm_seg C [(.aload_n 0, 0)] (pc' := 26) (L' := [(0, .ref 0), (1, .int a1)]) (S' := [.ref 0]) (by decide +kernel) rfl ?_
        refine sm_getR 11 0 1 cls11 C (ltM (by decide +kernel : kdM 0 = 11) (by decide)) (by decide +kernel : kdM 0 = 11) (obM11 (by decide +kernel : kdM 0 = 11)) (by decide) (frM11_0 (by decide +kernel : kdM 0 = 11)) fl11_7 (by decide +kernel) ?_
        refine sm_seg C [(.iconst 5, 5), (.aload_n 0, 0)] (pc' := 31) (L' := [(0, .ref 0), (1, .int a1)]) (S' := [.ref 0, .int 5, .ref 1]) (by decide +kernel) rfl ?_
        refine sm_getR 11 0 1 cls11 C (ltM (by decide +kernel : kdM 0 = 11) (by decide)) (by decide +kernel : kdM 0 = 11) (obM11 (by decide +kernel : kdM 0 = 11)) (by decide) (frM11_0 (by decide +kernel : kdM 0 = 11)) fl11_7 (by decide +kernel) ?_
        refine sm_seg C [(.sipush 255, 255)] (pc' := 37) (L' := [(0, .ref 0), (1, .int a1)]) (S' := [.int 255, .ref 1, .int 5, .ref 1]) (by decide +kernel) rfl ?_
        refine sm_ald 2244 C (ltM (krM11_0 (by decide +kernel : kdM 0 = 11)) (by decide)) (krM11_0 (by decide +kernel : kdM 0 = 11)) (nrM11_0 (by decide +kernel : kdM 0 = 11)) (by decide +kernel) (fun v4 => ?_)
        refine sm_seg C [(.iadd, 0), (.iload_n 1, 0)] (pc' := 40) (L' := [(0, .ref 0), (1, .int a1)]) (S' := [.int a1, .int (5 + v4), .ref 1]) (by decide +kernel) rfl ?_
        refine sm_ast 2244 C (ltM (krM11_0 (by decide +kernel : kdM 0 = 11)) (by decide)) (krM11_0 (by decide +kernel : kdM 0 = 11)) (nrM11_0 (by decide +kernel : kdM 0 = 11)) (by decide +kernel) (fun τ5 => ?_)
        refine sm_seg C [(.aload_n 0, 0)] (pc' := 42) (L' := [(0, .ref 0), (1, .int a1)]) (S' := [.ref 0]) (by decide +kernel) rfl ?_
        refine sm_getR 11 0 1 cls11 C (ltM (by decide +kernel : kdM 0 = 11) (by decide)) (by decide +kernel : kdM 0 = 11) (obM11 (by decide +kernel : kdM 0 = 11)) (by decide) (frM11_0 (by decide +kernel : kdM 0 = 11)) fl11_7 (by decide +kernel) ?_
        refine sm_seg C [(.sipush 255, 255), (.dup2, 0)] (pc' := 49) (L' := [(0, .ref 0), (1, .int a1)]) (S' := [.int 255, .ref 1, .int 255, .ref 1]) (by decide +kernel) rfl ?_
        refine sm_ald 2244 C (ltM (krM11_0 (by decide +kernel : kdM 0 = 11)) (by decide)) (krM11_0 (by decide +kernel : kdM 0 = 11)) (nrM11_0 (by decide +kernel : kdM 0 = 11)) (by decide +kernel) (fun v6 => ?_)
        refine sm_seg C [(.iconst 1, 1), (.iadd, 0)] (pc' := 52) (L' := [(0, .ref 0), (1, .int a1)]) (S' := [.int (v6 + 1), .int 255, .ref 1]) (by decide +kernel) rfl ?_
        refine sm_ast 2244 C (ltM (krM11_0 (by decide +kernel : kdM 0 = 11)) (by decide)) (krM11_0 (by decide +kernel : kdM 0 = 11)) (nrM11_0 (by decide +kernel : kdM 0 = 11)) (by decide +kernel) (fun τ7 => ?_)
        refine sm_seg C [(.aload_n 0, 0)] (pc' := 54) (L' := [(0, .ref 0), (1, .int a1)]) (S' := [.ref 0]) (by decide +kernel) rfl ?_
        refine sm_vcalv [] [] rfl C mw_X11_forgets ml_11_85 rfl (ci := 11) rfl (ltM (by decide +kernel : kdM 0 = 11) (by decide)) (by decide +kernel : kdM 0 = 11) (by decide) ⟨by decide, by decide⟩ (Nat.le_of_ble_eq_true rfl) (by decide +kernel) (c_X11_forgets F τ7) (fun r8 τ9 => ?_)
        refine sm_seg C [(.aload_n 0, 0)] (pc' := 58) (L' := [(0, .ref 0), (1, .int a1)]) (S' := [.ref 0]) (by decide +kernel) rfl ?_
        refine sm_getR 11 0 1 cls11 C (ltM (by decide +kernel : kdM 0 = 11) (by decide)) (by decide +kernel : kdM 0 = 11) (obM11 (by decide +kernel : kdM 0 = 11)) (by decide) (frM11_0 (by decide +kernel : kdM 0 = 11)) fl11_7 (by decide +kernel) ?_
        refine sm_seg C [(.sipush 255, 255)] (pc' := 64) (L' := [(0, .ref 0), (1, .int a1)]) (S' := [.int 255, .ref 1]) (by decide +kernel) rfl ?_
        refine sm_ald 2244 C (ltM (krM11_0 (by decide +kernel : kdM 0 = 11)) (by decide)) (krM11_0 (by decide +kernel : kdM 0 = 11)) (nrM11_0 (by decide +kernel : kdM 0 = 11)) (by decide +kernel) (fun v10 => ?_)
        refine sm_seg C [(.iconst 1, 1), (.isub, 0)] (pc' := 67) (L' := [(0, .ref 0), (1, .int a1)]) (S' := [.int (v10 - 1)]) (by decide +kernel) rfl ?_
        exact sm_iret C hr rfl (by decide +kernel)) h
/-! BasketEnvoysModel.powerOf -/
def X11_powerOf (F : Nat) (a1 : Int32) (a2 : Int32) (τ : Tau) : Option (Int32 × Tau) :=
  cal (X11_isPower F a1 τ) fun r1 τ2 => if r1 = 0 then (some ((-2), τ2)) else (cal (X11_isIn F a2 10 15 τ2) fun r3 τ4 => if r3 = 0 then (cal (X11_isIn F a2 100 111 τ4) fun r5 τ6 => if r5 = 0 then (if a2 = 0 then (ald τ6 1 2244 (5 + a1) fun v7 => some (v7, τ6)) else if a2 = 1 then (ald τ6 1 2244 (15 + a1) fun v8 => some (v8, τ6)) else if a2 = 2 then (ald τ6 1 2244 (25 + a1) fun v9 => some (v9, τ6)) else if a2 = 3 then (ald τ6 1 2244 (35 + a1) fun v10 => some (v10, τ6)) else if a2 = 4 then (ald τ6 1 2244 (445 + (7 * a1)) fun v11 => some (v11, τ6)) else if a2 = 5 then (cal (X11_atOf F a1 τ6) fun r12 τ13 => some (r12, τ13)) else (some ((-2), τ6))) else (cal (X11_meaning F a1 (a2 - 100) τ6) fun r14 τ15 => some (r14, τ15))) else (ald τ4 1 2244 (445 + (7 * a1)) fun v16 => if v16 ≤ (a2 - 10) then (some ((-1), τ4)) else (ald τ4 1 2244 (((445 + (7 * a1)) + a2) - 9) fun v17 => some (v17, τ4))))
set_option maxRecDepth 20000 in
set_option maxHeartbeats 4000000 in
theorem c_X11_powerOf (F : Nat) (a1 : Int32) (a2 : Int32) (τ : Tau) (r : Int32) (τ' : Tau) (h : X11_powerOf F a1 a2 τ = some (r, τ')) : MCi sysM yX11_powerOf cX11_powerOf 3 (some .int) 3 [.ref 0, .int a1, .int a2] τ r τ' :=
  mci_of (by decide +kernel) (Nat.le_of_ble_eq_true rfl) (fun K C hr => by
    show Sm K sysM 3 (Qi K sysM) (X11_powerOf F a1 a2 τ) 0 [(0, .ref 0), (1, .int a1), (2, .int a2)] [] τ
    unfold X11_powerOf
    refine sm_seg C [(.aload_n 0, 0), (.iload_n 1, 0)] (pc' := 2) (L' := [(0, .ref 0), (1, .int a1), (2, .int a2)]) (S' := [.int a1, .ref 0]) (by decide +kernel) rfl ?_
    refine sm_vcal [.int a1] [] rfl C mw_X11_isPower ml_11_90 rfl (ci := 11) rfl (ltM (by decide +kernel : kdM 0 = 11) (by decide)) (by decide +kernel : kdM 0 = 11) (by decide) ⟨by decide, by decide⟩ (Nat.le_of_ble_eq_true rfl) (by decide +kernel) (c_X11_isPower F a1 τ) (fun r1 τ2 => ?_)
    refine sm_ifne 11 (off := 6) C (by decide +kernel) (by decide) (fun _ => ?_) (fun _ => ?_)
    · refine sm_seg C [(.bipush (-2), (-2))] (pc' := 10) (L' := [(0, .ref 0), (1, .int a1), (2, .int a2)]) (S' := [.int (-2)]) (by decide +kernel) rfl ?_
      exact sm_iret C hr rfl (by decide +kernel)
    · refine sm_seg C [(.iload_n 2, 0), (.bipush 10, 10), (.bipush 15, 15)] (pc' := 16) (L' := [(0, .ref 0), (1, .int a1), (2, .int a2)]) (S' := [.int 15, .int 10, .int a2]) (by decide +kernel) rfl ?_
      refine sm_scal [.int a2, .int 10, .int 15] [] rfl C mw_X11_isIn ml_11_78 rfl ⟨by decide, by decide⟩ (Nat.le_of_ble_eq_true rfl) (by decide +kernel) (c_X11_isIn F a2 10 15 τ2) (fun r3 τ4 => ?_)
      refine sm_ifeq 65 (off := 46) C (by decide +kernel) (by decide) (fun _ => ?_) (fun _ => ?_)
      · refine sm_seg C [(.iload_n 2, 0), (.bipush 100, 100), (.bipush 111, 111)] (pc' := 70) (L' := [(0, .ref 0), (1, .int a1), (2, .int a2)]) (S' := [.int 111, .int 100, .int a2]) (by decide +kernel) rfl ?_
        refine sm_scal [.int a2, .int 100, .int 111] [] rfl C mw_X11_isIn ml_11_78 rfl ⟨by decide, by decide⟩ (Nat.le_of_ble_eq_true rfl) (by decide +kernel) (c_X11_isIn F a2 100 111 τ4) (fun r5 τ6 => ?_)
        refine sm_ifeq 86 (off := 13) C (by decide +kernel) (by decide) (fun _ => ?_) (fun _ => ?_)
        · refine sm_seg C [(.iload_n 2, 0)] (pc' := 87) (L' := [(0, .ref 0), (1, .int a1), (2, .int a2)]) (S' := [.int a2]) (by decide +kernel) rfl ?_
          have hd87 : decode cX11_powerOf 87 = .ok (.tableswitch 96 0 5 #[37, 46, 56, 66, 76, 90], 37) := by decide +kernel
          refine sm_ite (fun e => ?_) (fun n87_0 => ?_)
          · refine sm_tabIn (off := 37) 124 C hd87 (by rw [e]; decide) (by rw [e]; decide) (by rw [e]; decide) (by decide) ?_
            refine sm_seg C [(.aload_n 0, 0)] (pc' := 125) (L' := [(0, .ref 0), (1, .int a1), (2, .int a2)]) (S' := [.ref 0]) (by decide +kernel) rfl ?_
            refine sm_getR 11 0 1 cls11 C (ltM (by decide +kernel : kdM 0 = 11) (by decide)) (by decide +kernel : kdM 0 = 11) (obM11 (by decide +kernel : kdM 0 = 11)) (by decide) (frM11_0 (by decide +kernel : kdM 0 = 11)) fl11_7 (by decide +kernel) ?_
            refine sm_seg C [(.iconst 5, 5), (.iload_n 1, 0), (.iadd, 0)] (pc' := 131) (L' := [(0, .ref 0), (1, .int a1), (2, .int a2)]) (S' := [.int (5 + a1), .ref 1]) (by decide +kernel) rfl ?_
            refine sm_ald 2244 C (ltM (krM11_0 (by decide +kernel : kdM 0 = 11)) (by decide)) (krM11_0 (by decide +kernel : kdM 0 = 11)) (nrM11_0 (by decide +kernel : kdM 0 = 11)) (by decide +kernel) (fun v7 => ?_)
            exact sm_iret C hr rfl (by decide +kernel)
          refine sm_ite (fun e => ?_) (fun n87_1 => ?_)
          · refine sm_tabIn (off := 46) 133 C hd87 (by rw [e]; decide) (by rw [e]; decide) (by rw [e]; decide) (by decide) ?_
            refine sm_seg C [(.aload_n 0, 0)] (pc' := 134) (L' := [(0, .ref 0), (1, .int a1), (2, .int a2)]) (S' := [.ref 0]) (by decide +kernel) rfl ?_
            refine sm_getR 11 0 1 cls11 C (ltM (by decide +kernel : kdM 0 = 11) (by decide)) (by decide +kernel : kdM 0 = 11) (obM11 (by decide +kernel : kdM 0 = 11)) (by decide) (frM11_0 (by decide +kernel : kdM 0 = 11)) fl11_7 (by decide +kernel) ?_
            refine sm_seg C [(.bipush 15, 15), (.iload_n 1, 0), (.iadd, 0)] (pc' := 141) (L' := [(0, .ref 0), (1, .int a1), (2, .int a2)]) (S' := [.int (15 + a1), .ref 1]) (by decide +kernel) rfl ?_
            refine sm_ald 2244 C (ltM (krM11_0 (by decide +kernel : kdM 0 = 11)) (by decide)) (krM11_0 (by decide +kernel : kdM 0 = 11)) (nrM11_0 (by decide +kernel : kdM 0 = 11)) (by decide +kernel) (fun v8 => ?_)
            exact sm_iret C hr rfl (by decide +kernel)
          refine sm_ite (fun e => ?_) (fun n87_2 => ?_)
          · refine sm_tabIn (off := 56) 143 C hd87 (by rw [e]; decide) (by rw [e]; decide) (by rw [e]; decide) (by decide) ?_
            refine sm_seg C [(.aload_n 0, 0)] (pc' := 144) (L' := [(0, .ref 0), (1, .int a1), (2, .int a2)]) (S' := [.ref 0]) (by decide +kernel) rfl ?_
            refine sm_getR 11 0 1 cls11 C (ltM (by decide +kernel : kdM 0 = 11) (by decide)) (by decide +kernel : kdM 0 = 11) (obM11 (by decide +kernel : kdM 0 = 11)) (by decide) (frM11_0 (by decide +kernel : kdM 0 = 11)) fl11_7 (by decide +kernel) ?_
            refine sm_seg C [(.bipush 25, 25), (.iload_n 1, 0), (.iadd, 0)] (pc' := 151) (L' := [(0, .ref 0), (1, .int a1), (2, .int a2)]) (S' := [.int (25 + a1), .ref 1]) (by decide +kernel) rfl ?_
            refine sm_ald 2244 C (ltM (krM11_0 (by decide +kernel : kdM 0 = 11)) (by decide)) (krM11_0 (by decide +kernel : kdM 0 = 11)) (nrM11_0 (by decide +kernel : kdM 0 = 11)) (by decide +kernel) (fun v9 => ?_)
            exact sm_iret C hr rfl (by decide +kernel)
          refine sm_ite (fun e => ?_) (fun n87_3 => ?_)
          · refine sm_tabIn (off := 66) 153 C hd87 (by rw [e]; decide) (by rw [e]; decide) (by rw [e]; decide) (by decide) ?_
            refine sm_seg C [(.aload_n 0, 0)] (pc' := 154) (L' := [(0, .ref 0), (1, .int a1), (2, .int a2)]) (S' := [.ref 0]) (by decide +kernel) rfl ?_
            refine sm_getR 11 0 1 cls11 C (ltM (by decide +kernel : kdM 0 = 11) (by decide)) (by decide +kernel : kdM 0 = 11) (obM11 (by decide +kernel : kdM 0 = 11)) (by decide) (frM11_0 (by decide +kernel : kdM 0 = 11)) fl11_7 (by decide +kernel) ?_
            refine sm_seg C [(.bipush 35, 35), (.iload_n 1, 0), (.iadd, 0)] (pc' := 161) (L' := [(0, .ref 0), (1, .int a1), (2, .int a2)]) (S' := [.int (35 + a1), .ref 1]) (by decide +kernel) rfl ?_
            refine sm_ald 2244 C (ltM (krM11_0 (by decide +kernel : kdM 0 = 11)) (by decide)) (krM11_0 (by decide +kernel : kdM 0 = 11)) (nrM11_0 (by decide +kernel : kdM 0 = 11)) (by decide +kernel) (fun v10 => ?_)
            exact sm_iret C hr rfl (by decide +kernel)
          refine sm_ite (fun e => ?_) (fun n87_4 => ?_)
          · refine sm_tabIn (off := 76) 163 C hd87 (by rw [e]; decide) (by rw [e]; decide) (by rw [e]; decide) (by decide) ?_
            refine sm_seg C [(.aload_n 0, 0)] (pc' := 164) (L' := [(0, .ref 0), (1, .int a1), (2, .int a2)]) (S' := [.ref 0]) (by decide +kernel) rfl ?_
            refine sm_getR 11 0 1 cls11 C (ltM (by decide +kernel : kdM 0 = 11) (by decide)) (by decide +kernel : kdM 0 = 11) (obM11 (by decide +kernel : kdM 0 = 11)) (by decide) (frM11_0 (by decide +kernel : kdM 0 = 11)) fl11_7 (by decide +kernel) ?_
            refine sm_seg C [(.sipush 445, 445), (.bipush 7, 7), (.iload_n 1, 0), (.imul, 0), (.iadd, 0)] (pc' := 175) (L' := [(0, .ref 0), (1, .int a1), (2, .int a2)]) (S' := [.int (445 + (7 * a1)), .ref 1]) (by decide +kernel) rfl ?_
            refine sm_ald 2244 C (ltM (krM11_0 (by decide +kernel : kdM 0 = 11)) (by decide)) (krM11_0 (by decide +kernel : kdM 0 = 11)) (nrM11_0 (by decide +kernel : kdM 0 = 11)) (by decide +kernel) (fun v11 => ?_)
            exact sm_iret C hr rfl (by decide +kernel)
          refine sm_ite (fun e => ?_) (fun n87_5 => ?_)
          · refine sm_tabIn (off := 90) 177 C hd87 (by rw [e]; decide) (by rw [e]; decide) (by rw [e]; decide) (by decide) ?_
            refine sm_seg C [(.aload_n 0, 0), (.iload_n 1, 0)] (pc' := 179) (L' := [(0, .ref 0), (1, .int a1), (2, .int a2)]) (S' := [.int a1, .ref 0]) (by decide +kernel) rfl ?_
            refine sm_vcal [.int a1] [] rfl C mw_X11_atOf ml_11_376 rfl (ci := 11) rfl (ltM (by decide +kernel : kdM 0 = 11) (by decide)) (by decide +kernel : kdM 0 = 11) (by decide) ⟨by decide, by decide⟩ (Nat.le_of_ble_eq_true rfl) (by decide +kernel) (c_X11_atOf F a1 τ6) (fun r12 τ13 => ?_)
            exact sm_iret C hr rfl (by decide +kernel)
          refine sm_tabOut 183 C hd87 (by have q0 := toInt_neZ (z := 0) n87_0 (by decide); have q1 := toInt_neZ (z := 1) n87_1 (by decide); have q2 := toInt_neZ (z := 2) n87_2 (by decide); have q3 := toInt_neZ (z := 3) n87_3 (by decide); have q4 := toInt_neZ (z := 4) n87_4 (by decide); have q5 := toInt_neZ (z := 5) n87_5 (by decide); omega) (by decide) ?_
          refine sm_seg C [(.bipush (-2), (-2))] (pc' := 185) (L' := [(0, .ref 0), (1, .int a1), (2, .int a2)]) (S' := [.int (-2)]) (by decide +kernel) rfl ?_
          exact sm_iret C hr rfl (by decide +kernel)
        · refine sm_seg C [(.aload_n 0, 0), (.iload_n 1, 0), (.iload_n 2, 0), (.bipush 100, 100), (.isub, 0)] (pc' := 82) (L' := [(0, .ref 0), (1, .int a1), (2, .int a2)]) (S' := [.int (a2 - 100), .int a1, .ref 0]) (by decide +kernel) rfl ?_
          refine sm_vcal [.int a1, .int (a2 - 100)] [] rfl C mw_X11_meaning ml_11_309 rfl (ci := 11) rfl (ltM (by decide +kernel : kdM 0 = 11) (by decide)) (by decide +kernel : kdM 0 = 11) (by decide) ⟨by decide, by decide⟩ (Nat.le_of_ble_eq_true rfl) (by decide +kernel) (c_X11_meaning F a1 (a2 - 100) τ6) (fun r14 τ15 => ?_)
          exact sm_iret C hr rfl (by decide +kernel)
      · refine sm_seg C [(.iload_n 2, 0), (.bipush 10, 10), (.isub, 0), (.aload_n 0, 0)] (pc' := 27) (L' := [(0, .ref 0), (1, .int a1), (2, .int a2)]) (S' := [.ref 0, .int (a2 - 10)]) (by decide +kernel) rfl ?_
        refine sm_getR 11 0 1 cls11 C (ltM (by decide +kernel : kdM 0 = 11) (by decide)) (by decide +kernel : kdM 0 = 11) (obM11 (by decide +kernel : kdM 0 = 11)) (by decide) (frM11_0 (by decide +kernel : kdM 0 = 11)) fl11_7 (by decide +kernel) ?_
        refine sm_seg C [(.sipush 445, 445), (.bipush 7, 7), (.iload_n 1, 0), (.imul, 0), (.iadd, 0)] (pc' := 38) (L' := [(0, .ref 0), (1, .int a1), (2, .int a2)]) (S' := [.int (445 + (7 * a1)), .ref 1, .int (a2 - 10)]) (by decide +kernel) rfl ?_
        refine sm_ald 2244 C (ltM (krM11_0 (by decide +kernel : kdM 0 = 11)) (by decide)) (krM11_0 (by decide +kernel : kdM 0 = 11)) (nrM11_0 (by decide +kernel : kdM 0 = 11)) (by decide +kernel) (fun v16 => ?_)
        refine sm_icmpge 63 (off := 24) C (by decide +kernel) (by decide) (fun _ => ?_) (fun _ => ?_)
        · refine sm_seg C [(.iconst (-1), (-1))] (pc' := 64) (L' := [(0, .ref 0), (1, .int a1), (2, .int a2)]) (S' := [.int (-1)]) (by decide +kernel) rfl ?_
          exact sm_iret C hr rfl (by decide +kernel)
        · refine sm_seg C [(.aload_n 0, 0)] (pc' := 43) (L' := [(0, .ref 0), (1, .int a1), (2, .int a2)]) (S' := [.ref 0]) (by decide +kernel) rfl ?_
          refine sm_getR 11 0 1 cls11 C (ltM (by decide +kernel : kdM 0 = 11) (by decide)) (by decide +kernel : kdM 0 = 11) (obM11 (by decide +kernel : kdM 0 = 11)) (by decide) (frM11_0 (by decide +kernel : kdM 0 = 11)) fl11_7 (by decide +kernel) ?_
          refine sm_seg C [(.sipush 445, 445), (.bipush 7, 7), (.iload_n 1, 0), (.imul, 0), (.iadd, 0), (.iload_n 2, 0), (.iadd, 0), (.bipush 9, 9), (.isub, 0)] (pc' := 59) (L' := [(0, .ref 0), (1, .int a1), (2, .int a2)]) (S' := [.int (((445 + (7 * a1)) + a2) - 9), .ref 1]) (by decide +kernel) rfl ?_
          refine sm_ald 2244 C (ltM (krM11_0 (by decide +kernel : kdM 0 = 11)) (by decide)) (krM11_0 (by decide +kernel : kdM 0 = 11)) (nrM11_0 (by decide +kernel : kdM 0 = 11)) (by decide +kernel) (fun v17 => ?_)
          refine sm_seg C [(.goto 4, 0)] (pc' := 64) (L' := [(0, .ref 0), (1, .int a1), (2, .int a2)]) (S' := [.int v17]) (by decide +kernel) rfl ?_
          exact sm_iret C hr rfl (by decide +kernel)) h
/-! BasketEnvoysModel.promise -/
def X11_promise (F : Nat) (a1 : Int32) (a2 : Int32) (a3 : Int32) (τ : Tau) : Option (Int32 × Tau) :=
  if a1 = (-1) then (cal (X11_endsRow F 629 τ) fun r1 τ2 => some (r1, τ2)) else (cal (X11_isIn F a1 0 7 τ) fun r3 τ4 => if r3 = 0 then (some ((-1), τ4)) else (cal (X11_isIn F a2 0 7 τ4) fun r5 τ6 => if r5 = 0 then (some ((-1), τ6)) else (if a1 = a2 then (some ((-1), τ6)) else (cal (X11_isIn F a3 0 3 τ6) fun r7 τ8 => if r7 = 0 then (some ((-1), τ8)) else (ald τ8 1 2244 629 fun v9 => if v9 = 12 then (some ((-1), τ8)) else (ald τ8 1 2244 629 fun v10 => ast τ8 1 2244 (630 + (3 * v10)) a1 fun τ11 => ast τ11 1 2244 ((630 + (3 * v10)) + 1) a2 fun τ12 => ast τ12 1 2244 ((630 + (3 * v10)) + 2) a3 fun τ13 => ald τ13 1 2244 629 fun v14 => ast τ13 1 2244 629 (v14 + 1) fun τ15 => ald τ15 1 2244 629 fun v16 => some (v16, τ15)))))))
set_option maxRecDepth 20000 in
set_option maxHeartbeats 4000000 in
theorem c_X11_promise (F : Nat) (a1 : Int32) (a2 : Int32) (a3 : Int32) (τ : Tau) (r : Int32) (τ' : Tau) (h : X11_promise F a1 a2 a3 τ = some (r, τ')) : MCi sysM yX11_promise cX11_promise 5 (some .int) 2 [.ref 0, .int a1, .int a2, .int a3] τ r τ' :=
  mci_of (by decide +kernel) (Nat.le_of_ble_eq_true rfl) (fun K C hr => by
    show Sm K sysM 5 (Qi K sysM) (X11_promise F a1 a2 a3 τ) 0 [(0, .ref 0), (1, .int a1), (2, .int a2), (3, .int a3)] [] τ
    unfold X11_promise
    refine sm_seg C [(.iload_n 1, 0), (.iconst (-1), (-1))] (pc' := 2) (L' := [(0, .ref 0), (1, .int a1), (2, .int a2), (3, .int a3)]) (S' := [.int (-1), .int a1]) (by decide +kernel) rfl ?_
    refine sm_icmpne 13 (off := 11) C (by decide +kernel) (by decide) (fun _ => ?_) (fun _ => ?_)
    · refine sm_seg C [(.aload_n 0, 0), (.sipush 629, 629)] (pc' := 9) (L' := [(0, .ref 0), (1, .int a1), (2, .int a2), (3, .int a3)]) (S' := [.int 629, .ref 0]) (by decide +kernel) rfl ?_
      refine sm_vcal [.int 629] [] rfl C mw_X11_endsRow ml_11_388 rfl (ci := 11) rfl (ltM (by decide +kernel : kdM 0 = 11) (by decide)) (by decide +kernel : kdM 0 = 11) (by decide) ⟨by decide, by decide⟩ (Nat.le_of_ble_eq_true rfl) (by decide +kernel) (c_X11_endsRow F 629 τ) (fun r1 τ2 => ?_)
      exact sm_iret C hr rfl (by decide +kernel)
    · refine sm_seg C [(.iload_n 1, 0), (.iconst 0, 0), (.bipush 7, 7)] (pc' := 17) (L' := [(0, .ref 0), (1, .int a1), (2, .int a2), (3, .int a3)]) (S' := [.int 7, .int 0, .int a1]) (by decide +kernel) rfl ?_
      refine sm_scal [.int a1, .int 0, .int 7] [] rfl C mw_X11_isIn ml_11_78 rfl ⟨by decide, by decide⟩ (Nat.le_of_ble_eq_true rfl) (by decide +kernel) (c_X11_isIn F a1 0 7 τ) (fun r3 τ4 => ?_)
      refine sm_ifeq 60 (off := 40) C (by decide +kernel) (by decide) (fun _ => ?_) (fun _ => ?_)
      · refine sm_seg C [(.iconst (-1), (-1))] (pc' := 61) (L' := [(0, .ref 0), (1, .int a1), (2, .int a2), (3, .int a3)]) (S' := [.int (-1)]) (by decide +kernel) rfl ?_
        exact sm_iret C hr rfl (by decide +kernel)
      · refine sm_seg C [(.iload_n 2, 0), (.iconst 0, 0), (.bipush 7, 7)] (pc' := 27) (L' := [(0, .ref 0), (1, .int a1), (2, .int a2), (3, .int a3)]) (S' := [.int 7, .int 0, .int a2]) (by decide +kernel) rfl ?_
        refine sm_scal [.int a2, .int 0, .int 7] [] rfl C mw_X11_isIn ml_11_78 rfl ⟨by decide, by decide⟩ (Nat.le_of_ble_eq_true rfl) (by decide +kernel) (c_X11_isIn F a2 0 7 τ4) (fun r5 τ6 => ?_)
        refine sm_ifeq 60 (off := 30) C (by decide +kernel) (by decide) (fun _ => ?_) (fun _ => ?_)
        · refine sm_seg C [(.iconst (-1), (-1))] (pc' := 61) (L' := [(0, .ref 0), (1, .int a1), (2, .int a2), (3, .int a3)]) (S' := [.int (-1)]) (by decide +kernel) rfl ?_
          exact sm_iret C hr rfl (by decide +kernel)
        · refine sm_seg C [(.iload_n 1, 0), (.iload_n 2, 0)] (pc' := 35) (L' := [(0, .ref 0), (1, .int a1), (2, .int a2), (3, .int a3)]) (S' := [.int a2, .int a1]) (by decide +kernel) rfl ?_
          refine sm_icmpeq 60 (off := 25) C (by decide +kernel) (by decide) (fun _ => ?_) (fun _ => ?_)
          · refine sm_seg C [(.iconst (-1), (-1))] (pc' := 61) (L' := [(0, .ref 0), (1, .int a1), (2, .int a2), (3, .int a3)]) (S' := [.int (-1)]) (by decide +kernel) rfl ?_
            exact sm_iret C hr rfl (by decide +kernel)
          · refine sm_seg C [(.iload_n 3, 0), (.iconst 0, 0), (.iconst 3, 3)] (pc' := 41) (L' := [(0, .ref 0), (1, .int a1), (2, .int a2), (3, .int a3)]) (S' := [.int 3, .int 0, .int a3]) (by decide +kernel) rfl ?_
            refine sm_scal [.int a3, .int 0, .int 3] [] rfl C mw_X11_isIn ml_11_78 rfl ⟨by decide, by decide⟩ (Nat.le_of_ble_eq_true rfl) (by decide +kernel) (c_X11_isIn F a3 0 3 τ6) (fun r7 τ8 => ?_)
            refine sm_ifeq 60 (off := 16) C (by decide +kernel) (by decide) (fun _ => ?_) (fun _ => ?_)
            · refine sm_seg C [(.iconst (-1), (-1))] (pc' := 61) (L' := [(0, .ref 0), (1, .int a1), (2, .int a2), (3, .int a3)]) (S' := [.int (-1)]) (by decide +kernel) rfl ?_
              exact sm_iret C hr rfl (by decide +kernel)
            · refine sm_seg C [(.aload_n 0, 0)] (pc' := 48) (L' := [(0, .ref 0), (1, .int a1), (2, .int a2), (3, .int a3)]) (S' := [.ref 0]) (by decide +kernel) rfl ?_
              refine sm_getR 11 0 1 cls11 C (ltM (by decide +kernel : kdM 0 = 11) (by decide)) (by decide +kernel : kdM 0 = 11) (obM11 (by decide +kernel : kdM 0 = 11)) (by decide) (frM11_0 (by decide +kernel : kdM 0 = 11)) fl11_7 (by decide +kernel) ?_
              refine sm_seg C [(.sipush 629, 629)] (pc' := 54) (L' := [(0, .ref 0), (1, .int a1), (2, .int a2), (3, .int a3)]) (S' := [.int 629, .ref 1]) (by decide +kernel) rfl ?_
              refine sm_ald 2244 C (ltM (krM11_0 (by decide +kernel : kdM 0 = 11)) (by decide)) (krM11_0 (by decide +kernel : kdM 0 = 11)) (nrM11_0 (by decide +kernel : kdM 0 = 11)) (by decide +kernel) (fun v9 => ?_)
              refine sm_seg C [(.bipush 12, 12)] (pc' := 57) (L' := [(0, .ref 0), (1, .int a1), (2, .int a2), (3, .int a3)]) (S' := [.int 12, .int v9]) (by decide +kernel) rfl ?_
              refine sm_icmpne 62 (off := 5) C (by decide +kernel) (by decide) (fun _ => ?_) (fun _ => ?_)
              · refine sm_seg C [(.iconst (-1), (-1))] (pc' := 61) (L' := [(0, .ref 0), (1, .int a1), (2, .int a2), (3, .int a3)]) (S' := [.int (-1)]) (by decide +kernel) rfl ?_
                exact sm_iret C hr rfl (by decide +kernel)
              · refine sm_seg C [(.sipush 630, 630), (.iconst 3, 3), (.aload_n 0, 0)] (pc' := 67) (L' := [(0, .ref 0), (1, .int a1), (2, .int a2), (3, .int a3)]) (S' := [.ref 0, .int 3, .int 630]) (by decide +kernel) rfl ?_
                refine sm_getR 11 0 1 cls11 C (ltM (by decide +kernel : kdM 0 = 11) (by decide)) (by decide +kernel : kdM 0 = 11) (obM11 (by decide +kernel : kdM 0 = 11)) (by decide) (frM11_0 (by decide +kernel : kdM 0 = 11)) fl11_7 (by decide +kernel) ?_
                refine sm_seg C [(.sipush 629, 629)] (pc' := 73) (L' := [(0, .ref 0), (1, .int a1), (2, .int a2), (3, .int a3)]) (S' := [.int 629, .ref 1, .int 3, .int 630]) (by decide +kernel) rfl ?_
                refine sm_ald 2244 C (ltM (krM11_0 (by decide +kernel : kdM 0 = 11)) (by decide)) (krM11_0 (by decide +kernel : kdM 0 = 11)) (nrM11_0 (by decide +kernel : kdM 0 = 11)) (by decide +kernel) (fun v10 => ?_)
                refine sm_seg C [(.imul, 0), (.iadd, 0), (.istore 4, 0), (.aload_n 0, 0)] (pc' := 79) (L' := [(4, .int (630 + (3 * v10))), (0, .ref 0), (1, .int a1), (2, .int a2), (3, .int a3)]) (S' := [.ref 0]) (by decide +kernel) rfl ?_
                refine sm_getR 11 0 1 cls11 C (ltM (by decide +kernel : kdM 0 = 11) (by decide)) (by decide +kernel : kdM 0 = 11) (obM11 (by decide +kernel : kdM 0 = 11)) (by decide) (frM11_0 (by decide +kernel : kdM 0 = 11)) fl11_7 (by decide +kernel) ?_
                refine sm_seg C [(.iload 4, 0), (.iload_n 1, 0)] (pc' := 85) (L' := [(4, .int (630 + (3 * v10))), (0, .ref 0), (1, .int a1), (2, .int a2), (3, .int a3)]) (S' := [.int a1, .int (630 + (3 * v10)), .ref 1]) (by decide +kernel) rfl ?_
                refine sm_ast 2244 C (ltM (krM11_0 (by decide +kernel : kdM 0 = 11)) (by decide)) (krM11_0 (by decide +kernel : kdM 0 = 11)) (nrM11_0 (by decide +kernel : kdM 0 = 11)) (by decide +kernel) (fun τ11 => ?_)
                refine sm_seg C [(.aload_n 0, 0)] (pc' := 87) (L' := [(4, .int (630 + (3 * v10))), (0, .ref 0), (1, .int a1), (2, .int a2), (3, .int a3)]) (S' := [.ref 0]) (by decide +kernel) rfl ?_
                refine sm_getR 11 0 1 cls11 C (ltM (by decide +kernel : kdM 0 = 11) (by decide)) (by decide +kernel : kdM 0 = 11) (obM11 (by decide +kernel : kdM 0 = 11)) (by decide) (frM11_0 (by decide +kernel : kdM 0 = 11)) fl11_7 (by decide +kernel) ?_
                refine sm_seg C [(.iload 4, 0), (.iconst 1, 1), (.iadd, 0), (.iload_n 2, 0)] (pc' := 95) (L' := [(4, .int (630 + (3 * v10))), (0, .ref 0), (1, .int a1), (2, .int a2), (3, .int a3)]) (S' := [.int a2, .int ((630 + (3 * v10)) + 1), .ref 1]) (by decide +kernel) rfl ?_
                refine sm_ast 2244 C (ltM (krM11_0 (by decide +kernel : kdM 0 = 11)) (by decide)) (krM11_0 (by decide +kernel : kdM 0 = 11)) (nrM11_0 (by decide +kernel : kdM 0 = 11)) (by decide +kernel) (fun τ12 => ?_)
                refine sm_seg C [(.aload_n 0, 0)] (pc' := 97) (L' := [(4, .int (630 + (3 * v10))), (0, .ref 0), (1, .int a1), (2, .int a2), (3, .int a3)]) (S' := [.ref 0]) (by decide +kernel) rfl ?_
                refine sm_getR 11 0 1 cls11 C (ltM (by decide +kernel : kdM 0 = 11) (by decide)) (by decide +kernel : kdM 0 = 11) (obM11 (by decide +kernel : kdM 0 = 11)) (by decide) (frM11_0 (by decide +kernel : kdM 0 = 11)) fl11_7 (by decide +kernel) ?_
                refine sm_seg C [(.iload 4, 0), (.iconst 2, 2), (.iadd, 0), (.iload_n 3, 0)] (pc' := 105) (L' := [(4, .int (630 + (3 * v10))), (0, .ref 0), (1, .int a1), (2, .int a2), (3, .int a3)]) (S' := [.int a3, .int ((630 + (3 * v10)) + 2), .ref 1]) (by decide +kernel) rfl ?_
                refine sm_ast 2244 C (ltM (krM11_0 (by decide +kernel : kdM 0 = 11)) (by decide)) (krM11_0 (by decide +kernel : kdM 0 = 11)) (nrM11_0 (by decide +kernel : kdM 0 = 11)) (by decide +kernel) (fun τ13 => ?_)
                refine sm_seg C [(.aload_n 0, 0)] (pc' := 107) (L' := [(4, .int (630 + (3 * v10))), (0, .ref 0), (1, .int a1), (2, .int a2), (3, .int a3)]) (S' := [.ref 0]) (by decide +kernel) rfl ?_
                refine sm_getR 11 0 1 cls11 C (ltM (by decide +kernel : kdM 0 = 11) (by decide)) (by decide +kernel : kdM 0 = 11) (obM11 (by decide +kernel : kdM 0 = 11)) (by decide) (frM11_0 (by decide +kernel : kdM 0 = 11)) fl11_7 (by decide +kernel) ?_
                refine sm_seg C [(.sipush 629, 629), (.dup2, 0)] (pc' := 114) (L' := [(4, .int (630 + (3 * v10))), (0, .ref 0), (1, .int a1), (2, .int a2), (3, .int a3)]) (S' := [.int 629, .ref 1, .int 629, .ref 1]) (by decide +kernel) rfl ?_
                refine sm_ald 2244 C (ltM (krM11_0 (by decide +kernel : kdM 0 = 11)) (by decide)) (krM11_0 (by decide +kernel : kdM 0 = 11)) (nrM11_0 (by decide +kernel : kdM 0 = 11)) (by decide +kernel) (fun v14 => ?_)
                refine sm_seg C [(.iconst 1, 1), (.iadd, 0)] (pc' := 117) (L' := [(4, .int (630 + (3 * v10))), (0, .ref 0), (1, .int a1), (2, .int a2), (3, .int a3)]) (S' := [.int (v14 + 1), .int 629, .ref 1]) (by decide +kernel) rfl ?_
                refine sm_ast 2244 C (ltM (krM11_0 (by decide +kernel : kdM 0 = 11)) (by decide)) (krM11_0 (by decide +kernel : kdM 0 = 11)) (nrM11_0 (by decide +kernel : kdM 0 = 11)) (by decide +kernel) (fun τ15 => ?_)
                refine sm_seg C [(.aload_n 0, 0)] (pc' := 119) (L' := [(4, .int (630 + (3 * v10))), (0, .ref 0), (1, .int a1), (2, .int a2), (3, .int a3)]) (S' := [.ref 0]) (by decide +kernel) rfl ?_
                refine sm_getR 11 0 1 cls11 C (ltM (by decide +kernel : kdM 0 = 11) (by decide)) (by decide +kernel : kdM 0 = 11) (obM11 (by decide +kernel : kdM 0 = 11)) (by decide) (frM11_0 (by decide +kernel : kdM 0 = 11)) fl11_7 (by decide +kernel) ?_
                refine sm_seg C [(.sipush 629, 629)] (pc' := 125) (L' := [(4, .int (630 + (3 * v10))), (0, .ref 0), (1, .int a1), (2, .int a2), (3, .int a3)]) (S' := [.int 629, .ref 1]) (by decide +kernel) rfl ?_
                refine sm_ald 2244 C (ltM (krM11_0 (by decide +kernel : kdM 0 = 11)) (by decide)) (krM11_0 (by decide +kernel : kdM 0 = 11)) (nrM11_0 (by decide +kernel : kdM 0 = 11)) (by decide +kernel) (fun v16 => ?_)
                exact sm_iret C hr rfl (by decide +kernel)) h
/-! BasketEnvoysModel.puts -/
def X11_puts_L13 (F : Nat) : Nat → Int32 → Int32 → Int32 → Tau → Option (Int32 × Tau)
  | 0, _, _, _, _ => none
  | n + 1, a2, a3, a4, τ =>
    if a3 ≤ a4 then (some ((τ 0 15), τ)) else (ald τ 7 140 a4 fun v2 => ast τ 1 2244 (a2 + a4) v2 fun τ3 => X11_puts_L13 F n a2 a3 (a4 + 1) τ3)
theorem s_X11_puts_L13 (F : Nat) {K : Ctx} (C : Cx K sysM RX11 cX11_puts 5 1) (hr : Rt K (some .int)) : ∀ (n : Nat) (a2 : Int32) (a3 : Int32) (a4 : Int32) (τ : Tau), Sm K sysM 5 (Qi K sysM) (X11_puts_L13 F n a2 a3 a4 τ) 13 [(0, .ref 0), (2, .int a2), (3, .int a3), (4, .int a4)] [] τ := by
  intro n
  induction n with
  | zero => intro a2 a3 a4 τ; exact sm_none
  | succ n ih =>
    intro a2 a3 a4 τ
    rw [X11_puts_L13]
    refine sm_seg C [(.iload 4, 0), (.iload_n 3, 0)] (pc' := 16) (L' := [(0, .ref 0), (2, .int a2), (3, .int a3), (4, .int a4)]) (S' := [.int a3, .int a4]) (by decide +kernel) rfl ?_
    refine sm_icmpge 41 (off := 25) C (by decide +kernel) (by decide) (fun _ => ?_) (fun _ => ?_)
    · refine sm_seg C [(.aload_n 0, 0)] (pc' := 42) (L' := [(0, .ref 0), (2, .int a2), (3, .int a3), (4, .int a4)]) (S' := [.ref 0]) (by decide +kernel) rfl ?_
      refine sm_getI 11 15 cls11 C (ltM (by decide +kernel : kdM 0 = 11) (by decide)) (by decide +kernel : kdM 0 = 11) (obM11 (by decide +kernel : kdM 0 = 11)) (by decide) (fiM11_15 (by decide +kernel : kdM 0 = 11)) fl11_259 (by decide +kernel) ?_
      exact sm_iret C hr rfl (by decide +kernel)
    · refine sm_seg C [(.aload_n 0, 0)] (pc' := 20) (L' := [(0, .ref 0), (2, .int a2), (3, .int a3), (4, .int a4)]) (S' := [.ref 0]) (by decide +kernel) rfl ?_
      refine sm_getR 11 0 1 cls11 C (ltM (by decide +kernel : kdM 0 = 11) (by decide)) (by decide +kernel : kdM 0 = 11) (obM11 (by decide +kernel : kdM 0 = 11)) (by decide) (frM11_0 (by decide +kernel : kdM 0 = 11)) fl11_7 (by decide +kernel) ?_
      refine sm_seg C [(.iload_n 2, 0), (.iload 4, 0), (.iadd, 0), (.aload_n 0, 0)] (pc' := 28) (L' := [(0, .ref 0), (2, .int a2), (3, .int a3), (4, .int a4)]) (S' := [.ref 0, .int (a2 + a4), .ref 1]) (by decide +kernel) rfl ?_
      refine sm_getR 11 8 7 cls11 C (ltM (by decide +kernel : kdM 0 = 11) (by decide)) (by decide +kernel : kdM 0 = 11) (obM11 (by decide +kernel : kdM 0 = 11)) (by decide) (frM11_8 (by decide +kernel : kdM 0 = 11)) fl11_28 (by decide +kernel) ?_
      refine sm_seg C [(.iload 4, 0)] (pc' := 33) (L' := [(0, .ref 0), (2, .int a2), (3, .int a3), (4, .int a4)]) (S' := [.int a4, .ref 7, .int (a2 + a4), .ref 1]) (by decide +kernel) rfl ?_
      refine sm_ald 140 C (ltM (krM11_8 (by decide +kernel : kdM 0 = 11)) (by decide)) (krM11_8 (by decide +kernel : kdM 0 = 11)) (nrM11_8 (by decide +kernel : kdM 0 = 11)) (by decide +kernel) (fun v2 => ?_)
      refine sm_ast 2244 C (ltM (krM11_0 (by decide +kernel : kdM 0 = 11)) (by decide)) (krM11_0 (by decide +kernel : kdM 0 = 11)) (nrM11_0 (by decide +kernel : kdM 0 = 11)) (by decide +kernel) (fun τ3 => ?_)
      refine sm_seg C [(.iinc 4 1, 1), (.goto (-25), 0)] (pc' := 13) (L' := [(4, .int (a4 + 1)), (0, .ref 0), (2, .int a2), (3, .int a3)]) (S' := []) (by decide +kernel) rfl ?_
      exact sm_sub [1, 2, 3, 0] rfl (ih a2 a3 (a4 + 1) τ3)
def X11_puts (F : Nat) (a1 : Int32) (a2 : Int32) (a3 : Int32) (τ : Tau) : Option (Int32 × Tau) :=
  ast τ 1 2244 a1 (τ 0 15) fun τ1 => X11_puts_L13 F F a2 a3 0 τ1
set_option maxRecDepth 20000 in
set_option maxHeartbeats 4000000 in
theorem c_X11_puts (F : Nat) (a1 : Int32) (a2 : Int32) (a3 : Int32) (τ : Tau) (r : Int32) (τ' : Tau) (h : X11_puts F a1 a2 a3 τ = some (r, τ')) : MCi sysM yX11_puts cX11_puts 5 (some .int) 1 [.ref 0, .int a1, .int a2, .int a3] τ r τ' :=
  mci_of (by decide +kernel) (Nat.le_of_ble_eq_true rfl) (fun K C hr => by
    show Sm K sysM 5 (Qi K sysM) (X11_puts F a1 a2 a3 τ) 0 [(0, .ref 0), (1, .int a1), (2, .int a2), (3, .int a3)] [] τ
    unfold X11_puts
    refine sm_seg C [(.aload_n 0, 0)] (pc' := 1) (L' := [(0, .ref 0), (1, .int a1), (2, .int a2), (3, .int a3)]) (S' := [.ref 0]) (by decide +kernel) rfl ?_
    refine sm_getR 11 0 1 cls11 C (ltM (by decide +kernel : kdM 0 = 11) (by decide)) (by decide +kernel : kdM 0 = 11) (obM11 (by decide +kernel : kdM 0 = 11)) (by decide) (frM11_0 (by decide +kernel : kdM 0 = 11)) fl11_7 (by decide +kernel) ?_
    refine sm_seg C [(.iload_n 1, 0), (.aload_n 0, 0)] (pc' := 6) (L' := [(0, .ref 0), (1, .int a1), (2, .int a2), (3, .int a3)]) (S' := [.ref 0, .int a1, .ref 1]) (by decide +kernel) rfl ?_
    refine sm_getI 11 15 cls11 C (ltM (by decide +kernel : kdM 0 = 11) (by decide)) (by decide +kernel : kdM 0 = 11) (obM11 (by decide +kernel : kdM 0 = 11)) (by decide) (fiM11_15 (by decide +kernel : kdM 0 = 11)) fl11_259 (by decide +kernel) ?_
    refine sm_ast 2244 C (ltM (krM11_0 (by decide +kernel : kdM 0 = 11)) (by decide)) (krM11_0 (by decide +kernel : kdM 0 = 11)) (nrM11_0 (by decide +kernel : kdM 0 = 11)) (by decide +kernel) (fun τ1 => ?_)
    refine sm_seg C [(.iconst 0, 0), (.istore 4, 0)] (pc' := 13) (L' := [(4, .int 0), (0, .ref 0), (1, .int a1), (2, .int a2), (3, .int a3)]) (S' := []) (by decide +kernel) rfl ?_
    exact sm_sub [1, 3, 4, 0] rfl (s_X11_puts_L13 F C hr F a2 a3 0 τ1)) h
/-! BasketEnvoysModel.putsLaw -/
def X11_putsLaw_L108 (F : Nat) : Nat → Int32 → Tau → Option (Int32 × Tau)
  | 0, _, _ => none
  | n + 1, a1, τ =>
    if (2 * (τ 0 14)) ≤ a1 then (some ((τ 0 13), τ)) else (ald τ 6 820 a1 fun v2 => ast τ 1 2244 (1424 + a1) v2 fun τ3 => X11_putsLaw_L108 F n (a1 + 1) τ3)
theorem s_X11_putsLaw_L108 (F : Nat) {K : Ctx} (C : Cx K sysM RX11 cX11_putsLaw 2 1) (hr : Rt K (some .int)) : ∀ (n : Nat) (a1 : Int32) (τ : Tau), Sm K sysM 2 (Qi K sysM) (X11_putsLaw_L108 F n a1 τ) 108 [(0, .ref 0), (1, .int a1)] [] τ := by
  intro n
  induction n with
  | zero => intro a1 τ; exact sm_none
  | succ n ih =>
    intro a1 τ
    rw [X11_putsLaw_L108]
    refine sm_seg C [(.iload_n 1, 0), (.iconst 2, 2), (.aload_n 0, 0)] (pc' := 111) (L' := [(0, .ref 0), (1, .int a1)]) (S' := [.ref 0, .int 2, .int a1]) (by decide +kernel) rfl ?_
    refine sm_getI 11 14 cls11 C (ltM (by decide +kernel : kdM 0 = 11) (by decide)) (by decide +kernel : kdM 0 = 11) (obM11 (by decide +kernel : kdM 0 = 11)) (by decide) (fiM11_14 (by decide +kernel : kdM 0 = 11)) fl11_211 (by decide +kernel) ?_
    refine sm_seg C [(.imul, 0)] (pc' := 115) (L' := [(0, .ref 0), (1, .int a1)]) (S' := [.int (2 * (τ 0 14)), .int a1]) (by decide +kernel) rfl ?_
    refine sm_icmpge 140 (off := 25) C (by decide +kernel) (by decide) (fun _ => ?_) (fun _ => ?_)
    · refine sm_seg C [(.aload_n 0, 0)] (pc' := 141) (L' := [(0, .ref 0), (1, .int a1)]) (S' := [.ref 0]) (by decide +kernel) rfl ?_
      refine sm_getI 11 13 cls11 C (ltM (by decide +kernel : kdM 0 = 11) (by decide)) (by decide +kernel : kdM 0 = 11) (obM11 (by decide +kernel : kdM 0 = 11)) (by decide) (fiM11_13 (by decide +kernel : kdM 0 = 11)) fl11_246 (by decide +kernel) ?_
      exact sm_iret C hr rfl (by decide +kernel)
    · refine sm_seg C [(.aload_n 0, 0)] (pc' := 119) (L' := [(0, .ref 0), (1, .int a1)]) (S' := [.ref 0]) (by decide +kernel) rfl ?_
      refine sm_getR 11 0 1 cls11 C (ltM (by decide +kernel : kdM 0 = 11) (by decide)) (by decide +kernel : kdM 0 = 11) (obM11 (by decide +kernel : kdM 0 = 11)) (by decide) (frM11_0 (by decide +kernel : kdM 0 = 11)) fl11_7 (by decide +kernel) ?_
      refine sm_seg C [(.sipush 1424, 1424), (.iload_n 1, 0), (.iadd, 0), (.aload_n 0, 0)] (pc' := 128) (L' := [(0, .ref 0), (1, .int a1)]) (S' := [.ref 0, .int (1424 + a1), .ref 1]) (by decide +kernel) rfl ?_
      refine sm_getR 11 7 6 cls11 C (ltM (by decide +kernel : kdM 0 = 11) (by decide)) (by decide +kernel : kdM 0 = 11) (obM11 (by decide +kernel : kdM 0 = 11)) (by decide) (frM11_7 (by decide +kernel : kdM 0 = 11)) fl11_25 (by decide +kernel) ?_
      refine sm_seg C [(.iload_n 1, 0)] (pc' := 132) (L' := [(0, .ref 0), (1, .int a1)]) (S' := [.int a1, .ref 6, .int (1424 + a1), .ref 1]) (by decide +kernel) rfl ?_
      refine sm_ald 820 C (ltM (krM11_7 (by decide +kernel : kdM 0 = 11)) (by decide)) (krM11_7 (by decide +kernel : kdM 0 = 11)) (nrM11_7 (by decide +kernel : kdM 0 = 11)) (by decide +kernel) (fun v2 => ?_)
      refine sm_ast 2244 C (ltM (krM11_0 (by decide +kernel : kdM 0 = 11)) (by decide)) (krM11_0 (by decide +kernel : kdM 0 = 11)) (nrM11_0 (by decide +kernel : kdM 0 = 11)) (by decide +kernel) (fun τ3 => ?_)
      refine sm_seg C [(.iinc 1 1, 1), (.goto (-29), 0)] (pc' := 108) (L' := [(1, .int (a1 + 1)), (0, .ref 0)]) (S' := []) (by decide +kernel) rfl ?_
      exact sm_sub [1, 0] rfl (ih (a1 + 1) τ3)
def X11_putsLaw_L14 (F : Nat) : Nat → Int32 → Tau → Option (Int32 × Tau)
  | 0, _, _ => none
  | n + 1, a1, τ =>
    if (τ 0 13) ≤ a1 then (X11_putsLaw_L108 F F 0 τ) else (ald τ 5 64 (4 * a1) fun v4 => ast τ 1 2244 (1360 + a1) v4 fun τ5 => ald τ5 5 64 ((4 * a1) + 1) fun v6 => ast τ5 1 2244 (1376 + a1) v6 fun τ7 => ald τ7 5 64 ((4 * a1) + 2) fun v8 => ast τ7 1 2244 (1392 + a1) v8 fun τ9 => ald τ9 5 64 ((4 * a1) + 3) fun v10 => ast τ9 1 2244 (1408 + a1) v10 fun τ11 => X11_putsLaw_L14 F n (a1 + 1) τ11)
theorem s_X11_putsLaw_L14 (F : Nat) {K : Ctx} (C : Cx K sysM RX11 cX11_putsLaw 2 1) (hr : Rt K (some .int)) : ∀ (n : Nat) (a1 : Int32) (τ : Tau), Sm K sysM 2 (Qi K sysM) (X11_putsLaw_L14 F n a1 τ) 14 [(0, .ref 0), (1, .int a1)] [] τ := by
  intro n
  induction n with
  | zero => intro a1 τ; exact sm_none
  | succ n ih =>
    intro a1 τ
    rw [X11_putsLaw_L14]
    refine sm_seg C [(.iload_n 1, 0), (.aload_n 0, 0)] (pc' := 16) (L' := [(0, .ref 0), (1, .int a1)]) (S' := [.ref 0, .int a1]) (by decide +kernel) rfl ?_
    refine sm_getI 11 13 cls11 C (ltM (by decide +kernel : kdM 0 = 11) (by decide)) (by decide +kernel : kdM 0 = 11) (obM11 (by decide +kernel : kdM 0 = 11)) (by decide) (fiM11_13 (by decide +kernel : kdM 0 = 11)) fl11_246 (by decide +kernel) ?_
    refine sm_icmpge 106 (off := 87) C (by decide +kernel) (by decide) (fun _ => ?_) (fun _ => ?_)
    · refine sm_seg C [(.iconst 0, 0), (.istore_n 1, 0)] (pc' := 108) (L' := [(1, .int 0), (0, .ref 0)]) (S' := []) (by decide +kernel) rfl ?_
      exact sm_sub [1, 0] rfl (s_X11_putsLaw_L108 F C hr F 0 τ)
    · refine sm_seg C [(.aload_n 0, 0)] (pc' := 23) (L' := [(0, .ref 0), (1, .int a1)]) (S' := [.ref 0]) (by decide +kernel) rfl ?_
      refine sm_getR 11 0 1 cls11 C (ltM (by decide +kernel : kdM 0 = 11) (by decide)) (by decide +kernel : kdM 0 = 11) (obM11 (by decide +kernel : kdM 0 = 11)) (by decide) (frM11_0 (by decide +kernel : kdM 0 = 11)) fl11_7 (by decide +kernel) ?_
      refine sm_seg C [(.sipush 1360, 1360), (.iload_n 1, 0), (.iadd, 0), (.aload_n 0, 0)] (pc' := 32) (L' := [(0, .ref 0), (1, .int a1)]) (S' := [.ref 0, .int (1360 + a1), .ref 1]) (by decide +kernel) rfl ?_
      refine sm_getR 11 6 5 cls11 C (ltM (by decide +kernel : kdM 0 = 11) (by decide)) (by decide +kernel : kdM 0 = 11) (obM11 (by decide +kernel : kdM 0 = 11)) (by decide) (frM11_6 (by decide +kernel : kdM 0 = 11)) fl11_22 (by decide +kernel) ?_
      refine sm_seg C [(.iconst 4, 4), (.iload_n 1, 0), (.imul, 0)] (pc' := 38) (L' := [(0, .ref 0), (1, .int a1)]) (S' := [.int (4 * a1), .ref 5, .int (1360 + a1), .ref 1]) (by decide +kernel) rfl ?_
      refine sm_ald 64 C (ltM (krM11_6 (by decide +kernel : kdM 0 = 11)) (by decide)) (krM11_6 (by decide +kernel : kdM 0 = 11)) (nrM11_6 (by decide +kernel : kdM 0 = 11)) (by decide +kernel) (fun v4 => ?_)
      refine sm_ast 2244 C (ltM (krM11_0 (by decide +kernel : kdM 0 = 11)) (by decide)) (krM11_0 (by decide +kernel : kdM 0 = 11)) (nrM11_0 (by decide +kernel : kdM 0 = 11)) (by decide +kernel) (fun τ5 => ?_)
      refine sm_seg C [(.aload_n 0, 0)] (pc' := 41) (L' := [(0, .ref 0), (1, .int a1)]) (S' := [.ref 0]) (by decide +kernel) rfl ?_
      refine sm_getR 11 0 1 cls11 C (ltM (by decide +kernel : kdM 0 = 11) (by decide)) (by decide +kernel : kdM 0 = 11) (obM11 (by decide +kernel : kdM 0 = 11)) (by decide) (frM11_0 (by decide +kernel : kdM 0 = 11)) fl11_7 (by decide +kernel) ?_
      refine sm_seg C [(.sipush 1376, 1376), (.iload_n 1, 0), (.iadd, 0), (.aload_n 0, 0)] (pc' := 50) (L' := [(0, .ref 0), (1, .int a1)]) (S' := [.ref 0, .int (1376 + a1), .ref 1]) (by decide +kernel) rfl ?_
      refine sm_getR 11 6 5 cls11 C (ltM (by decide +kernel : kdM 0 = 11) (by decide)) (by decide +kernel : kdM 0 = 11) (obM11 (by decide +kernel : kdM 0 = 11)) (by decide) (frM11_6 (by decide +kernel : kdM 0 = 11)) fl11_22 (by decide +kernel) ?_
      refine sm_seg C [(.iconst 4, 4), (.iload_n 1, 0), (.imul, 0), (.iconst 1, 1), (.iadd, 0)] (pc' := 58) (L' := [(0, .ref 0), (1, .int a1)]) (S' := [.int ((4 * a1) + 1), .ref 5, .int (1376 + a1), .ref 1]) (by decide +kernel) rfl ?_
      refine sm_ald 64 C (ltM (krM11_6 (by decide +kernel : kdM 0 = 11)) (by decide)) (krM11_6 (by decide +kernel : kdM 0 = 11)) (nrM11_6 (by decide +kernel : kdM 0 = 11)) (by decide +kernel) (fun v6 => ?_)
      refine sm_ast 2244 C (ltM (krM11_0 (by decide +kernel : kdM 0 = 11)) (by decide)) (krM11_0 (by decide +kernel : kdM 0 = 11)) (nrM11_0 (by decide +kernel : kdM 0 = 11)) (by decide +kernel) (fun τ7 => ?_)
      refine sm_seg C [(.aload_n 0, 0)] (pc' := 61) (L' := [(0, .ref 0), (1, .int a1)]) (S' := [.ref 0]) (by decide +kernel) rfl ?_
      refine sm_getR 11 0 1 cls11 C (ltM (by decide +kernel : kdM 0 = 11) (by decide)) (by decide +kernel : kdM 0 = 11) (obM11 (by decide +kernel : kdM 0 = 11)) (by decide) (frM11_0 (by decide +kernel : kdM 0 = 11)) fl11_7 (by decide +kernel) ?_
      refine sm_seg C [(.sipush 1392, 1392), (.iload_n 1, 0), (.iadd, 0), (.aload_n 0, 0)] (pc' := 70) (L' := [(0, .ref 0), (1, .int a1)]) (S' := [.ref 0, .int (1392 + a1), .ref 1]) (by decide +kernel) rfl ?_
      refine sm_getR 11 6 5 cls11 C (ltM (by decide +kernel : kdM 0 = 11) (by decide)) (by decide +kernel : kdM 0 = 11) (obM11 (by decide +kernel : kdM 0 = 11)) (by decide) (frM11_6 (by decide +kernel : kdM 0 = 11)) fl11_22 (by decide +kernel) ?_
      refine sm_seg C [(.iconst 4, 4), (.iload_n 1, 0), (.imul, 0), (.iconst 2, 2), (.iadd, 0)] (pc' := 78) (L' := [(0, .ref 0), (1, .int a1)]) (S' := [.int ((4 * a1) + 2), .ref 5, .int (1392 + a1), .ref 1]) (by decide +kernel) rfl ?_
      refine sm_ald 64 C (ltM (krM11_6 (by decide +kernel : kdM 0 = 11)) (by decide)) (krM11_6 (by decide +kernel : kdM 0 = 11)) (nrM11_6 (by decide +kernel : kdM 0 = 11)) (by decide +kernel) (fun v8 => ?_)
      refine sm_ast 2244 C (ltM (krM11_0 (by decide +kernel : kdM 0 = 11)) (by decide)) (krM11_0 (by decide +kernel : kdM 0 = 11)) (nrM11_0 (by decide +kernel : kdM 0 = 11)) (by decide +kernel) (fun τ9 => ?_)
      refine sm_seg C [(.aload_n 0, 0)] (pc' := 81) (L' := [(0, .ref 0), (1, .int a1)]) (S' := [.ref 0]) (by decide +kernel) rfl ?_
      refine sm_getR 11 0 1 cls11 C (ltM (by decide +kernel : kdM 0 = 11) (by decide)) (by decide +kernel : kdM 0 = 11) (obM11 (by decide +kernel : kdM 0 = 11)) (by decide) (frM11_0 (by decide +kernel : kdM 0 = 11)) fl11_7 (by decide +kernel) ?_
      refine sm_seg C [(.sipush 1408, 1408), (.iload_n 1, 0), (.iadd, 0), (.aload_n 0, 0)] (pc' := 90) (L' := [(0, .ref 0), (1, .int a1)]) (S' := [.ref 0, .int (1408 + a1), .ref 1]) (by decide +kernel) rfl ?_
      refine sm_getR 11 6 5 cls11 C (ltM (by decide +kernel : kdM 0 = 11) (by decide)) (by decide +kernel : kdM 0 = 11) (obM11 (by decide +kernel : kdM 0 = 11)) (by decide) (frM11_6 (by decide +kernel : kdM 0 = 11)) fl11_22 (by decide +kernel) ?_
      refine sm_seg C [(.iconst 4, 4), (.iload_n 1, 0), (.imul, 0), (.iconst 3, 3), (.iadd, 0)] (pc' := 98) (L' := [(0, .ref 0), (1, .int a1)]) (S' := [.int ((4 * a1) + 3), .ref 5, .int (1408 + a1), .ref 1]) (by decide +kernel) rfl ?_
      refine sm_ald 64 C (ltM (krM11_6 (by decide +kernel : kdM 0 = 11)) (by decide)) (krM11_6 (by decide +kernel : kdM 0 = 11)) (nrM11_6 (by decide +kernel : kdM 0 = 11)) (by decide +kernel) (fun v10 => ?_)
      refine sm_ast 2244 C (ltM (krM11_0 (by decide +kernel : kdM 0 = 11)) (by decide)) (krM11_0 (by decide +kernel : kdM 0 = 11)) (nrM11_0 (by decide +kernel : kdM 0 = 11)) (by decide +kernel) (fun τ11 => ?_)
      refine sm_seg C [(.iinc 1 1, 1), (.goto (-89), 0)] (pc' := 14) (L' := [(1, .int (a1 + 1)), (0, .ref 0)]) (S' := []) (by decide +kernel) rfl ?_
      exact sm_sub [1, 0] rfl (ih (a1 + 1) τ11)
def X11_putsLaw (F : Nat) (τ : Tau) : Option (Int32 × Tau) :=
  ast τ 1 2244 257 (τ 0 13) fun τ1 => X11_putsLaw_L14 F F 0 τ1
set_option maxRecDepth 20000 in
set_option maxHeartbeats 4000000 in
theorem c_X11_putsLaw (F : Nat) (τ : Tau) (r : Int32) (τ' : Tau) (h : X11_putsLaw F τ = some (r, τ')) : MCi sysM yX11_putsLaw cX11_putsLaw 2 (some .int) 1 [.ref 0] τ r τ' :=
  mci_of (by decide +kernel) (Nat.le_of_ble_eq_true rfl) (fun K C hr => by
    show Sm K sysM 2 (Qi K sysM) (X11_putsLaw F τ) 0 [(0, .ref 0)] [] τ
    unfold X11_putsLaw
    refine sm_seg C [(.aload_n 0, 0)] (pc' := 1) (L' := [(0, .ref 0)]) (S' := [.ref 0]) (by decide +kernel) rfl ?_
    refine sm_getR 11 0 1 cls11 C (ltM (by decide +kernel : kdM 0 = 11) (by decide)) (by decide +kernel : kdM 0 = 11) (obM11 (by decide +kernel : kdM 0 = 11)) (by decide) (frM11_0 (by decide +kernel : kdM 0 = 11)) fl11_7 (by decide +kernel) ?_
    refine sm_seg C [(.sipush 257, 257), (.aload_n 0, 0)] (pc' := 8) (L' := [(0, .ref 0)]) (S' := [.ref 0, .int 257, .ref 1]) (by decide +kernel) rfl ?_
    refine sm_getI 11 13 cls11 C (ltM (by decide +kernel : kdM 0 = 11) (by decide)) (by decide +kernel : kdM 0 = 11) (obM11 (by decide +kernel : kdM 0 = 11)) (by decide) (fiM11_13 (by decide +kernel : kdM 0 = 11)) fl11_246 (by decide +kernel) ?_
    refine sm_ast 2244 C (ltM (krM11_0 (by decide +kernel : kdM 0 = 11)) (by decide)) (krM11_0 (by decide +kernel : kdM 0 = 11)) (nrM11_0 (by decide +kernel : kdM 0 = 11)) (by decide +kernel) (fun τ1 => ?_)
    refine sm_seg C [(.iconst 0, 0), (.istore_n 1, 0)] (pc' := 14) (L' := [(1, .int 0), (0, .ref 0)]) (S' := []) (by decide +kernel) rfl ?_
    exact sm_sub [1, 0] rfl (s_X11_putsLaw_L14 F C hr F 0 τ1)) h
/-! BasketEnvoysModel.putsText -/
def X11_putsText_j42 (F : Nat) (a1 : Int32) (τ : Tau) : Option (Int32 × Tau) :=
  if a1 = 1 then (cal (X11_puts F 258 261 120 τ) fun r5 τ6 => some (r5, τ6)) else (if a1 = 2 then (cal (X11_puts F 259 381 (4 * (τ 0 15)) τ) fun r7 τ8 => some (r7, τ8)) else (cal (X11_puts F 260 445 70 τ) fun r9 τ10 => some (r9, τ10)))
theorem s_X11_putsText_j42 (F : Nat) {K : Ctx} (C : Cx K sysM RX11 cX11_putsText 3 2) (hr : Rt K (some .int)) (a1 : Int32) (τ : Tau) : Sm K sysM 3 (Qi K sysM) (X11_putsText_j42 F a1 τ) 42 [(0, .ref 0), (1, .int a1)] [] τ := by
  unfold X11_putsText_j42
  refine sm_seg C [(.iload_n 1, 0), (.iconst 1, 1)] (pc' := 44) (L' := [(0, .ref 0), (1, .int a1)]) (S' := [.int 1, .int a1]) (by decide +kernel) rfl ?_
  refine sm_icmpne 62 (off := 18) C (by decide +kernel) (by decide) (fun _ => ?_) (fun _ => ?_)
  · refine sm_seg C [(.aload_n 0, 0), (.sipush 258, 258), (.sipush 261, 261), (.bipush 120, 120)] (pc' := 56) (L' := [(0, .ref 0), (1, .int a1)]) (S' := [.int 120, .int 261, .int 258, .ref 0]) (by decide +kernel) rfl ?_
    refine sm_vcal [.int 258, .int 261, .int 120] [] rfl C mw_X11_puts ml_11_277 rfl (ci := 11) rfl (ltM (by decide +kernel : kdM 0 = 11) (by decide)) (by decide +kernel : kdM 0 = 11) (by decide) ⟨by decide, by decide⟩ (Nat.le_of_ble_eq_true rfl) (by decide +kernel) (c_X11_puts F 258 261 120 τ) (fun r5 τ6 => ?_)
    refine sm_seg C [(.goto 39, 0)] (pc' := 98) (L' := [(0, .ref 0), (1, .int a1)]) (S' := [.int r5]) (by decide +kernel) rfl ?_
    exact sm_iret C hr rfl (by decide +kernel)
  · refine sm_seg C [(.iload_n 1, 0), (.iconst 2, 2)] (pc' := 64) (L' := [(0, .ref 0), (1, .int a1)]) (S' := [.int 2, .int a1]) (by decide +kernel) rfl ?_
    refine sm_icmpne 86 (off := 22) C (by decide +kernel) (by decide) (fun _ => ?_) (fun _ => ?_)
    · refine sm_seg C [(.aload_n 0, 0), (.sipush 259, 259), (.sipush 381, 381), (.iconst 4, 4), (.aload_n 0, 0)] (pc' := 76) (L' := [(0, .ref 0), (1, .int a1)]) (S' := [.ref 0, .int 4, .int 381, .int 259, .ref 0]) (by decide +kernel) rfl ?_
      refine sm_getI 11 15 cls11 C (ltM (by decide +kernel : kdM 0 = 11) (by decide)) (by decide +kernel : kdM 0 = 11) (obM11 (by decide +kernel : kdM 0 = 11)) (by decide) (fiM11_15 (by decide +kernel : kdM 0 = 11)) fl11_259 (by decide +kernel) ?_
      refine sm_seg C [(.imul, 0)] (pc' := 80) (L' := [(0, .ref 0), (1, .int a1)]) (S' := [.int (4 * (τ 0 15)), .int 381, .int 259, .ref 0]) (by decide +kernel) rfl ?_
      refine sm_vcal [.int 259, .int 381, .int (4 * (τ 0 15))] [] rfl C mw_X11_puts ml_11_277 rfl (ci := 11) rfl (ltM (by decide +kernel : kdM 0 = 11) (by decide)) (by decide +kernel : kdM 0 = 11) (by decide) ⟨by decide, by decide⟩ (Nat.le_of_ble_eq_true rfl) (by decide +kernel) (c_X11_puts F 259 381 (4 * (τ 0 15)) τ) (fun r7 τ8 => ?_)
      refine sm_seg C [(.goto 15, 0)] (pc' := 98) (L' := [(0, .ref 0), (1, .int a1)]) (S' := [.int r7]) (by decide +kernel) rfl ?_
      exact sm_iret C hr rfl (by decide +kernel)
    · refine sm_seg C [(.aload_n 0, 0), (.sipush 260, 260), (.sipush 445, 445), (.bipush 70, 70)] (pc' := 95) (L' := [(0, .ref 0), (1, .int a1)]) (S' := [.int 70, .int 445, .int 260, .ref 0]) (by decide +kernel) rfl ?_
      refine sm_vcal [.int 260, .int 445, .int 70] [] rfl C mw_X11_puts ml_11_277 rfl (ci := 11) rfl (ltM (by decide +kernel : kdM 0 = 11) (by decide)) (by decide +kernel : kdM 0 = 11) (by decide) ⟨by decide, by decide⟩ (Nat.le_of_ble_eq_true rfl) (by decide +kernel) (c_X11_puts F 260 445 70 τ) (fun r9 τ10 => ?_)
      exact sm_iret C hr rfl (by decide +kernel)
def X11_putsText_L20 (F : Nat) : Nat → Int32 → Int32 → Tau → Option (Int32 × Tau)
  | 0, _, _, _ => none
  | n + 1, a1, a2, τ =>
    if 10 ≤ a2 then (X11_putsText_j42 F a1 τ) else (ast τ 1 2244 (15 + a2) 0 fun τ11 => X11_putsText_L20 F n a1 (a2 + 1) τ11)
theorem s_X11_putsText_L20 (F : Nat) {K : Ctx} (C : Cx K sysM RX11 cX11_putsText 3 2) (hr : Rt K (some .int)) : ∀ (n : Nat) (a1 : Int32) (a2 : Int32) (τ : Tau), Sm K sysM 3 (Qi K sysM) (X11_putsText_L20 F n a1 a2 τ) 20 [(0, .ref 0), (1, .int a1), (2, .int a2)] [] τ := by
  intro n
  induction n with
  | zero => intro a1 a2 τ; exact sm_none
  | succ n ih =>
    intro a1 a2 τ
    rw [X11_putsText_L20]
    refine sm_seg C [(.iload_n 2, 0), (.bipush 10, 10)] (pc' := 23) (L' := [(0, .ref 0), (1, .int a1), (2, .int a2)]) (S' := [.int 10, .int a2]) (by decide +kernel) rfl ?_
    refine sm_icmpge 42 (off := 19) C (by decide +kernel) (by decide) (fun _ => ?_) (fun _ => ?_)
    · exact sm_sub [0, 1] rfl (s_X11_putsText_j42 F C hr a1 τ)
    · refine sm_seg C [(.aload_n 0, 0)] (pc' := 27) (L' := [(0, .ref 0), (1, .int a1), (2, .int a2)]) (S' := [.ref 0]) (by decide +kernel) rfl ?_
      refine sm_getR 11 0 1 cls11 C (ltM (by decide +kernel : kdM 0 = 11) (by decide)) (by decide +kernel : kdM 0 = 11) (obM11 (by decide +kernel : kdM 0 = 11)) (by decide) (frM11_0 (by decide +kernel : kdM 0 = 11)) fl11_7 (by decide +kernel) ?_
      refine sm_seg C [(.bipush 15, 15), (.iload_n 2, 0), (.iadd, 0), (.iconst 0, 0)] (pc' := 35) (L' := [(0, .ref 0), (1, .int a1), (2, .int a2)]) (S' := [.int 0, .int (15 + a2), .ref 1]) (by decide +kernel) rfl ?_
      refine sm_ast 2244 C (ltM (krM11_0 (by decide +kernel : kdM 0 = 11)) (by decide)) (krM11_0 (by decide +kernel : kdM 0 = 11)) (nrM11_0 (by decide +kernel : kdM 0 = 11)) (by decide +kernel) (fun τ11 => ?_)
      refine sm_seg C [(.iinc 2 1, 1), (.goto (-19), 0)] (pc' := 20) (L' := [(2, .int (a2 + 1)), (0, .ref 0), (1, .int a1)]) (S' := []) (by decide +kernel) rfl ?_
      exact sm_sub [1, 2, 0] rfl (ih a1 (a2 + 1) τ11)
def X11_putsText (F : Nat) (a1 : Int32) (τ : Tau) : Option (Int32 × Tau) :=
  if a1 = 0 then (cal (X11_putsLaw F τ) fun r1 τ2 => some (r1, τ2)) else (cal (X11_forgets F τ) fun r3 τ4 => if a1 = 3 then (X11_putsText_L20 F F a1 0 τ4) else (X11_putsText_j42 F a1 τ4))
set_option maxRecDepth 20000 in
set_option maxHeartbeats 4000000 in
theorem c_X11_putsText (F : Nat) (a1 : Int32) (τ : Tau) (r : Int32) (τ' : Tau) (h : X11_putsText F a1 τ = some (r, τ')) : MCi sysM yX11_putsText cX11_putsText 3 (some .int) 2 [.ref 0, .int a1] τ r τ' :=
  mci_of (by decide +kernel) (Nat.le_of_ble_eq_true rfl) (fun K C hr => by
    show Sm K sysM 3 (Qi K sysM) (X11_putsText F a1 τ) 0 [(0, .ref 0), (1, .int a1)] [] τ
    unfold X11_putsText
    refine sm_seg C [(.iload_n 1, 0)] (pc' := 1) (L' := [(0, .ref 0), (1, .int a1)]) (S' := [.int a1]) (by decide +kernel) rfl ?_
    refine sm_ifne 9 (off := 8) C (by decide +kernel) (by decide) (fun _ => ?_) (fun _ => ?_)
    · refine sm_seg C [(.aload_n 0, 0)] (pc' := 5) (L' := [(0, .ref 0), (1, .int a1)]) (S' := [.ref 0]) (by decide +kernel) rfl ?_
      refine sm_vcal [] [] rfl C mw_X11_putsLaw ml_11_274 rfl (ci := 11) rfl (ltM (by decide +kernel : kdM 0 = 11) (by decide)) (by decide +kernel : kdM 0 = 11) (by decide) ⟨by decide, by decide⟩ (Nat.le_of_ble_eq_true rfl) (by decide +kernel) (c_X11_putsLaw F τ) (fun r1 τ2 => ?_)
      exact sm_iret C hr rfl (by decide +kernel)
    · refine sm_seg C [(.aload_n 0, 0)] (pc' := 10) (L' := [(0, .ref 0), (1, .int a1)]) (S' := [.ref 0]) (by decide +kernel) rfl ?_
      refine sm_vcalv [] [] rfl C mw_X11_forgets ml_11_85 rfl (ci := 11) rfl (ltM (by decide +kernel : kdM 0 = 11) (by decide)) (by decide +kernel : kdM 0 = 11) (by decide) ⟨by decide, by decide⟩ (Nat.le_of_ble_eq_true rfl) (by decide +kernel) (c_X11_forgets F τ) (fun r3 τ4 => ?_)
      refine sm_seg C [(.iload_n 1, 0), (.iconst 3, 3)] (pc' := 15) (L' := [(0, .ref 0), (1, .int a1)]) (S' := [.int 3, .int a1]) (by decide +kernel) rfl ?_
      refine sm_icmpne 42 (off := 27) C (by decide +kernel) (by decide) (fun _ => ?_) (fun _ => ?_)
      · refine sm_seg C [(.iconst 0, 0), (.istore_n 2, 0)] (pc' := 20) (L' := [(2, .int 0), (0, .ref 0), (1, .int a1)]) (S' := []) (by decide +kernel) rfl ?_
        exact sm_sub [1, 2, 0] rfl (s_X11_putsText_L20 F C hr F a1 0 τ4)
      · exact sm_sub [0, 1] rfl (s_X11_putsText_j42 F C hr a1 τ4)) h
/-! BasketEnvoysModel.readsLaw -/
def X11_readsLaw_j42 (F : Nat) (self12 : Int32 → Tau → Option (Int32 × Tau)) (a1 : Int32) (z0 : Int32) (z1 : Int32) (τ : Tau) : Option (Int32 × Tau) :=
  pst τ 0 13 (z1 + z0) fun τ5 => self12 a1 τ5
theorem s_X11_readsLaw_j42 (F : Nat) {K : Ctx} (C : Cx K sysM RX11 cX11_readsLaw 2 52) (hr : Rt K (some .boolean)) (self12 : Int32 → Tau → Option (Int32 × Tau)) (ih12 : ∀ (a1 : Int32) (τ : Tau), Sm K sysM 2 (Qi K sysM) (self12 a1 τ) 12 [(0, .ref 0), (1, .int a1)] [] τ) (a1 : Int32) (z0 : Int32) (z1 : Int32) (τ : Tau) : Sm K sysM 2 (Qi K sysM) (X11_readsLaw_j42 F self12 a1 z0 z1 τ) 42 [(0, .ref 0), (1, .int a1)] [.int z0, .int z1, .ref 0] τ := by
  unfold X11_readsLaw_j42
  refine sm_seg C [(.iadd, 0)] (pc' := 43) (L' := [(0, .ref 0), (1, .int a1)]) (S' := [.int (z1 + z0), .ref 0]) (by decide +kernel) rfl ?_
  refine sm_pst 11 13 cls11 C (ltM (by decide +kernel : kdM 0 = 11) (by decide)) (by decide +kernel : kdM 0 = 11) (obM11 (by decide +kernel : kdM 0 = 11)) (by decide) (fiM11_13 (by decide +kernel : kdM 0 = 11)) rfl rfl rfl fl11_246 (by decide +kernel) (fun τ5 => ?_)
  refine sm_seg C [(.goto (-34), 0)] (pc' := 12) (L' := [(0, .ref 0), (1, .int a1)]) (S' := []) (by decide +kernel) rfl ?_
  exact sm_sub [0, 1] rfl (ih12 a1 τ5)
def X11_readsLaw_L12 (F : Nat) : Nat → Int32 → Tau → Option (Int32 × Tau)
  | 0, _, _ => none
  | n + 1, a1, τ =>
    if a1 = 0 then (some (vp_nar .boolean a1, τ)) else (if (τ 0 18) = 0 then (some (vp_nar .boolean a1, τ)) else (cal (X11_aLine F τ) fun r3 τ4 => if r3 = 0 then (X11_readsLaw_j42 F (X11_readsLaw_L12 F n) r3 0 (τ4 0 13) τ4) else (X11_readsLaw_j42 F (X11_readsLaw_L12 F n) r3 1 (τ4 0 13) τ4)))
theorem s_X11_readsLaw_L12 (F : Nat) {K : Ctx} (C : Cx K sysM RX11 cX11_readsLaw 2 52) (hr : Rt K (some .boolean)) : ∀ (n : Nat) (a1 : Int32) (τ : Tau), Sm K sysM 2 (Qi K sysM) (X11_readsLaw_L12 F n a1 τ) 12 [(0, .ref 0), (1, .int a1)] [] τ := by
  intro n
  induction n with
  | zero => intro a1 τ; exact sm_none
  | succ n ih =>
    intro a1 τ
    rw [X11_readsLaw_L12]
    refine sm_seg C [(.iload_n 1, 0)] (pc' := 13) (L' := [(0, .ref 0), (1, .int a1)]) (S' := [.int a1]) (by decide +kernel) rfl ?_
    refine sm_ifeq 49 (off := 36) C (by decide +kernel) (by decide) (fun _ => ?_) (fun _ => ?_)
    · refine sm_seg C [(.iload_n 1, 0)] (pc' := 50) (L' := [(0, .ref 0), (1, .int a1)]) (S' := [.int a1]) (by decide +kernel) rfl ?_
      exact sm_iret C hr nar_boolean (by decide +kernel)
    · refine sm_seg C [(.aload_n 0, 0)] (pc' := 17) (L' := [(0, .ref 0), (1, .int a1)]) (S' := [.ref 0]) (by decide +kernel) rfl ?_
      refine sm_getI 11 18 cls11 C (ltM (by decide +kernel : kdM 0 = 11) (by decide)) (by decide +kernel : kdM 0 = 11) (obM11 (by decide +kernel : kdM 0 = 11)) (by decide) (fiM11_18 (by decide +kernel : kdM 0 = 11)) fl11_184 (by decide +kernel) ?_
      refine sm_ifeq 49 (off := 29) C (by decide +kernel) (by decide) (fun _ => ?_) (fun _ => ?_)
      · refine sm_seg C [(.iload_n 1, 0)] (pc' := 50) (L' := [(0, .ref 0), (1, .int a1)]) (S' := [.int a1]) (by decide +kernel) rfl ?_
        exact sm_iret C hr nar_boolean (by decide +kernel)
      · refine sm_seg C [(.aload_n 0, 0)] (pc' := 24) (L' := [(0, .ref 0), (1, .int a1)]) (S' := [.ref 0]) (by decide +kernel) rfl ?_
        refine sm_vcal [] [] rfl C mw_X11_aLine ml_11_249 rfl (ci := 11) rfl (ltM (by decide +kernel : kdM 0 = 11) (by decide)) (by decide +kernel : kdM 0 = 11) (by decide) ⟨by decide, by decide⟩ (Nat.le_of_ble_eq_true rfl) (by decide +kernel) (c_X11_aLine F τ) (fun r3 τ4 => ?_)
        refine sm_seg C [(.istore_n 1, 0), (.aload_n 0, 0), (.dup, 0)] (pc' := 30) (L' := [(1, .int r3), (0, .ref 0)]) (S' := [.ref 0, .ref 0]) (by decide +kernel) rfl ?_
        refine sm_getI 11 13 cls11 C (ltM (by decide +kernel : kdM 0 = 11) (by decide)) (by decide +kernel : kdM 0 = 11) (obM11 (by decide +kernel : kdM 0 = 11)) (by decide) (fiM11_13 (by decide +kernel : kdM 0 = 11)) fl11_246 (by decide +kernel) ?_
        refine sm_seg C [(.iload_n 1, 0)] (pc' := 34) (L' := [(1, .int r3), (0, .ref 0)]) (S' := [.int r3, .int (τ4 0 13), .ref 0]) (by decide +kernel) rfl ?_
        refine sm_ifeq 41 (off := 7) C (by decide +kernel) (by decide) (fun _ => ?_) (fun _ => ?_)
        · refine sm_seg C [(.iconst 0, 0)] (pc' := 42) (L' := [(1, .int r3), (0, .ref 0)]) (S' := [.int 0, .int (τ4 0 13), .ref 0]) (by decide +kernel) rfl ?_
          exact sm_sub [1, 0] rfl (s_X11_readsLaw_j42 F C hr (X11_readsLaw_L12 F n) ih r3 0 (τ4 0 13) τ4)
        · refine sm_seg C [(.iconst 1, 1), (.goto 4, 0)] (pc' := 42) (L' := [(1, .int r3), (0, .ref 0)]) (S' := [.int 1, .int (τ4 0 13), .ref 0]) (by decide +kernel) rfl ?_
          exact sm_sub [1, 0] rfl (s_X11_readsLaw_j42 F C hr (X11_readsLaw_L12 F n) ih r3 1 (τ4 0 13) τ4)
def X11_readsLaw (F : Nat) (τ : Tau) : Option (Int32 × Tau) :=
  pst τ 0 13 0 fun τ1 => pst τ1 0 14 0 fun τ2 => X11_readsLaw_L12 F F 1 τ2
set_option maxRecDepth 20000 in
set_option maxHeartbeats 4000000 in
theorem c_X11_readsLaw (F : Nat) (τ : Tau) (r : Int32) (τ' : Tau) (h : X11_readsLaw F τ = some (r, τ')) : MCi sysM yX11_readsLaw cX11_readsLaw 2 (some .boolean) 52 [.ref 0] τ r τ' :=
  mci_of (by decide +kernel) (Nat.le_of_ble_eq_true rfl) (fun K C hr => by
    show Sm K sysM 2 (Qi K sysM) (X11_readsLaw F τ) 0 [(0, .ref 0)] [] τ
    unfold X11_readsLaw
    refine sm_seg C [(.aload_n 0, 0), (.iconst 0, 0)] (pc' := 2) (L' := [(0, .ref 0)]) (S' := [.int 0, .ref 0]) (by decide +kernel) rfl ?_
    refine sm_pst 11 13 cls11 C (ltM (by decide +kernel : kdM 0 = 11) (by decide)) (by decide +kernel : kdM 0 = 11) (obM11 (by decide +kernel : kdM 0 = 11)) (by decide) (fiM11_13 (by decide +kernel : kdM 0 = 11)) rfl rfl rfl fl11_246 (by decide +kernel) (fun τ1 => ?_)
    refine sm_seg C [(.aload_n 0, 0), (.iconst 0, 0)] (pc' := 7) (L' := [(0, .ref 0)]) (S' := [.int 0, .ref 0]) (by decide +kernel) rfl ?_
    refine sm_pst 11 14 cls11 C (ltM (by decide +kernel : kdM 0 = 11) (by decide)) (by decide +kernel : kdM 0 = 11) (obM11 (by decide +kernel : kdM 0 = 11)) (by decide) (fiM11_14 (by decide +kernel : kdM 0 = 11)) rfl rfl rfl fl11_211 (by decide +kernel) (fun τ2 => ?_)
    refine sm_seg C [(.iconst 1, 1), (.istore_n 1, 0)] (pc' := 12) (L' := [(1, .int 1), (0, .ref 0)]) (S' := []) (by decide +kernel) rfl ?_
    exact sm_sub [1, 0] rfl (s_X11_readsLaw_L12 F C hr F 1 τ2)) h
/-! BasketEnvoysModel.readsRows -/
def X11_readsRows_j116 (F : Nat) (self43 : Int32 → Tau → Option (Int32 × Tau)) (a1 : Int32) (z0 : Int32) (z1 : Int32) (τ : Tau) : Option (Int32 × Tau) :=
  pst τ 0 15 (z1 + z0) fun τ6 => self43 a1 τ6
theorem s_X11_readsRows_j116 (F : Nat) {K : Ctx} (C : Cx K sysM RX11 cX11_readsRows 2 14) (hr : Rt K (some .boolean)) (self43 : Int32 → Tau → Option (Int32 × Tau)) (ih43 : ∀ (a1 : Int32) (τ : Tau), Sm K sysM 2 (Qi K sysM) (self43 a1 τ) 43 [(0, .ref 0), (1, .int a1)] [] τ) (a1 : Int32) (z0 : Int32) (z1 : Int32) (τ : Tau) : Sm K sysM 2 (Qi K sysM) (X11_readsRows_j116 F self43 a1 z0 z1 τ) 116 [(0, .ref 0), (1, .int a1)] [.int z0, .int z1, .ref 0] τ := by
  unfold X11_readsRows_j116
  refine sm_seg C [(.iadd, 0)] (pc' := 117) (L' := [(0, .ref 0), (1, .int a1)]) (S' := [.int (z1 + z0), .ref 0]) (by decide +kernel) rfl ?_
  refine sm_pst 11 15 cls11 C (ltM (by decide +kernel : kdM 0 = 11) (by decide)) (by decide +kernel : kdM 0 = 11) (obM11 (by decide +kernel : kdM 0 = 11)) (by decide) (fiM11_15 (by decide +kernel : kdM 0 = 11)) rfl rfl rfl fl11_259 (by decide +kernel) (fun τ6 => ?_)
  refine sm_seg C [(.goto (-77), 0)] (pc' := 43) (L' := [(0, .ref 0), (1, .int a1)]) (S' := []) (by decide +kernel) rfl ?_
  exact sm_sub [0, 1] rfl (ih43 a1 τ6)
def X11_readsRows_j73 (F : Nat) (self43 : Int32 → Tau → Option (Int32 × Tau)) (z0 : Int32) (z1 : Int32) (τ : Tau) : Option (Int32 × Tau) :=
  if z1 = z0 then (if (τ 0 15) = 16 then (cal (X11_bad F 3 τ) fun r2 τ3 => some (vp_nar .boolean r2, τ3)) else (cal (X11_aRow F τ) fun r4 τ5 => if r4 = 0 then (X11_readsRows_j116 F self43 r4 0 (τ5 0 15) τ5) else (X11_readsRows_j116 F self43 r4 1 (τ5 0 15) τ5))) else (cal (X11_bad F 1 τ) fun r7 τ8 => some (vp_nar .boolean r7, τ8))
theorem s_X11_readsRows_j73 (F : Nat) {K : Ctx} (C : Cx K sysM RX11 cX11_readsRows 2 14) (hr : Rt K (some .boolean)) (self43 : Int32 → Tau → Option (Int32 × Tau)) (ih43 : ∀ (a1 : Int32) (τ : Tau), Sm K sysM 2 (Qi K sysM) (self43 a1 τ) 43 [(0, .ref 0), (1, .int a1)] [] τ) (z0 : Int32) (z1 : Int32) (τ : Tau) : Sm K sysM 2 (Qi K sysM) (X11_readsRows_j73 F self43 z0 z1 τ) 73 [(0, .ref 0)] [.int z0, .int z1] τ := by
  unfold X11_readsRows_j73
  refine sm_icmpeq 82 (off := 9) C (by decide +kernel) (by decide) (fun _ => ?_) (fun _ => ?_)
  · refine sm_seg C [(.aload_n 0, 0)] (pc' := 83) (L' := [(0, .ref 0)]) (S' := [.ref 0]) (by decide +kernel) rfl ?_
    refine sm_getI 11 15 cls11 C (ltM (by decide +kernel : kdM 0 = 11) (by decide)) (by decide +kernel : kdM 0 = 11) (obM11 (by decide +kernel : kdM 0 = 11)) (by decide) (fiM11_15 (by decide +kernel : kdM 0 = 11)) fl11_259 (by decide +kernel) ?_
    refine sm_seg C [(.bipush 16, 16)] (pc' := 88) (L' := [(0, .ref 0)]) (S' := [.int 16, .int (τ 0 15)]) (by decide +kernel) rfl ?_
    refine sm_icmpne 97 (off := 9) C (by decide +kernel) (by decide) (fun _ => ?_) (fun _ => ?_)
    · refine sm_seg C [(.aload_n 0, 0), (.iconst 3, 3)] (pc' := 93) (L' := [(0, .ref 0)]) (S' := [.int 3, .ref 0]) (by decide +kernel) rfl ?_
      refine sm_vcal [.int 3] [] rfl C mw_X11_bad ml_11_205 rfl (ci := 11) rfl (ltM (by decide +kernel : kdM 0 = 11) (by decide)) (by decide +kernel : kdM 0 = 11) (by decide) ⟨by decide, by decide⟩ (Nat.le_of_ble_eq_true rfl) (by decide +kernel) (c_X11_bad F 3 τ) (fun r2 τ3 => ?_)
      exact sm_iret C hr nar_boolean (by decide +kernel)
    · refine sm_seg C [(.aload_n 0, 0)] (pc' := 98) (L' := [(0, .ref 0)]) (S' := [.ref 0]) (by decide +kernel) rfl ?_
      refine sm_vcal [] [] rfl C mw_X11_aRow ml_11_271 rfl (ci := 11) rfl (ltM (by decide +kernel : kdM 0 = 11) (by decide)) (by decide +kernel : kdM 0 = 11) (by decide) ⟨by decide, by decide⟩ (Nat.le_of_ble_eq_true rfl) (by decide +kernel) (c_X11_aRow F τ) (fun r4 τ5 => ?_)
      refine sm_seg C [(.istore_n 1, 0), (.aload_n 0, 0), (.dup, 0)] (pc' := 104) (L' := [(1, .int r4), (0, .ref 0)]) (S' := [.ref 0, .ref 0]) (by decide +kernel) rfl ?_
      refine sm_getI 11 15 cls11 C (ltM (by decide +kernel : kdM 0 = 11) (by decide)) (by decide +kernel : kdM 0 = 11) (obM11 (by decide +kernel : kdM 0 = 11)) (by decide) (fiM11_15 (by decide +kernel : kdM 0 = 11)) fl11_259 (by decide +kernel) ?_
      refine sm_seg C [(.iload_n 1, 0)] (pc' := 108) (L' := [(1, .int r4), (0, .ref 0)]) (S' := [.int r4, .int (τ5 0 15), .ref 0]) (by decide +kernel) rfl ?_
      refine sm_ifeq 115 (off := 7) C (by decide +kernel) (by decide) (fun _ => ?_) (fun _ => ?_)
      · refine sm_seg C [(.iconst 0, 0)] (pc' := 116) (L' := [(1, .int r4), (0, .ref 0)]) (S' := [.int 0, .int (τ5 0 15), .ref 0]) (by decide +kernel) rfl ?_
        exact sm_sub [1, 0] rfl (s_X11_readsRows_j116 F C hr self43 ih43 r4 0 (τ5 0 15) τ5)
      · refine sm_seg C [(.iconst 1, 1), (.goto 4, 0)] (pc' := 116) (L' := [(1, .int r4), (0, .ref 0)]) (S' := [.int 1, .int (τ5 0 15), .ref 0]) (by decide +kernel) rfl ?_
        exact sm_sub [1, 0] rfl (s_X11_readsRows_j116 F C hr self43 ih43 r4 1 (τ5 0 15) τ5)
  · refine sm_seg C [(.aload_n 0, 0), (.iconst 1, 1)] (pc' := 78) (L' := [(0, .ref 0)]) (S' := [.int 1, .ref 0]) (by decide +kernel) rfl ?_
    refine sm_vcal [.int 1] [] rfl C mw_X11_bad ml_11_205 rfl (ci := 11) rfl (ltM (by decide +kernel : kdM 0 = 11) (by decide)) (by decide +kernel : kdM 0 = 11) (by decide) ⟨by decide, by decide⟩ (Nat.le_of_ble_eq_true rfl) (by decide +kernel) (c_X11_bad F 1 τ) (fun r7 τ8 => ?_)
    exact sm_iret C hr nar_boolean (by decide +kernel)
def X11_readsRows_L43 (F : Nat) : Nat → Int32 → Tau → Option (Int32 × Tau)
  | 0, _, _ => none
  | n + 1, a1, τ =>
    if a1 = 0 then (some (vp_nar .boolean a1, τ)) else (if (τ 0 18) = 0 then (some (vp_nar .boolean a1, τ)) else (if (τ 0 12) = 2 then (X11_readsRows_j73 F (X11_readsRows_L43 F n) 7 (τ 0 18) τ) else (X11_readsRows_j73 F (X11_readsRows_L43 F n) 8 (τ 0 18) τ)))
theorem s_X11_readsRows_L43 (F : Nat) {K : Ctx} (C : Cx K sysM RX11 cX11_readsRows 2 14) (hr : Rt K (some .boolean)) : ∀ (n : Nat) (a1 : Int32) (τ : Tau), Sm K sysM 2 (Qi K sysM) (X11_readsRows_L43 F n a1 τ) 43 [(0, .ref 0), (1, .int a1)] [] τ := by
  intro n
  induction n with
  | zero => intro a1 τ; exact sm_none
  | succ n ih =>
    intro a1 τ
    rw [X11_readsRows_L43]
    refine sm_seg C [(.iload_n 1, 0)] (pc' := 44) (L' := [(0, .ref 0), (1, .int a1)]) (S' := [.int a1]) (by decide +kernel) rfl ?_
    refine sm_ifeq 123 (off := 79) C (by decide +kernel) (by decide) (fun _ => ?_) (fun _ => ?_)
    · refine sm_seg C [(.iload_n 1, 0)] (pc' := 124) (L' := [(0, .ref 0), (1, .int a1)]) (S' := [.int a1]) (by decide +kernel) rfl ?_
      exact sm_iret C hr nar_boolean (by decide +kernel)
    · refine sm_seg C [(.aload_n 0, 0)] (pc' := 48) (L' := [(0, .ref 0), (1, .int a1)]) (S' := [.ref 0]) (by decide +kernel) rfl ?_
      refine sm_getI 11 18 cls11 C (ltM (by decide +kernel : kdM 0 = 11) (by decide)) (by decide +kernel : kdM 0 = 11) (obM11 (by decide +kernel : kdM 0 = 11)) (by decide) (fiM11_18 (by decide +kernel : kdM 0 = 11)) fl11_184 (by decide +kernel) ?_
      refine sm_ifeq 123 (off := 72) C (by decide +kernel) (by decide) (fun _ => ?_) (fun _ => ?_)
      · refine sm_seg C [(.iload_n 1, 0)] (pc' := 124) (L' := [(0, .ref 0), (1, .int a1)]) (S' := [.int a1]) (by decide +kernel) rfl ?_
        exact sm_iret C hr nar_boolean (by decide +kernel)
      · refine sm_seg C [(.aload_n 0, 0)] (pc' := 55) (L' := [(0, .ref 0), (1, .int a1)]) (S' := [.ref 0]) (by decide +kernel) rfl ?_
        refine sm_getI 11 18 cls11 C (ltM (by decide +kernel : kdM 0 = 11) (by decide)) (by decide +kernel : kdM 0 = 11) (obM11 (by decide +kernel : kdM 0 = 11)) (by decide) (fiM11_18 (by decide +kernel : kdM 0 = 11)) fl11_184 (by decide +kernel) ?_
        refine sm_seg C [(.aload_n 0, 0)] (pc' := 59) (L' := [(0, .ref 0), (1, .int a1)]) (S' := [.ref 0, .int (τ 0 18)]) (by decide +kernel) rfl ?_
        refine sm_getI 11 12 cls11 C (ltM (by decide +kernel : kdM 0 = 11) (by decide)) (by decide +kernel : kdM 0 = 11) (obM11 (by decide +kernel : kdM 0 = 11)) (by decide) (fiM11_12 (by decide +kernel : kdM 0 = 11)) fl11_167 (by decide +kernel) ?_
        refine sm_seg C [(.iconst 2, 2)] (pc' := 63) (L' := [(0, .ref 0), (1, .int a1)]) (S' := [.int 2, .int (τ 0 12), .int (τ 0 18)]) (by decide +kernel) rfl ?_
        refine sm_icmpne 71 (off := 8) C (by decide +kernel) (by decide) (fun _ => ?_) (fun _ => ?_)
        · refine sm_seg C [(.bipush 7, 7), (.goto 5, 0)] (pc' := 73) (L' := [(0, .ref 0), (1, .int a1)]) (S' := [.int 7, .int (τ 0 18)]) (by decide +kernel) rfl ?_
          exact sm_sub [0] rfl (s_X11_readsRows_j73 F C hr (X11_readsRows_L43 F n) ih 7 (τ 0 18) τ)
        · refine sm_seg C [(.bipush 8, 8)] (pc' := 73) (L' := [(0, .ref 0), (1, .int a1)]) (S' := [.int 8, .int (τ 0 18)]) (by decide +kernel) rfl ?_
          exact sm_sub [0] rfl (s_X11_readsRows_j73 F C hr (X11_readsRows_L43 F n) ih 8 (τ 0 18) τ)
def X11_readsRows_j34 (F : Nat) (self7 : Int32 → Tau → Option (Int32 × Tau)) (a1 : Int32) (z0 : Int32) (z1 : Int32) (τ : Tau) : Option (Int32 × Tau) :=
  ast τ 7 140 z1 z0 fun τ9 => self7 (a1 + 1) τ9
theorem s_X11_readsRows_j34 (F : Nat) {K : Ctx} (C : Cx K sysM RX11 cX11_readsRows 2 14) (hr : Rt K (some .boolean)) (self7 : Int32 → Tau → Option (Int32 × Tau)) (ih7 : ∀ (a1 : Int32) (τ : Tau), Sm K sysM 2 (Qi K sysM) (self7 a1 τ) 7 [(0, .ref 0), (1, .int a1)] [] τ) (a1 : Int32) (z0 : Int32) (z1 : Int32) (τ : Tau) : Sm K sysM 2 (Qi K sysM) (X11_readsRows_j34 F self7 a1 z0 z1 τ) 34 [(0, .ref 0), (1, .int a1)] [.int z0, .int z1, .ref 7] τ := by
  unfold X11_readsRows_j34
  refine sm_ast 140 C (ltM (krM11_8 (by decide +kernel : kdM 0 = 11)) (by decide)) (krM11_8 (by decide +kernel : kdM 0 = 11)) (nrM11_8 (by decide +kernel : kdM 0 = 11)) (by decide +kernel) (fun τ9 => ?_)
  refine sm_seg C [(.iinc 1 1, 1), (.goto (-31), 0)] (pc' := 7) (L' := [(1, .int (a1 + 1)), (0, .ref 0)]) (S' := []) (by decide +kernel) rfl ?_
  exact sm_sub [1, 0] rfl (ih7 (a1 + 1) τ9)
def X11_readsRows_L7 (F : Nat) : Nat → Int32 → Tau → Option (Int32 × Tau)
  | 0, _, _ => none
  | n + 1, a1, τ =>
    if 120 ≤ a1 then (X11_readsRows_L43 F F 1 τ) else (if (τ 0 12) = 1 then (X11_readsRows_j34 F (X11_readsRows_L7 F n) a1 (rmd a1 12) a1 τ) else (X11_readsRows_j34 F (X11_readsRows_L7 F n) a1 0 a1 τ))
theorem s_X11_readsRows_L7 (F : Nat) {K : Ctx} (C : Cx K sysM RX11 cX11_readsRows 2 14) (hr : Rt K (some .boolean)) : ∀ (n : Nat) (a1 : Int32) (τ : Tau), Sm K sysM 2 (Qi K sysM) (X11_readsRows_L7 F n a1 τ) 7 [(0, .ref 0), (1, .int a1)] [] τ := by
  intro n
  induction n with
  | zero => intro a1 τ; exact sm_none
  | succ n ih =>
    intro a1 τ
    rw [X11_readsRows_L7]
    refine sm_seg C [(.iload_n 1, 0), (.bipush 120, 120)] (pc' := 10) (L' := [(0, .ref 0), (1, .int a1)]) (S' := [.int 120, .int a1]) (by decide +kernel) rfl ?_
    refine sm_icmpge 41 (off := 31) C (by decide +kernel) (by decide) (fun _ => ?_) (fun _ => ?_)
    · refine sm_seg C [(.iconst 1, 1), (.istore_n 1, 0)] (pc' := 43) (L' := [(1, .int 1), (0, .ref 0)]) (S' := []) (by decide +kernel) rfl ?_
      exact sm_sub [1, 0] rfl (s_X11_readsRows_L43 F C hr F 1 τ)
    · refine sm_seg C [(.aload_n 0, 0)] (pc' := 14) (L' := [(0, .ref 0), (1, .int a1)]) (S' := [.ref 0]) (by decide +kernel) rfl ?_
      refine sm_getR 11 8 7 cls11 C (ltM (by decide +kernel : kdM 0 = 11) (by decide)) (by decide +kernel : kdM 0 = 11) (obM11 (by decide +kernel : kdM 0 = 11)) (by decide) (frM11_8 (by decide +kernel : kdM 0 = 11)) fl11_28 (by decide +kernel) ?_
      refine sm_seg C [(.iload_n 1, 0), (.aload_n 0, 0)] (pc' := 19) (L' := [(0, .ref 0), (1, .int a1)]) (S' := [.ref 0, .int a1, .ref 7]) (by decide +kernel) rfl ?_
      refine sm_getI 11 12 cls11 C (ltM (by decide +kernel : kdM 0 = 11) (by decide)) (by decide +kernel : kdM 0 = 11) (obM11 (by decide +kernel : kdM 0 = 11)) (by decide) (fiM11_12 (by decide +kernel : kdM 0 = 11)) fl11_167 (by decide +kernel) ?_
      refine sm_seg C [(.iconst 1, 1)] (pc' := 23) (L' := [(0, .ref 0), (1, .int a1)]) (S' := [.int 1, .int (τ 0 12), .int a1, .ref 7]) (by decide +kernel) rfl ?_
      refine sm_icmpne 33 (off := 10) C (by decide +kernel) (by decide) (fun _ => ?_) (fun _ => ?_)
      · refine sm_seg C [(.iload_n 1, 0), (.bipush 12, 12)] (pc' := 29) (L' := [(0, .ref 0), (1, .int a1)]) (S' := [.int 12, .int a1, .int a1, .ref 7]) (by decide +kernel) rfl ?_
        refine sm_irem C (by decide +kernel) (by decide) ?_
        refine sm_seg C [(.goto 4, 0)] (pc' := 34) (L' := [(0, .ref 0), (1, .int a1)]) (S' := [.int (rmd a1 12), .int a1, .ref 7]) (by decide +kernel) rfl ?_
        exact sm_sub [0, 1] rfl (s_X11_readsRows_j34 F C hr (X11_readsRows_L7 F n) ih a1 (rmd a1 12) a1 τ)
      · refine sm_seg C [(.iconst 0, 0)] (pc' := 34) (L' := [(0, .ref 0), (1, .int a1)]) (S' := [.int 0, .int a1, .ref 7]) (by decide +kernel) rfl ?_
        exact sm_sub [0, 1] rfl (s_X11_readsRows_j34 F C hr (X11_readsRows_L7 F n) ih a1 0 a1 τ)
def X11_readsRows (F : Nat) (τ : Tau) : Option (Int32 × Tau) :=
  pst τ 0 15 0 fun τ1 => X11_readsRows_L7 F F 0 τ1
set_option maxRecDepth 20000 in
set_option maxHeartbeats 4000000 in
theorem c_X11_readsRows (F : Nat) (τ : Tau) (r : Int32) (τ' : Tau) (h : X11_readsRows F τ = some (r, τ')) : MCi sysM yX11_readsRows cX11_readsRows 2 (some .boolean) 14 [.ref 0] τ r τ' :=
  mci_of (by decide +kernel) (Nat.le_of_ble_eq_true rfl) (fun K C hr => by
    show Sm K sysM 2 (Qi K sysM) (X11_readsRows F τ) 0 [(0, .ref 0)] [] τ
    unfold X11_readsRows
    refine sm_seg C [(.aload_n 0, 0), (.iconst 0, 0)] (pc' := 2) (L' := [(0, .ref 0)]) (S' := [.int 0, .ref 0]) (by decide +kernel) rfl ?_
    refine sm_pst 11 15 cls11 C (ltM (by decide +kernel : kdM 0 = 11) (by decide)) (by decide +kernel : kdM 0 = 11) (obM11 (by decide +kernel : kdM 0 = 11)) (by decide) (fiM11_15 (by decide +kernel : kdM 0 = 11)) rfl rfl rfl fl11_259 (by decide +kernel) (fun τ1 => ?_)
    refine sm_seg C [(.iconst 0, 0), (.istore_n 1, 0)] (pc' := 7) (L' := [(1, .int 0), (0, .ref 0)]) (S' := []) (by decide +kernel) rfl ?_
    exact sm_sub [1, 0] rfl (s_X11_readsRows_L7 F C hr F 0 τ1)) h
/-! BasketEnvoysModel.rests -/
def X11_rests_j53 (F : Nat) (self5 : Int32 → Int32 → Int32 → Int32 → Tau → Option (Int32 × Tau)) (a1 : Int32) (a2 : Int32) (a4 : Int32) (z0 : Int32) (z1 : Int32) (τ : Tau) : Option (Int32 × Tau) :=
  self5 a1 a2 (z1 &&& z0) (a4 + 1) τ
theorem s_X11_rests_j53 (F : Nat) {K : Ctx} (C : Cx K sysM RX11 cX11_rests 5 2) (hr : Rt K (some .boolean)) (self5 : Int32 → Int32 → Int32 → Int32 → Tau → Option (Int32 × Tau)) (ih5 : ∀ (a1 : Int32) (a2 : Int32) (a3 : Int32) (a4 : Int32) (τ : Tau), Sm K sysM 5 (Qi K sysM) (self5 a1 a2 a3 a4 τ) 5 [(0, .ref 0), (1, .int a1), (2, .int a2), (3, .int a3), (4, .int a4)] [] τ) (a1 : Int32) (a2 : Int32) (a4 : Int32) (z0 : Int32) (z1 : Int32) (τ : Tau) : Sm K sysM 5 (Qi K sysM) (X11_rests_j53 F self5 a1 a2 a4 z0 z1 τ) 53 [(0, .ref 0), (1, .int a1), (2, .int a2), (4, .int a4)] [.int z0, .int z1] τ := by
  unfold X11_rests_j53
  refine sm_seg C [(.iand, 0), (.istore_n 3, 0), (.iinc 4 1, 1), (.goto (-53), 0)] (pc' := 5) (L' := [(4, .int (a4 + 1)), (3, .int (z1 &&& z0)), (0, .ref 0), (1, .int a1), (2, .int a2)]) (S' := []) (by decide +kernel) rfl ?_
  exact sm_sub [2, 3, 4, 1, 0] rfl (ih5 a1 a2 (z1 &&& z0) (a4 + 1) τ)
def X11_rests_j52 (F : Nat) (self5 : Int32 → Int32 → Int32 → Int32 → Tau → Option (Int32 × Tau)) (a1 : Int32) (a2 : Int32) (a4 : Int32) (z0 : Int32) (τ : Tau) : Option (Int32 × Tau) :=
  X11_rests_j53 F self5 a1 a2 a4 0 z0 τ
theorem s_X11_rests_j52 (F : Nat) {K : Ctx} (C : Cx K sysM RX11 cX11_rests 5 2) (hr : Rt K (some .boolean)) (self5 : Int32 → Int32 → Int32 → Int32 → Tau → Option (Int32 × Tau)) (ih5 : ∀ (a1 : Int32) (a2 : Int32) (a3 : Int32) (a4 : Int32) (τ : Tau), Sm K sysM 5 (Qi K sysM) (self5 a1 a2 a3 a4 τ) 5 [(0, .ref 0), (1, .int a1), (2, .int a2), (3, .int a3), (4, .int a4)] [] τ) (a1 : Int32) (a2 : Int32) (a4 : Int32) (z0 : Int32) (τ : Tau) : Sm K sysM 5 (Qi K sysM) (X11_rests_j52 F self5 a1 a2 a4 z0 τ) 52 [(0, .ref 0), (1, .int a1), (2, .int a2), (4, .int a4)] [.int z0] τ := by
  unfold X11_rests_j52
  refine sm_seg C [(.iconst 0, 0)] (pc' := 53) (L' := [(0, .ref 0), (1, .int a1), (2, .int a2), (4, .int a4)]) (S' := [.int 0, .int z0]) (by decide +kernel) rfl ?_
  exact sm_sub [0, 1, 2, 3] rfl (s_X11_rests_j53 F C hr self5 ih5 a1 a2 a4 0 z0 τ)
def X11_rests_L5 (F : Nat) : Nat → Int32 → Int32 → Int32 → Int32 → Tau → Option (Int32 × Tau)
  | 0, _, _, _, _, _ => none
  | n + 1, a1, a2, a3, a4, τ =>
    if 3 ≤ a4 then (some (vp_nar .boolean a3, τ)) else (cal (X11_gets F 0 a4 a2 τ) fun r1 τ2 => cal (X11_gets F 0 a1 a2 τ2) fun r3 τ4 => if r3 < r1 then (X11_rests_j52 F (X11_rests_L5 F n) a1 a2 a4 a3 τ4) else (cal (X11_gets F 1 a1 a4 τ4) fun r5 τ6 => cal (X11_gets F 1 a1 a2 τ6) fun r7 τ8 => if r7 < r5 then (X11_rests_j52 F (X11_rests_L5 F n) a1 a2 a4 a3 τ8) else (X11_rests_j53 F (X11_rests_L5 F n) a1 a2 a4 1 a3 τ8)))
theorem s_X11_rests_L5 (F : Nat) {K : Ctx} (C : Cx K sysM RX11 cX11_rests 5 2) (hr : Rt K (some .boolean)) : ∀ (n : Nat) (a1 : Int32) (a2 : Int32) (a3 : Int32) (a4 : Int32) (τ : Tau), Sm K sysM 5 (Qi K sysM) (X11_rests_L5 F n a1 a2 a3 a4 τ) 5 [(0, .ref 0), (1, .int a1), (2, .int a2), (3, .int a3), (4, .int a4)] [] τ := by
  intro n
  induction n with
  | zero => intro a1 a2 a3 a4 τ; exact sm_none
  | succ n ih =>
    intro a1 a2 a3 a4 τ
    rw [X11_rests_L5]
    refine sm_seg C [(.iload 4, 0), (.iconst 3, 3)] (pc' := 8) (L' := [(0, .ref 0), (1, .int a1), (2, .int a2), (3, .int a3), (4, .int a4)]) (S' := [.int 3, .int a4]) (by decide +kernel) rfl ?_
    refine sm_icmpge 61 (off := 53) C (by decide +kernel) (by decide) (fun _ => ?_) (fun _ => ?_)
    · refine sm_seg C [(.iload_n 3, 0)] (pc' := 62) (L' := [(0, .ref 0), (1, .int a1), (2, .int a2), (3, .int a3), (4, .int a4)]) (S' := [.int a3]) (by decide +kernel) rfl ?_
      exact sm_iret C hr nar_boolean (by decide +kernel)
    · refine sm_seg C [(.iload_n 3, 0), (.aload_n 0, 0), (.iconst 0, 0), (.iload 4, 0), (.iload_n 2, 0)] (pc' := 17) (L' := [(0, .ref 0), (1, .int a1), (2, .int a2), (3, .int a3), (4, .int a4)]) (S' := [.int a2, .int a4, .int 0, .ref 0, .int a3]) (by decide +kernel) rfl ?_
      refine sm_vcal [.int 0, .int a4, .int a2] [.int a3] rfl C mw_X11_gets ml_11_418 rfl (ci := 11) rfl (ltM (by decide +kernel : kdM 0 = 11) (by decide)) (by decide +kernel : kdM 0 = 11) (by decide) ⟨by decide, by decide⟩ (Nat.le_of_ble_eq_true rfl) (by decide +kernel) (c_X11_gets F 0 a4 a2 τ) (fun r1 τ2 => ?_)
      refine sm_seg C [(.aload_n 0, 0), (.iconst 0, 0), (.iload_n 1, 0), (.iload_n 2, 0)] (pc' := 24) (L' := [(0, .ref 0), (1, .int a1), (2, .int a2), (3, .int a3), (4, .int a4)]) (S' := [.int a2, .int a1, .int 0, .ref 0, .int r1, .int a3]) (by decide +kernel) rfl ?_
      refine sm_vcal [.int 0, .int a1, .int a2] [.int r1, .int a3] rfl C mw_X11_gets ml_11_418 rfl (ci := 11) rfl (ltM (by decide +kernel : kdM 0 = 11) (by decide)) (by decide +kernel : kdM 0 = 11) (by decide) ⟨by decide, by decide⟩ (Nat.le_of_ble_eq_true rfl) (by decide +kernel) (c_X11_gets F 0 a1 a2 τ2) (fun r3 τ4 => ?_)
      refine sm_icmpgt 52 (off := 25) C (by decide +kernel) (by decide) (fun _ => ?_) (fun _ => ?_)
      · exact sm_sub [0, 1, 2, 4] rfl (s_X11_rests_j52 F C hr (X11_rests_L5 F n) ih a1 a2 a4 a3 τ4)
      · refine sm_seg C [(.aload_n 0, 0), (.iconst 1, 1), (.iload_n 1, 0), (.iload 4, 0)] (pc' := 35) (L' := [(0, .ref 0), (1, .int a1), (2, .int a2), (3, .int a3), (4, .int a4)]) (S' := [.int a4, .int a1, .int 1, .ref 0, .int a3]) (by decide +kernel) rfl ?_
        refine sm_vcal [.int 1, .int a1, .int a4] [.int a3] rfl C mw_X11_gets ml_11_418 rfl (ci := 11) rfl (ltM (by decide +kernel : kdM 0 = 11) (by decide)) (by decide +kernel : kdM 0 = 11) (by decide) ⟨by decide, by decide⟩ (Nat.le_of_ble_eq_true rfl) (by decide +kernel) (c_X11_gets F 1 a1 a4 τ4) (fun r5 τ6 => ?_)
        refine sm_seg C [(.aload_n 0, 0), (.iconst 1, 1), (.iload_n 1, 0), (.iload_n 2, 0)] (pc' := 42) (L' := [(0, .ref 0), (1, .int a1), (2, .int a2), (3, .int a3), (4, .int a4)]) (S' := [.int a2, .int a1, .int 1, .ref 0, .int r5, .int a3]) (by decide +kernel) rfl ?_
        refine sm_vcal [.int 1, .int a1, .int a2] [.int r5, .int a3] rfl C mw_X11_gets ml_11_418 rfl (ci := 11) rfl (ltM (by decide +kernel : kdM 0 = 11) (by decide)) (by decide +kernel : kdM 0 = 11) (by decide) ⟨by decide, by decide⟩ (Nat.le_of_ble_eq_true rfl) (by decide +kernel) (c_X11_gets F 1 a1 a2 τ6) (fun r7 τ8 => ?_)
        refine sm_icmpgt 52 (off := 7) C (by decide +kernel) (by decide) (fun _ => ?_) (fun _ => ?_)
        · exact sm_sub [0, 1, 2, 4] rfl (s_X11_rests_j52 F C hr (X11_rests_L5 F n) ih a1 a2 a4 a3 τ8)
        · refine sm_seg C [(.iconst 1, 1), (.goto 4, 0)] (pc' := 53) (L' := [(0, .ref 0), (1, .int a1), (2, .int a2), (3, .int a3), (4, .int a4)]) (S' := [.int 1, .int a3]) (by decide +kernel) rfl ?_
          exact sm_sub [0, 1, 2, 4] rfl (s_X11_rests_j53 F C hr (X11_rests_L5 F n) ih a1 a2 a4 1 a3 τ8)
def X11_rests (F : Nat) (a1 : Int32) (a2 : Int32) (τ : Tau) : Option (Int32 × Tau) :=
  X11_rests_L5 F F a1 a2 1 0 τ
set_option maxRecDepth 20000 in
set_option maxHeartbeats 4000000 in
theorem c_X11_rests (F : Nat) (a1 : Int32) (a2 : Int32) (τ : Tau) (r : Int32) (τ' : Tau) (h : X11_rests F a1 a2 τ = some (r, τ')) : MCi sysM yX11_rests cX11_rests 5 (some .boolean) 2 [.ref 0, .int a1, .int a2] τ r τ' :=
  mci_of (by decide +kernel) (Nat.le_of_ble_eq_true rfl) (fun K C hr => by
    show Sm K sysM 5 (Qi K sysM) (X11_rests F a1 a2 τ) 0 [(0, .ref 0), (1, .int a1), (2, .int a2)] [] τ
    unfold X11_rests
    refine sm_seg C [(.iconst 1, 1), (.istore_n 3, 0), (.iconst 0, 0), (.istore 4, 0)] (pc' := 5) (L' := [(4, .int 0), (3, .int 1), (0, .ref 0), (1, .int a1), (2, .int a2)]) (S' := []) (by decide +kernel) rfl ?_
    exact sm_sub [2, 3, 4, 1, 0] rfl (s_X11_rests_L5 F C hr F a1 a2 1 0 τ)) h
/-! BasketEnvoysModel.sent -/
def X11_sent_j107 (F : Nat) (self49 : Int32 → Int32 → Int32 → Int32 → Tau → Option (Int32 × Tau)) (self58 : Int32 → Int32 → Int32 → Int32 → Int32 → Tau → Option (Int32 × Tau)) (a1 : Int32) (a3 : Int32) (a4 : Int32) (a5 : Int32) (a6 : Int32) (τ : Tau) : Option (Int32 × Tau) :=
  self58 a1 a3 a4 a5 (a6 + 1) τ
theorem s_X11_sent_j107 (F : Nat) {K : Ctx} (C : Cx K sysM RX11 cX11_sent 7 3) (hr : Rt K (some .int)) (self49 : Int32 → Int32 → Int32 → Int32 → Tau → Option (Int32 × Tau)) (self58 : Int32 → Int32 → Int32 → Int32 → Int32 → Tau → Option (Int32 × Tau)) (ih49 : ∀ (a1 : Int32) (a3 : Int32) (a4 : Int32) (a5 : Int32) (τ : Tau), Sm K sysM 7 (Qi K sysM) (self49 a1 a3 a4 a5 τ) 49 [(0, .ref 0), (1, .int a1), (3, .int a3), (4, .int a4), (5, .int a5)] [] τ) (ih58 : ∀ (a1 : Int32) (a3 : Int32) (a4 : Int32) (a5 : Int32) (a6 : Int32) (τ : Tau), Sm K sysM 7 (Qi K sysM) (self58 a1 a3 a4 a5 a6 τ) 58 [(0, .ref 0), (1, .int a1), (3, .int a3), (4, .int a4), (5, .int a5), (6, .int a6)] [] τ) (a1 : Int32) (a3 : Int32) (a4 : Int32) (a5 : Int32) (a6 : Int32) (τ : Tau) : Sm K sysM 7 (Qi K sysM) (X11_sent_j107 F self49 self58 a1 a3 a4 a5 a6 τ) 107 [(0, .ref 0), (1, .int a1), (3, .int a3), (4, .int a4), (5, .int a5), (6, .int a6)] [] τ := by
  unfold X11_sent_j107
  refine sm_seg C [(.iinc 6 1, 1), (.goto (-52), 0)] (pc' := 58) (L' := [(6, .int (a6 + 1)), (0, .ref 0), (1, .int a1), (3, .int a3), (4, .int a4), (5, .int a5)]) (S' := []) (by decide +kernel) rfl ?_
  exact sm_sub [1, 2, 3, 4, 5, 0] rfl (ih58 a1 a3 a4 a5 (a6 + 1) τ)
def X11_sent_L58 (F : Nat) (self49 : Int32 → Int32 → Int32 → Int32 → Tau → Option (Int32 × Tau)) : Nat → Int32 → Int32 → Int32 → Int32 → Int32 → Tau → Option (Int32 × Tau)
  | 0, _, _, _, _, _, _ => none
  | n + 1, a1, a3, a4, a5, a6, τ =>
    if ((shr a3 a6) &&& 1) = 0 then (X11_sent_j107 F self49 (X11_sent_L58 F self49 n) a1 a3 a4 a5 a6 τ) else (ald τ 14 64 (a3 &&& ((shl 1 a6) ^^^ (-1))) fun v8 => ald τ 1 2244 ((572 + (6 * a5)) + a6) fun v9 => ald τ 14 64 a3 fun v10 => if (v8 + v9) = v10 then (self49 a1 (a3 &&& ((shl 1 a6) ^^^ (-1))) ((10 * a4) + a6) (a5 + 1) τ) else (X11_sent_j107 F self49 (X11_sent_L58 F self49 n) a1 a3 a4 a5 a6 τ))
theorem s_X11_sent_L58 (F : Nat) {K : Ctx} (C : Cx K sysM RX11 cX11_sent 7 3) (hr : Rt K (some .int)) (self49 : Int32 → Int32 → Int32 → Int32 → Tau → Option (Int32 × Tau)) (ih49 : ∀ (a1 : Int32) (a3 : Int32) (a4 : Int32) (a5 : Int32) (τ : Tau), Sm K sysM 7 (Qi K sysM) (self49 a1 a3 a4 a5 τ) 49 [(0, .ref 0), (1, .int a1), (3, .int a3), (4, .int a4), (5, .int a5)] [] τ) : ∀ (n : Nat) (a1 : Int32) (a3 : Int32) (a4 : Int32) (a5 : Int32) (a6 : Int32) (τ : Tau), Sm K sysM 7 (Qi K sysM) (X11_sent_L58 F self49 n a1 a3 a4 a5 a6 τ) 58 [(0, .ref 0), (1, .int a1), (3, .int a3), (4, .int a4), (5, .int a5), (6, .int a6)] [] τ := by
  intro n
  induction n with
  | zero => intro a1 a3 a4 a5 a6 τ; exact sm_none
  | succ n ih =>
    intro a1 a3 a4 a5 a6 τ
    rw [X11_sent_L58]
    refine sm_seg C [(.iload_n 3, 0), (.iload 6, 0), (.ishr, 0), (.iconst 1, 1), (.iand, 0)] (pc' := 64) (L' := [(0, .ref 0), (1, .int a1), (3, .int a3), (4, .int a4), (5, .int a5), (6, .int a6)]) (S' := [.int ((shr a3 a6) &&& 1)]) (by decide +kernel) rfl ?_
    refine sm_ifeq 107 (off := 43) C (by decide +kernel) (by decide) (fun _ => ?_) (fun _ => ?_)
    · exact sm_sub [0, 1, 2, 3, 4, 5] rfl (s_X11_sent_j107 F C hr self49 (X11_sent_L58 F self49 n) ih49 ih a1 a3 a4 a5 a6 τ)
    · refine sm_seg C [(.aload_n 0, 0)] (pc' := 68) (L' := [(0, .ref 0), (1, .int a1), (3, .int a3), (4, .int a4), (5, .int a5), (6, .int a6)]) (S' := [.ref 0]) (by decide +kernel) rfl ?_
      refine sm_getR 11 30 14 cls11 C (ltM (by decide +kernel : kdM 0 = 11) (by decide)) (by decide +kernel : kdM 0 = 11) (obM11 (by decide +kernel : kdM 0 = 11)) (by decide) (frM11_30 (by decide +kernel : kdM 0 = 11)) fl11_54 (by decide +kernel) ?_
      refine sm_seg C [(.iload_n 3, 0), (.iconst 1, 1), (.iload 6, 0), (.ishl, 0), (.iconst (-1), (-1)), (.ixor, 0), (.iand, 0)] (pc' := 79) (L' := [(0, .ref 0), (1, .int a1), (3, .int a3), (4, .int a4), (5, .int a5), (6, .int a6)]) (S' := [.int (a3 &&& ((shl 1 a6) ^^^ (-1))), .ref 14]) (by decide +kernel) rfl ?_
      refine sm_ald 64 C (ltM (krM11_30 (by decide +kernel : kdM 0 = 11)) (by decide)) (krM11_30 (by decide +kernel : kdM 0 = 11)) (nrM11_30 (by decide +kernel : kdM 0 = 11)) (by decide +kernel) (fun v8 => ?_)
      refine sm_seg C [(.aload_n 0, 0)] (pc' := 81) (L' := [(0, .ref 0), (1, .int a1), (3, .int a3), (4, .int a4), (5, .int a5), (6, .int a6)]) (S' := [.ref 0, .int v8]) (by decide +kernel) rfl ?_
      refine sm_getR 11 0 1 cls11 C (ltM (by decide +kernel : kdM 0 = 11) (by decide)) (by decide +kernel : kdM 0 = 11) (obM11 (by decide +kernel : kdM 0 = 11)) (by decide) (frM11_0 (by decide +kernel : kdM 0 = 11)) fl11_7 (by decide +kernel) ?_
      refine sm_seg C [(.sipush 572, 572), (.bipush 6, 6), (.iload 5, 0), (.imul, 0), (.iadd, 0), (.iload 6, 0), (.iadd, 0)] (pc' := 96) (L' := [(0, .ref 0), (1, .int a1), (3, .int a3), (4, .int a4), (5, .int a5), (6, .int a6)]) (S' := [.int ((572 + (6 * a5)) + a6), .ref 1, .int v8]) (by decide +kernel) rfl ?_
      refine sm_ald 2244 C (ltM (krM11_0 (by decide +kernel : kdM 0 = 11)) (by decide)) (krM11_0 (by decide +kernel : kdM 0 = 11)) (nrM11_0 (by decide +kernel : kdM 0 = 11)) (by decide +kernel) (fun v9 => ?_)
      refine sm_seg C [(.iadd, 0), (.aload_n 0, 0)] (pc' := 99) (L' := [(0, .ref 0), (1, .int a1), (3, .int a3), (4, .int a4), (5, .int a5), (6, .int a6)]) (S' := [.ref 0, .int (v8 + v9)]) (by decide +kernel) rfl ?_
      refine sm_getR 11 30 14 cls11 C (ltM (by decide +kernel : kdM 0 = 11) (by decide)) (by decide +kernel : kdM 0 = 11) (obM11 (by decide +kernel : kdM 0 = 11)) (by decide) (frM11_30 (by decide +kernel : kdM 0 = 11)) fl11_54 (by decide +kernel) ?_
      refine sm_seg C [(.iload_n 3, 0)] (pc' := 103) (L' := [(0, .ref 0), (1, .int a1), (3, .int a3), (4, .int a4), (5, .int a5), (6, .int a6)]) (S' := [.int a3, .ref 14, .int (v8 + v9)]) (by decide +kernel) rfl ?_
      refine sm_ald 64 C (ltM (krM11_30 (by decide +kernel : kdM 0 = 11)) (by decide)) (krM11_30 (by decide +kernel : kdM 0 = 11)) (nrM11_30 (by decide +kernel : kdM 0 = 11)) (by decide +kernel) (fun v10 => ?_)
      refine sm_icmpeq 113 (off := 9) C (by decide +kernel) (by decide) (fun _ => ?_) (fun _ => ?_)
      · refine sm_seg C [(.iload_n 3, 0), (.iconst 1, 1), (.iload 6, 0), (.ishl, 0), (.iconst (-1), (-1)), (.ixor, 0), (.iand, 0), (.istore_n 3, 0), (.bipush 10, 10), (.iload 4, 0), (.imul, 0), (.iload 6, 0), (.iadd, 0), (.istore 4, 0), (.iinc 5 1, 1), (.goto (-86), 0)] (pc' := 49) (L' := [(5, .int (a5 + 1)), (4, .int ((10 * a4) + a6)), (3, .int (a3 &&& ((shl 1 a6) ^^^ (-1)))), (0, .ref 0), (1, .int a1), (6, .int a6)]) (S' := []) (by decide +kernel) rfl ?_
        exact sm_sub [3, 4, 2, 1, 0] rfl (ih49 a1 (a3 &&& ((shl 1 a6) ^^^ (-1))) ((10 * a4) + a6) (a5 + 1) τ)
      · exact sm_sub [0, 1, 2, 3, 4, 5] rfl (s_X11_sent_j107 F C hr self49 (X11_sent_L58 F self49 n) ih49 ih a1 a3 a4 a5 a6 τ)
def X11_sent_L49 (F : Nat) : Nat → Int32 → Int32 → Int32 → Int32 → Tau → Option (Int32 × Tau)
  | 0, _, _, _, _, _ => none
  | n + 1, a1, a3, a4, a5, τ =>
    if a1 ≤ a5 then (some (a4, τ)) else (X11_sent_L58 F (X11_sent_L49 F n) F a1 a3 a4 a5 0 τ)
theorem s_X11_sent_L49 (F : Nat) {K : Ctx} (C : Cx K sysM RX11 cX11_sent 7 3) (hr : Rt K (some .int)) : ∀ (n : Nat) (a1 : Int32) (a3 : Int32) (a4 : Int32) (a5 : Int32) (τ : Tau), Sm K sysM 7 (Qi K sysM) (X11_sent_L49 F n a1 a3 a4 a5 τ) 49 [(0, .ref 0), (1, .int a1), (3, .int a3), (4, .int a4), (5, .int a5)] [] τ := by
  intro n
  induction n with
  | zero => intro a1 a3 a4 a5 τ; exact sm_none
  | succ n ih =>
    intro a1 a3 a4 a5 τ
    rw [X11_sent_L49]
    refine sm_seg C [(.iload 5, 0), (.iload_n 1, 0)] (pc' := 52) (L' := [(0, .ref 0), (1, .int a1), (3, .int a3), (4, .int a4), (5, .int a5)]) (S' := [.int a1, .int a5]) (by decide +kernel) rfl ?_
    refine sm_icmpge 138 (off := 86) C (by decide +kernel) (by decide) (fun _ => ?_) (fun _ => ?_)
    · refine sm_seg C [(.iload 4, 0)] (pc' := 140) (L' := [(0, .ref 0), (1, .int a1), (3, .int a3), (4, .int a4), (5, .int a5)]) (S' := [.int a4]) (by decide +kernel) rfl ?_
      exact sm_iret C hr rfl (by decide +kernel)
    · refine sm_seg C [(.iconst 0, 0), (.istore 6, 0)] (pc' := 58) (L' := [(6, .int 0), (0, .ref 0), (1, .int a1), (3, .int a3), (4, .int a4), (5, .int a5)]) (S' := []) (by decide +kernel) rfl ?_
      exact sm_sub [1, 2, 3, 4, 5, 0] rfl (s_X11_sent_L58 F C hr (X11_sent_L49 F n) ih F a1 a3 a4 a5 0 τ)
def X11_sent (F : Nat) (a1 : Int32) (a2 : Int32) (τ : Tau) : Option (Int32 × Tau) :=
  cal (X11_isIn F a1 1 6 τ) fun r1 τ2 => if r1 = 0 then (some ((-1), τ2)) else (cal (X11_isIn F a2 0 1 τ2) fun r3 τ4 => if r3 = 0 then (some ((-1), τ4)) else (cal (X11_layMostFor F a1 τ4) fun r5 τ6 => if a2 = 0 then (ald τ6 14 64 ((shl 1 a1) - 1) fun v7 => some (v7, τ6)) else (X11_sent_L49 F F a1 ((shl 1 a1) - 1) 0 0 τ6)))
set_option maxRecDepth 20000 in
set_option maxHeartbeats 4000000 in
theorem c_X11_sent (F : Nat) (a1 : Int32) (a2 : Int32) (τ : Tau) (r : Int32) (τ' : Tau) (h : X11_sent F a1 a2 τ = some (r, τ')) : MCi sysM yX11_sent cX11_sent 7 (some .int) 3 [.ref 0, .int a1, .int a2] τ r τ' :=
  mci_of (by decide +kernel) (Nat.le_of_ble_eq_true rfl) (fun K C hr => by
    show Sm K sysM 7 (Qi K sysM) (X11_sent F a1 a2 τ) 0 [(0, .ref 0), (1, .int a1), (2, .int a2)] [] τ
    unfold X11_sent
    refine sm_seg C [(.iload_n 1, 0), (.iconst 1, 1), (.bipush 6, 6)] (pc' := 4) (L' := [(0, .ref 0), (1, .int a1), (2, .int a2)]) (S' := [.int 6, .int 1, .int a1]) (by decide +kernel) rfl ?_
    refine sm_scal [.int a1, .int 1, .int 6] [] rfl C mw_X11_isIn ml_11_78 rfl ⟨by decide, by decide⟩ (Nat.le_of_ble_eq_true rfl) (by decide +kernel) (c_X11_isIn F a1 1 6 τ) (fun r1 τ2 => ?_)
    refine sm_ifeq 19 (off := 12) C (by decide +kernel) (by decide) (fun _ => ?_) (fun _ => ?_)
    · refine sm_seg C [(.iconst (-1), (-1))] (pc' := 20) (L' := [(0, .ref 0), (1, .int a1), (2, .int a2)]) (S' := [.int (-1)]) (by decide +kernel) rfl ?_
      exact sm_iret C hr rfl (by decide +kernel)
    · refine sm_seg C [(.iload_n 2, 0), (.iconst 0, 0), (.iconst 1, 1)] (pc' := 13) (L' := [(0, .ref 0), (1, .int a1), (2, .int a2)]) (S' := [.int 1, .int 0, .int a2]) (by decide +kernel) rfl ?_
      refine sm_scal [.int a2, .int 0, .int 1] [] rfl C mw_X11_isIn ml_11_78 rfl ⟨by decide, by decide⟩ (Nat.le_of_ble_eq_true rfl) (by decide +kernel) (c_X11_isIn F a2 0 1 τ2) (fun r3 τ4 => ?_)
      refine sm_ifne 21 (off := 5) C (by decide +kernel) (by decide) (fun _ => ?_) (fun _ => ?_)
      · refine sm_seg C [(.iconst (-1), (-1))] (pc' := 20) (L' := [(0, .ref 0), (1, .int a1), (2, .int a2)]) (S' := [.int (-1)]) (by decide +kernel) rfl ?_
        exact sm_iret C hr rfl (by decide +kernel)
      · refine sm_seg C [(.aload_n 0, 0), (.iload_n 1, 0)] (pc' := 23) (L' := [(0, .ref 0), (1, .int a1), (2, .int a2)]) (S' := [.int a1, .ref 0]) (by decide +kernel) rfl ?_
        refine sm_vcalv [.int a1] [] rfl C mw_X11_layMostFor ml_11_436 rfl (ci := 11) rfl (ltM (by decide +kernel : kdM 0 = 11) (by decide)) (by decide +kernel : kdM 0 = 11) (by decide) ⟨by decide, by decide⟩ (Nat.le_of_ble_eq_true rfl) (by decide +kernel) (c_X11_layMostFor F a1 τ4) (fun r5 τ6 => ?_)
        refine sm_seg C [(.iconst 1, 1), (.iload_n 1, 0), (.ishl, 0), (.iconst 1, 1), (.isub, 0), (.istore_n 3, 0), (.iload_n 2, 0)] (pc' := 33) (L' := [(3, .int ((shl 1 a1) - 1)), (0, .ref 0), (1, .int a1), (2, .int a2)]) (S' := [.int a2]) (by decide +kernel) rfl ?_
        refine sm_ifne 43 (off := 10) C (by decide +kernel) (by decide) (fun _ => ?_) (fun _ => ?_)
        · refine sm_seg C [(.aload_n 0, 0)] (pc' := 37) (L' := [(3, .int ((shl 1 a1) - 1)), (0, .ref 0), (1, .int a1), (2, .int a2)]) (S' := [.ref 0]) (by decide +kernel) rfl ?_
          refine sm_getR 11 30 14 cls11 C (ltM (by decide +kernel : kdM 0 = 11) (by decide)) (by decide +kernel : kdM 0 = 11) (obM11 (by decide +kernel : kdM 0 = 11)) (by decide) (frM11_30 (by decide +kernel : kdM 0 = 11)) fl11_54 (by decide +kernel) ?_
          refine sm_seg C [(.iload_n 3, 0)] (pc' := 41) (L' := [(3, .int ((shl 1 a1) - 1)), (0, .ref 0), (1, .int a1), (2, .int a2)]) (S' := [.int ((shl 1 a1) - 1), .ref 14]) (by decide +kernel) rfl ?_
          refine sm_ald 64 C (ltM (krM11_30 (by decide +kernel : kdM 0 = 11)) (by decide)) (krM11_30 (by decide +kernel : kdM 0 = 11)) (nrM11_30 (by decide +kernel : kdM 0 = 11)) (by decide +kernel) (fun v7 => ?_)
          exact sm_iret C hr rfl (by decide +kernel)
        · refine sm_seg C [(.iconst 0, 0), (.istore 4, 0), (.iconst 0, 0), (.istore 5, 0)] (pc' := 49) (L' := [(5, .int 0), (4, .int 0), (3, .int ((shl 1 a1) - 1)), (0, .ref 0), (1, .int a1), (2, .int a2)]) (S' := []) (by decide +kernel) rfl ?_
          exact sm_sub [3, 4, 2, 1, 0] rfl (s_X11_sent_L49 F C hr F a1 ((shl 1 a1) - 1) 0 0 τ6)) h
/-! BasketEnvoysModel.set -/
def X11_set_j176 (F : Nat) (a3 : Int32) (z0 : Int32) (τ : Tau) : Option (Int32 × Tau) :=
  ast τ 1 2244 z0 a3 fun τ3 => cal (X11_forgets F τ3) fun r4 τ5 => some (1, τ5)
theorem s_X11_set_j176 (F : Nat) {K : Ctx} (C : Cx K sysM RX11 cX11_set 5 3) (hr : Rt K (some .boolean)) (a3 : Int32) (z0 : Int32) (τ : Tau) : Sm K sysM 5 (Qi K sysM) (X11_set_j176 F a3 z0 τ) 176 [(0, .ref 0), (3, .int a3)] [.int z0, .ref 1] τ := by
  unfold X11_set_j176
  refine sm_seg C [(.iload_n 3, 0)] (pc' := 177) (L' := [(0, .ref 0), (3, .int a3)]) (S' := [.int a3, .int z0, .ref 1]) (by decide +kernel) rfl ?_
  refine sm_ast 2244 C (ltM (krM11_0 (by decide +kernel : kdM 0 = 11)) (by decide)) (krM11_0 (by decide +kernel : kdM 0 = 11)) (nrM11_0 (by decide +kernel : kdM 0 = 11)) (by decide +kernel) (fun τ3 => ?_)
  refine sm_seg C [(.aload_n 0, 0)] (pc' := 179) (L' := [(0, .ref 0), (3, .int a3)]) (S' := [.ref 0]) (by decide +kernel) rfl ?_
  refine sm_vcalv [] [] rfl C mw_X11_forgets ml_11_85 rfl (ci := 11) rfl (ltM (by decide +kernel : kdM 0 = 11) (by decide)) (by decide +kernel : kdM 0 = 11) (by decide) ⟨by decide, by decide⟩ (Nat.le_of_ble_eq_true rfl) (by decide +kernel) (c_X11_forgets F τ3) (fun r4 τ5 => ?_)
  refine sm_seg C [(.iconst 1, 1)] (pc' := 183) (L' := [(0, .ref 0), (3, .int a3)]) (S' := [.int 1]) (by decide +kernel) rfl ?_
  exact sm_iret C hr rfl (by decide +kernel)
def X11_set_j116 (F : Nat) (a1 : Int32) (a2 : Int32) (a3 : Int32) (z0 : Int32) (τ : Tau) : Option (Int32 × Tau) :=
  if z0 = 0 then (some (0, τ)) else (if a1 = 0 then (X11_set_j176 F a3 (5 + a2) τ) else (if a1 = 1 then (X11_set_j176 F a3 (45 + a2) τ) else (if a1 = 2 then (X11_set_j176 F a3 (59 + a2) τ) else (if a1 = 3 then (X11_set_j176 F a3 (73 + a2) τ) else (X11_set_j176 F a3 0 τ)))))
theorem s_X11_set_j116 (F : Nat) {K : Ctx} (C : Cx K sysM RX11 cX11_set 5 3) (hr : Rt K (some .boolean)) (a1 : Int32) (a2 : Int32) (a3 : Int32) (z0 : Int32) (τ : Tau) : Sm K sysM 5 (Qi K sysM) (X11_set_j116 F a1 a2 a3 z0 τ) 116 [(0, .ref 0), (1, .int a1), (2, .int a2), (3, .int a3)] [.int z0] τ := by
  unfold X11_set_j116
  refine sm_seg C [(.istore 4, 0), (.iload 4, 0)] (pc' := 120) (L' := [(4, .int z0), (0, .ref 0), (1, .int a1), (2, .int a2), (3, .int a3)]) (S' := [.int z0]) (by decide +kernel) rfl ?_
  refine sm_ifne 125 (off := 5) C (by decide +kernel) (by decide) (fun _ => ?_) (fun _ => ?_)
  · refine sm_seg C [(.iconst 0, 0)] (pc' := 124) (L' := [(4, .int z0), (0, .ref 0), (1, .int a1), (2, .int a2), (3, .int a3)]) (S' := [.int 0]) (by decide +kernel) rfl ?_
    exact sm_iret C hr rfl (by decide +kernel)
  · refine sm_seg C [(.aload_n 0, 0)] (pc' := 126) (L' := [(4, .int z0), (0, .ref 0), (1, .int a1), (2, .int a2), (3, .int a3)]) (S' := [.ref 0]) (by decide +kernel) rfl ?_
    refine sm_getR 11 0 1 cls11 C (ltM (by decide +kernel : kdM 0 = 11) (by decide)) (by decide +kernel : kdM 0 = 11) (obM11 (by decide +kernel : kdM 0 = 11)) (by decide) (frM11_0 (by decide +kernel : kdM 0 = 11)) fl11_7 (by decide +kernel) ?_
    refine sm_seg C [(.iload_n 1, 0)] (pc' := 130) (L' := [(4, .int z0), (0, .ref 0), (1, .int a1), (2, .int a2), (3, .int a3)]) (S' := [.int a1, .ref 1]) (by decide +kernel) rfl ?_
    refine sm_ifne 139 (off := 9) C (by decide +kernel) (by decide) (fun _ => ?_) (fun _ => ?_)
    · refine sm_seg C [(.iconst 5, 5), (.iload_n 2, 0), (.iadd, 0), (.goto 40, 0)] (pc' := 176) (L' := [(4, .int z0), (0, .ref 0), (1, .int a1), (2, .int a2), (3, .int a3)]) (S' := [.int (5 + a2), .ref 1]) (by decide +kernel) rfl ?_
      exact sm_sub [1, 4] rfl (s_X11_set_j176 F C hr a3 (5 + a2) τ)
    · refine sm_seg C [(.iload_n 1, 0), (.iconst 1, 1)] (pc' := 141) (L' := [(4, .int z0), (0, .ref 0), (1, .int a1), (2, .int a2), (3, .int a3)]) (S' := [.int 1, .int a1, .ref 1]) (by decide +kernel) rfl ?_
      refine sm_icmpne 151 (off := 10) C (by decide +kernel) (by decide) (fun _ => ?_) (fun _ => ?_)
      · refine sm_seg C [(.bipush 45, 45), (.iload_n 2, 0), (.iadd, 0), (.goto 28, 0)] (pc' := 176) (L' := [(4, .int z0), (0, .ref 0), (1, .int a1), (2, .int a2), (3, .int a3)]) (S' := [.int (45 + a2), .ref 1]) (by decide +kernel) rfl ?_
        exact sm_sub [1, 4] rfl (s_X11_set_j176 F C hr a3 (45 + a2) τ)
      · refine sm_seg C [(.iload_n 1, 0), (.iconst 2, 2)] (pc' := 153) (L' := [(4, .int z0), (0, .ref 0), (1, .int a1), (2, .int a2), (3, .int a3)]) (S' := [.int 2, .int a1, .ref 1]) (by decide +kernel) rfl ?_
        refine sm_icmpne 163 (off := 10) C (by decide +kernel) (by decide) (fun _ => ?_) (fun _ => ?_)
        · refine sm_seg C [(.bipush 59, 59), (.iload_n 2, 0), (.iadd, 0), (.goto 16, 0)] (pc' := 176) (L' := [(4, .int z0), (0, .ref 0), (1, .int a1), (2, .int a2), (3, .int a3)]) (S' := [.int (59 + a2), .ref 1]) (by decide +kernel) rfl ?_
          exact sm_sub [1, 4] rfl (s_X11_set_j176 F C hr a3 (59 + a2) τ)
        · refine sm_seg C [(.iload_n 1, 0), (.iconst 3, 3)] (pc' := 165) (L' := [(4, .int z0), (0, .ref 0), (1, .int a1), (2, .int a2), (3, .int a3)]) (S' := [.int 3, .int a1, .ref 1]) (by decide +kernel) rfl ?_
          refine sm_icmpne 175 (off := 10) C (by decide +kernel) (by decide) (fun _ => ?_) (fun _ => ?_)
          · refine sm_seg C [(.bipush 73, 73), (.iload_n 2, 0), (.iadd, 0), (.goto 4, 0)] (pc' := 176) (L' := [(4, .int z0), (0, .ref 0), (1, .int a1), (2, .int a2), (3, .int a3)]) (S' := [.int (73 + a2), .ref 1]) (by decide +kernel) rfl ?_
            exact sm_sub [1, 4] rfl (s_X11_set_j176 F C hr a3 (73 + a2) τ)
          · refine sm_seg C [(.iconst 0, 0)] (pc' := 176) (L' := [(4, .int z0), (0, .ref 0), (1, .int a1), (2, .int a2), (3, .int a3)]) (S' := [.int 0, .ref 1]) (by decide +kernel) rfl ?_
            exact sm_sub [1, 4] rfl (s_X11_set_j176 F C hr a3 0 τ)
def X11_set_j26 (F : Nat) (a1 : Int32) (a2 : Int32) (a3 : Int32) (τ : Tau) : Option (Int32 × Tau) :=
  X11_set_j116 F a1 a2 a3 0 τ
theorem s_X11_set_j26 (F : Nat) {K : Ctx} (C : Cx K sysM RX11 cX11_set 5 3) (hr : Rt K (some .boolean)) (a1 : Int32) (a2 : Int32) (a3 : Int32) (τ : Tau) : Sm K sysM 5 (Qi K sysM) (X11_set_j26 F a1 a2 a3 τ) 26 [(0, .ref 0), (1, .int a1), (2, .int a2), (3, .int a3)] [] τ := by
  unfold X11_set_j26
  refine sm_seg C [(.iconst 0, 0), (.goto 89, 0)] (pc' := 116) (L' := [(0, .ref 0), (1, .int a1), (2, .int a2), (3, .int a3)]) (S' := [.int 0]) (by decide +kernel) rfl ?_
  exact sm_sub [0, 1, 2, 3] rfl (s_X11_set_j116 F C hr a1 a2 a3 0 τ)
def X11_set_j62 (F : Nat) (a1 : Int32) (a2 : Int32) (a3 : Int32) (τ : Tau) : Option (Int32 × Tau) :=
  X11_set_j116 F a1 a2 a3 0 τ
theorem s_X11_set_j62 (F : Nat) {K : Ctx} (C : Cx K sysM RX11 cX11_set 5 3) (hr : Rt K (some .boolean)) (a1 : Int32) (a2 : Int32) (a3 : Int32) (τ : Tau) : Sm K sysM 5 (Qi K sysM) (X11_set_j62 F a1 a2 a3 τ) 62 [(0, .ref 0), (1, .int a1), (2, .int a2), (3, .int a3)] [] τ := by
  unfold X11_set_j62
  refine sm_seg C [(.iconst 0, 0), (.goto 53, 0)] (pc' := 116) (L' := [(0, .ref 0), (1, .int a1), (2, .int a2), (3, .int a3)]) (S' := [.int 0]) (by decide +kernel) rfl ?_
  exact sm_sub [0, 1, 2, 3] rfl (s_X11_set_j116 F C hr a1 a2 a3 0 τ)
def X11_set_j40 (F : Nat) (a1 : Int32) (a2 : Int32) (a3 : Int32) (τ : Tau) : Option (Int32 × Tau) :=
  cal (X11_isMute F a2 τ) fun r8 τ9 => if r8 = 0 then (X11_set_j62 F a1 a2 a3 τ9) else (cal (X11_isIn F a3 0 9 τ9) fun r10 τ11 => if r10 = 0 then (X11_set_j62 F a1 a2 a3 τ11) else (X11_set_j116 F a1 a2 a3 1 τ11))
theorem s_X11_set_j40 (F : Nat) {K : Ctx} (C : Cx K sysM RX11 cX11_set 5 3) (hr : Rt K (some .boolean)) (a1 : Int32) (a2 : Int32) (a3 : Int32) (τ : Tau) : Sm K sysM 5 (Qi K sysM) (X11_set_j40 F a1 a2 a3 τ) 40 [(0, .ref 0), (1, .int a1), (2, .int a2), (3, .int a3)] [] τ := by
  unfold X11_set_j40
  refine sm_seg C [(.aload_n 0, 0), (.iload_n 2, 0)] (pc' := 42) (L' := [(0, .ref 0), (1, .int a1), (2, .int a2), (3, .int a3)]) (S' := [.int a2, .ref 0]) (by decide +kernel) rfl ?_
  refine sm_vcal [.int a2] [] rfl C mw_X11_isMute ml_11_94 rfl (ci := 11) rfl (ltM (by decide +kernel : kdM 0 = 11) (by decide)) (by decide +kernel : kdM 0 = 11) (by decide) ⟨by decide, by decide⟩ (Nat.le_of_ble_eq_true rfl) (by decide +kernel) (c_X11_isMute F a2 τ) (fun r8 τ9 => ?_)
  refine sm_ifeq 62 (off := 17) C (by decide +kernel) (by decide) (fun _ => ?_) (fun _ => ?_)
  · exact sm_sub [0, 1, 2, 3] rfl (s_X11_set_j62 F C hr a1 a2 a3 τ9)
  · refine sm_seg C [(.iload_n 3, 0), (.iconst 0, 0), (.bipush 9, 9)] (pc' := 52) (L' := [(0, .ref 0), (1, .int a1), (2, .int a2), (3, .int a3)]) (S' := [.int 9, .int 0, .int a3]) (by decide +kernel) rfl ?_
    refine sm_scal [.int a3, .int 0, .int 9] [] rfl C mw_X11_isIn ml_11_78 rfl ⟨by decide, by decide⟩ (Nat.le_of_ble_eq_true rfl) (by decide +kernel) (c_X11_isIn F a3 0 9 τ9) (fun r10 τ11 => ?_)
    refine sm_ifeq 62 (off := 7) C (by decide +kernel) (by decide) (fun _ => ?_) (fun _ => ?_)
    · exact sm_sub [0, 1, 2, 3] rfl (s_X11_set_j62 F C hr a1 a2 a3 τ11)
    · refine sm_seg C [(.iconst 1, 1), (.goto 57, 0)] (pc' := 116) (L' := [(0, .ref 0), (1, .int a1), (2, .int a2), (3, .int a3)]) (S' := [.int 1]) (by decide +kernel) rfl ?_
      exact sm_sub [0, 1, 2, 3] rfl (s_X11_set_j116 F C hr a1 a2 a3 1 τ11)
def X11_set_j92 (F : Nat) (a1 : Int32) (a2 : Int32) (a3 : Int32) (τ : Tau) : Option (Int32 × Tau) :=
  X11_set_j116 F a1 a2 a3 0 τ
theorem s_X11_set_j92 (F : Nat) {K : Ctx} (C : Cx K sysM RX11 cX11_set 5 3) (hr : Rt K (some .boolean)) (a1 : Int32) (a2 : Int32) (a3 : Int32) (τ : Tau) : Sm K sysM 5 (Qi K sysM) (X11_set_j92 F a1 a2 a3 τ) 92 [(0, .ref 0), (1, .int a1), (2, .int a2), (3, .int a3)] [] τ := by
  unfold X11_set_j92
  refine sm_seg C [(.iconst 0, 0), (.goto 23, 0)] (pc' := 116) (L' := [(0, .ref 0), (1, .int a1), (2, .int a2), (3, .int a3)]) (S' := [.int 0]) (by decide +kernel) rfl ?_
  exact sm_sub [0, 1, 2, 3] rfl (s_X11_set_j116 F C hr a1 a2 a3 0 τ)
def X11_set_j115 (F : Nat) (a1 : Int32) (a2 : Int32) (a3 : Int32) (τ : Tau) : Option (Int32 × Tau) :=
  X11_set_j116 F a1 a2 a3 0 τ
theorem s_X11_set_j115 (F : Nat) {K : Ctx} (C : Cx K sysM RX11 cX11_set 5 3) (hr : Rt K (some .boolean)) (a1 : Int32) (a2 : Int32) (a3 : Int32) (τ : Tau) : Sm K sysM 5 (Qi K sysM) (X11_set_j115 F a1 a2 a3 τ) 115 [(0, .ref 0), (1, .int a1), (2, .int a2), (3, .int a3)] [] τ := by
  unfold X11_set_j115
  refine sm_seg C [(.iconst 0, 0)] (pc' := 116) (L' := [(0, .ref 0), (1, .int a1), (2, .int a2), (3, .int a3)]) (S' := [.int 0]) (by decide +kernel) rfl ?_
  exact sm_sub [0, 1, 2, 3] rfl (s_X11_set_j116 F C hr a1 a2 a3 0 τ)
def X11_set (F : Nat) (a1 : Int32) (a2 : Int32) (a3 : Int32) (τ : Tau) : Option (Int32 × Tau) :=
  if a1 = 0 then (cal (X11_isPower F a2 τ) fun r1 τ2 => if r1 = 0 then (X11_set_j26 F a1 a2 a3 τ2) else (cal (X11_isIn F a3 0 99 τ2) fun r6 τ7 => if r6 = 0 then (X11_set_j26 F a1 a2 a3 τ7) else (X11_set_j116 F a1 a2 a3 1 τ7))) else (if a1 = 1 then (X11_set_j40 F a1 a2 a3 τ) else (if a1 = 2 then (X11_set_j40 F a1 a2 a3 τ) else (if a1 = 3 then (cal (X11_isMute F a2 τ) fun r12 τ13 => if r12 = 0 then (X11_set_j92 F a1 a2 a3 τ13) else (cal (X11_isIn F a3 0 1 τ13) fun r14 τ15 => if r14 = 0 then (X11_set_j92 F a1 a2 a3 τ15) else (X11_set_j116 F a1 a2 a3 1 τ15))) else (if a1 = 4 then (cal (X11_isIn F a3 0 99 τ) fun r16 τ17 => if r16 = 0 then (X11_set_j115 F a1 a2 a3 τ17) else (X11_set_j116 F a1 a2 a3 1 τ17)) else (X11_set_j115 F a1 a2 a3 τ)))))
set_option maxRecDepth 20000 in
set_option maxHeartbeats 4000000 in
theorem c_X11_set (F : Nat) (a1 : Int32) (a2 : Int32) (a3 : Int32) (τ : Tau) (r : Int32) (τ' : Tau) (h : X11_set F a1 a2 a3 τ = some (r, τ')) : MCi sysM yX11_set cX11_set 5 (some .boolean) 3 [.ref 0, .int a1, .int a2, .int a3] τ r τ' :=
  mci_of (by decide +kernel) (Nat.le_of_ble_eq_true rfl) (fun K C hr => by
    show Sm K sysM 5 (Qi K sysM) (X11_set F a1 a2 a3 τ) 0 [(0, .ref 0), (1, .int a1), (2, .int a2), (3, .int a3)] [] τ
    unfold X11_set
    refine sm_seg C [(.iload_n 1, 0)] (pc' := 1) (L' := [(0, .ref 0), (1, .int a1), (2, .int a2), (3, .int a3)]) (S' := [.int a1]) (by decide +kernel) rfl ?_
    refine sm_ifne 30 (off := 29) C (by decide +kernel) (by decide) (fun _ => ?_) (fun _ => ?_)
    · refine sm_seg C [(.aload_n 0, 0), (.iload_n 2, 0)] (pc' := 6) (L' := [(0, .ref 0), (1, .int a1), (2, .int a2), (3, .int a3)]) (S' := [.int a2, .ref 0]) (by decide +kernel) rfl ?_
      refine sm_vcal [.int a2] [] rfl C mw_X11_isPower ml_11_90 rfl (ci := 11) rfl (ltM (by decide +kernel : kdM 0 = 11) (by decide)) (by decide +kernel : kdM 0 = 11) (by decide) ⟨by decide, by decide⟩ (Nat.le_of_ble_eq_true rfl) (by decide +kernel) (c_X11_isPower F a2 τ) (fun r1 τ2 => ?_)
      refine sm_ifeq 26 (off := 17) C (by decide +kernel) (by decide) (fun _ => ?_) (fun _ => ?_)
      · exact sm_sub [0, 1, 2, 3] rfl (s_X11_set_j26 F C hr a1 a2 a3 τ2)
      · refine sm_seg C [(.iload_n 3, 0), (.iconst 0, 0), (.bipush 99, 99)] (pc' := 16) (L' := [(0, .ref 0), (1, .int a1), (2, .int a2), (3, .int a3)]) (S' := [.int 99, .int 0, .int a3]) (by decide +kernel) rfl ?_
        refine sm_scal [.int a3, .int 0, .int 99] [] rfl C mw_X11_isIn ml_11_78 rfl ⟨by decide, by decide⟩ (Nat.le_of_ble_eq_true rfl) (by decide +kernel) (c_X11_isIn F a3 0 99 τ2) (fun r6 τ7 => ?_)
        refine sm_ifeq 26 (off := 7) C (by decide +kernel) (by decide) (fun _ => ?_) (fun _ => ?_)
        · exact sm_sub [0, 1, 2, 3] rfl (s_X11_set_j26 F C hr a1 a2 a3 τ7)
        · refine sm_seg C [(.iconst 1, 1), (.goto 93, 0)] (pc' := 116) (L' := [(0, .ref 0), (1, .int a1), (2, .int a2), (3, .int a3)]) (S' := [.int 1]) (by decide +kernel) rfl ?_
          exact sm_sub [0, 1, 2, 3] rfl (s_X11_set_j116 F C hr a1 a2 a3 1 τ7)
    · refine sm_seg C [(.iload_n 1, 0), (.iconst 1, 1)] (pc' := 32) (L' := [(0, .ref 0), (1, .int a1), (2, .int a2), (3, .int a3)]) (S' := [.int 1, .int a1]) (by decide +kernel) rfl ?_
      refine sm_icmpeq 40 (off := 8) C (by decide +kernel) (by decide) (fun _ => ?_) (fun _ => ?_)
      · exact sm_sub [0, 1, 2, 3] rfl (s_X11_set_j40 F C hr a1 a2 a3 τ)
      · refine sm_seg C [(.iload_n 1, 0), (.iconst 2, 2)] (pc' := 37) (L' := [(0, .ref 0), (1, .int a1), (2, .int a2), (3, .int a3)]) (S' := [.int 2, .int a1]) (by decide +kernel) rfl ?_
        refine sm_icmpne 66 (off := 29) C (by decide +kernel) (by decide) (fun _ => ?_) (fun _ => ?_)
        · exact sm_sub [0, 1, 2, 3] rfl (s_X11_set_j40 F C hr a1 a2 a3 τ)
        · refine sm_seg C [(.iload_n 1, 0), (.iconst 3, 3)] (pc' := 68) (L' := [(0, .ref 0), (1, .int a1), (2, .int a2), (3, .int a3)]) (S' := [.int 3, .int a1]) (by decide +kernel) rfl ?_
          refine sm_icmpne 96 (off := 28) C (by decide +kernel) (by decide) (fun _ => ?_) (fun _ => ?_)
          · refine sm_seg C [(.aload_n 0, 0), (.iload_n 2, 0)] (pc' := 73) (L' := [(0, .ref 0), (1, .int a1), (2, .int a2), (3, .int a3)]) (S' := [.int a2, .ref 0]) (by decide +kernel) rfl ?_
            refine sm_vcal [.int a2] [] rfl C mw_X11_isMute ml_11_94 rfl (ci := 11) rfl (ltM (by decide +kernel : kdM 0 = 11) (by decide)) (by decide +kernel : kdM 0 = 11) (by decide) ⟨by decide, by decide⟩ (Nat.le_of_ble_eq_true rfl) (by decide +kernel) (c_X11_isMute F a2 τ) (fun r12 τ13 => ?_)
            refine sm_ifeq 92 (off := 16) C (by decide +kernel) (by decide) (fun _ => ?_) (fun _ => ?_)
            · exact sm_sub [0, 1, 2, 3] rfl (s_X11_set_j92 F C hr a1 a2 a3 τ13)
            · refine sm_seg C [(.iload_n 3, 0), (.iconst 0, 0), (.iconst 1, 1)] (pc' := 82) (L' := [(0, .ref 0), (1, .int a1), (2, .int a2), (3, .int a3)]) (S' := [.int 1, .int 0, .int a3]) (by decide +kernel) rfl ?_
              refine sm_scal [.int a3, .int 0, .int 1] [] rfl C mw_X11_isIn ml_11_78 rfl ⟨by decide, by decide⟩ (Nat.le_of_ble_eq_true rfl) (by decide +kernel) (c_X11_isIn F a3 0 1 τ13) (fun r14 τ15 => ?_)
              refine sm_ifeq 92 (off := 7) C (by decide +kernel) (by decide) (fun _ => ?_) (fun _ => ?_)
              · exact sm_sub [0, 1, 2, 3] rfl (s_X11_set_j92 F C hr a1 a2 a3 τ15)
              · refine sm_seg C [(.iconst 1, 1), (.goto 27, 0)] (pc' := 116) (L' := [(0, .ref 0), (1, .int a1), (2, .int a2), (3, .int a3)]) (S' := [.int 1]) (by decide +kernel) rfl ?_
                exact sm_sub [0, 1, 2, 3] rfl (s_X11_set_j116 F C hr a1 a2 a3 1 τ15)
          · refine sm_seg C [(.iload_n 1, 0), (.iconst 4, 4)] (pc' := 98) (L' := [(0, .ref 0), (1, .int a1), (2, .int a2), (3, .int a3)]) (S' := [.int 4, .int a1]) (by decide +kernel) rfl ?_
            refine sm_icmpne 115 (off := 17) C (by decide +kernel) (by decide) (fun _ => ?_) (fun _ => ?_)
            · refine sm_seg C [(.iload_n 3, 0), (.iconst 0, 0), (.bipush 99, 99)] (pc' := 105) (L' := [(0, .ref 0), (1, .int a1), (2, .int a2), (3, .int a3)]) (S' := [.int 99, .int 0, .int a3]) (by decide +kernel) rfl ?_
              refine sm_scal [.int a3, .int 0, .int 99] [] rfl C mw_X11_isIn ml_11_78 rfl ⟨by decide, by decide⟩ (Nat.le_of_ble_eq_true rfl) (by decide +kernel) (c_X11_isIn F a3 0 99 τ) (fun r16 τ17 => ?_)
              refine sm_ifeq 115 (off := 7) C (by decide +kernel) (by decide) (fun _ => ?_) (fun _ => ?_)
              · exact sm_sub [0, 1, 2, 3] rfl (s_X11_set_j115 F C hr a1 a2 a3 τ17)
              · refine sm_seg C [(.iconst 1, 1), (.goto 4, 0)] (pc' := 116) (L' := [(0, .ref 0), (1, .int a1), (2, .int a2), (3, .int a3)]) (S' := [.int 1]) (by decide +kernel) rfl ?_
                exact sm_sub [0, 1, 2, 3] rfl (s_X11_set_j116 F C hr a1 a2 a3 1 τ17)
            · exact sm_sub [0, 1, 2, 3] rfl (s_X11_set_j115 F C hr a1 a2 a3 τ)) h
/-! BasketEnvoysModel.shows -/
def X11_shows (F : Nat) (a1 : Int32) (τ : Tau) : Option (Int32 × Tau) :=
  if a1 = (-1) then (cal (X11_endsRow F 515 τ) fun r1 τ2 => some (r1, τ2)) else (cal (X11_isIn F a1 0 11 τ) fun r3 τ4 => if r3 = 0 then (some ((-1), τ4)) else (cal (X11_tellsOne F 515 8 a1 τ4) fun r5 τ6 => some (r5, τ6)))
set_option maxRecDepth 20000 in
set_option maxHeartbeats 4000000 in
theorem c_X11_shows (F : Nat) (a1 : Int32) (τ : Tau) (r : Int32) (τ' : Tau) (h : X11_shows F a1 τ = some (r, τ')) : MCi sysM yX11_shows cX11_shows 2 (some .int) 2 [.ref 0, .int a1] τ r τ' :=
  mci_of (by decide +kernel) (Nat.le_of_ble_eq_true rfl) (fun K C hr => by
    show Sm K sysM 2 (Qi K sysM) (X11_shows F a1 τ) 0 [(0, .ref 0), (1, .int a1)] [] τ
    unfold X11_shows
    refine sm_seg C [(.iload_n 1, 0), (.iconst (-1), (-1))] (pc' := 2) (L' := [(0, .ref 0), (1, .int a1)]) (S' := [.int (-1), .int a1]) (by decide +kernel) rfl ?_
    refine sm_icmpne 15 (off := 13) C (by decide +kernel) (by decide) (fun _ => ?_) (fun _ => ?_)
    · refine sm_seg C [(.aload_n 0, 0), (.sipush 515, 515)] (pc' := 9) (L' := [(0, .ref 0), (1, .int a1)]) (S' := [.int 515, .ref 0]) (by decide +kernel) rfl ?_
      refine sm_vcal [.int 515] [] rfl C mw_X11_endsRow ml_11_388 rfl (ci := 11) rfl (ltM (by decide +kernel : kdM 0 = 11) (by decide)) (by decide +kernel : kdM 0 = 11) (by decide) ⟨by decide, by decide⟩ (Nat.le_of_ble_eq_true rfl) (by decide +kernel) (c_X11_endsRow F 515 τ) (fun r1 τ2 => ?_)
      refine sm_seg C [(.goto 27, 0)] (pc' := 39) (L' := [(0, .ref 0), (1, .int a1)]) (S' := [.int r1]) (by decide +kernel) rfl ?_
      exact sm_iret C hr rfl (by decide +kernel)
    · refine sm_seg C [(.iload_n 1, 0), (.iconst 0, 0), (.bipush 11, 11)] (pc' := 19) (L' := [(0, .ref 0), (1, .int a1)]) (S' := [.int 11, .int 0, .int a1]) (by decide +kernel) rfl ?_
      refine sm_scal [.int a1, .int 0, .int 11] [] rfl C mw_X11_isIn ml_11_78 rfl ⟨by decide, by decide⟩ (Nat.le_of_ble_eq_true rfl) (by decide +kernel) (c_X11_isIn F a1 0 11 τ) (fun r3 τ4 => ?_)
      refine sm_ifeq 38 (off := 16) C (by decide +kernel) (by decide) (fun _ => ?_) (fun _ => ?_)
      · refine sm_seg C [(.iconst (-1), (-1))] (pc' := 39) (L' := [(0, .ref 0), (1, .int a1)]) (S' := [.int (-1)]) (by decide +kernel) rfl ?_
        exact sm_iret C hr rfl (by decide +kernel)
      · refine sm_seg C [(.aload_n 0, 0), (.sipush 515, 515), (.bipush 8, 8), (.iload_n 1, 0)] (pc' := 32) (L' := [(0, .ref 0), (1, .int a1)]) (S' := [.int a1, .int 8, .int 515, .ref 0]) (by decide +kernel) rfl ?_
        refine sm_vcal [.int 515, .int 8, .int a1] [] rfl C mw_X11_tellsOne ml_11_391 rfl (ci := 11) rfl (ltM (by decide +kernel : kdM 0 = 11) (by decide)) (by decide +kernel : kdM 0 = 11) (by decide) ⟨by decide, by decide⟩ (Nat.le_of_ble_eq_true rfl) (by decide +kernel) (c_X11_tellsOne F 515 8 a1 τ4) (fun r5 τ6 => ?_)
        refine sm_seg C [(.goto 4, 0)] (pc' := 39) (L' := [(0, .ref 0), (1, .int a1)]) (S' := [.int r5]) (by decide +kernel) rfl ?_
        exact sm_iret C hr rfl (by decide +kernel)) h
/-! BasketEnvoysModel.signs -/
def X11_signs_L40 (F : Nat) : Nat → Int32 → Int32 → Tau → Option (Int32 × Tau)
  | 0, _, _, _ => none
  | n + 1, a1, a2, τ =>
    if a1 ≤ 1 then (some (a2, τ)) else (cal (X11_leastHeap F a1 (-1) τ) fun r2 τ3 => cal (X11_leastHeap F a1 r2 τ3) fun r4 τ5 => ald τ5 11 8 r2 fun v6 => ald τ5 11 8 r4 fun v7 => ast τ5 11 8 r2 (v6 + v7) fun τ8 => ald τ8 11 8 r2 fun v9 => ald τ8 11 8 (a1 + (-1)) fun v10 => ast τ8 11 8 r4 v10 fun τ11 => X11_signs_L40 F n (a1 + (-1)) (a2 + v9) τ11)
theorem s_X11_signs_L40 (F : Nat) {K : Ctx} (C : Cx K sysM RX11 cX11_signs 5 2) (hr : Rt K (some .int)) : ∀ (n : Nat) (a1 : Int32) (a2 : Int32) (τ : Tau), Sm K sysM 5 (Qi K sysM) (X11_signs_L40 F n a1 a2 τ) 40 [(0, .ref 0), (1, .int a1), (2, .int a2)] [] τ := by
  intro n
  induction n with
  | zero => intro a1 a2 τ; exact sm_none
  | succ n ih =>
    intro a1 a2 τ
    rw [X11_signs_L40]
    refine sm_seg C [(.iload_n 1, 0), (.iconst 1, 1)] (pc' := 42) (L' := [(0, .ref 0), (1, .int a1), (2, .int a2)]) (S' := [.int 1, .int a1]) (by decide +kernel) rfl ?_
    refine sm_icmple 104 (off := 62) C (by decide +kernel) (by decide) (fun _ => ?_) (fun _ => ?_)
    · refine sm_seg C [(.iload_n 2, 0)] (pc' := 105) (L' := [(0, .ref 0), (1, .int a1), (2, .int a2)]) (S' := [.int a2]) (by decide +kernel) rfl ?_
      exact sm_iret C hr rfl (by decide +kernel)
    · refine sm_seg C [(.aload_n 0, 0), (.iload_n 1, 0), (.iconst (-1), (-1))] (pc' := 48) (L' := [(0, .ref 0), (1, .int a1), (2, .int a2)]) (S' := [.int (-1), .int a1, .ref 0]) (by decide +kernel) rfl ?_
      refine sm_vcal [.int a1, .int (-1)] [] rfl C mw_X11_leastHeap ml_11_409 rfl (ci := 11) rfl (ltM (by decide +kernel : kdM 0 = 11) (by decide)) (by decide +kernel : kdM 0 = 11) (by decide) ⟨by decide, by decide⟩ (Nat.le_of_ble_eq_true rfl) (by decide +kernel) (c_X11_leastHeap F a1 (-1) τ) (fun r2 τ3 => ?_)
      refine sm_seg C [(.istore_n 3, 0), (.aload_n 0, 0), (.iload_n 1, 0), (.iload_n 3, 0)] (pc' := 55) (L' := [(3, .int r2), (0, .ref 0), (1, .int a1), (2, .int a2)]) (S' := [.int r2, .int a1, .ref 0]) (by decide +kernel) rfl ?_
      refine sm_vcal [.int a1, .int r2] [] rfl C mw_X11_leastHeap ml_11_409 rfl (ci := 11) rfl (ltM (by decide +kernel : kdM 0 = 11) (by decide)) (by decide +kernel : kdM 0 = 11) (by decide) ⟨by decide, by decide⟩ (Nat.le_of_ble_eq_true rfl) (by decide +kernel) (c_X11_leastHeap F a1 r2 τ3) (fun r4 τ5 => ?_)
      refine sm_seg C [(.istore 4, 0), (.aload_n 0, 0)] (pc' := 61) (L' := [(4, .int r4), (3, .int r2), (0, .ref 0), (1, .int a1), (2, .int a2)]) (S' := [.ref 0]) (by decide +kernel) rfl ?_
      refine sm_getR 11 27 11 cls11 C (ltM (by decide +kernel : kdM 0 = 11) (by decide)) (by decide +kernel : kdM 0 = 11) (obM11 (by decide +kernel : kdM 0 = 11)) (by decide) (frM11_27 (by decide +kernel : kdM 0 = 11)) fl11_44 (by decide +kernel) ?_
      refine sm_seg C [(.iload_n 3, 0), (.dup2, 0)] (pc' := 66) (L' := [(4, .int r4), (3, .int r2), (0, .ref 0), (1, .int a1), (2, .int a2)]) (S' := [.int r2, .ref 11, .int r2, .ref 11]) (by decide +kernel) rfl ?_
      refine sm_ald 8 C (ltM (krM11_27 (by decide +kernel : kdM 0 = 11)) (by decide)) (krM11_27 (by decide +kernel : kdM 0 = 11)) (nrM11_27 (by decide +kernel : kdM 0 = 11)) (by decide +kernel) (fun v6 => ?_)
      refine sm_seg C [(.aload_n 0, 0)] (pc' := 68) (L' := [(4, .int r4), (3, .int r2), (0, .ref 0), (1, .int a1), (2, .int a2)]) (S' := [.ref 0, .int v6, .int r2, .ref 11]) (by decide +kernel) rfl ?_
      refine sm_getR 11 27 11 cls11 C (ltM (by decide +kernel : kdM 0 = 11) (by decide)) (by decide +kernel : kdM 0 = 11) (obM11 (by decide +kernel : kdM 0 = 11)) (by decide) (frM11_27 (by decide +kernel : kdM 0 = 11)) fl11_44 (by decide +kernel) ?_
      refine sm_seg C [(.iload 4, 0)] (pc' := 73) (L' := [(4, .int r4), (3, .int r2), (0, .ref 0), (1, .int a1), (2, .int a2)]) (S' := [.int r4, .ref 11, .int v6, .int r2, .ref 11]) (by decide +kernel) rfl ?_
      refine sm_ald 8 C (ltM (krM11_27 (by decide +kernel : kdM 0 = 11)) (by decide)) (krM11_27 (by decide +kernel : kdM 0 = 11)) (nrM11_27 (by decide +kernel : kdM 0 = 11)) (by decide +kernel) (fun v7 => ?_)
      refine sm_seg C [(.iadd, 0)] (pc' := 75) (L' := [(4, .int r4), (3, .int r2), (0, .ref 0), (1, .int a1), (2, .int a2)]) (S' := [.int (v6 + v7), .int r2, .ref 11]) (by decide +kernel) rfl ?_
      refine sm_ast 8 C (ltM (krM11_27 (by decide +kernel : kdM 0 = 11)) (by decide)) (krM11_27 (by decide +kernel : kdM 0 = 11)) (nrM11_27 (by decide +kernel : kdM 0 = 11)) (by decide +kernel) (fun τ8 => ?_)
      refine sm_seg C [(.iload_n 2, 0), (.aload_n 0, 0)] (pc' := 78) (L' := [(4, .int r4), (3, .int r2), (0, .ref 0), (1, .int a1), (2, .int a2)]) (S' := [.ref 0, .int a2]) (by decide +kernel) rfl ?_
      refine sm_getR 11 27 11 cls11 C (ltM (by decide +kernel : kdM 0 = 11) (by decide)) (by decide +kernel : kdM 0 = 11) (obM11 (by decide +kernel : kdM 0 = 11)) (by decide) (frM11_27 (by decide +kernel : kdM 0 = 11)) fl11_44 (by decide +kernel) ?_
      refine sm_seg C [(.iload_n 3, 0)] (pc' := 82) (L' := [(4, .int r4), (3, .int r2), (0, .ref 0), (1, .int a1), (2, .int a2)]) (S' := [.int r2, .ref 11, .int a2]) (by decide +kernel) rfl ?_
      refine sm_ald 8 C (ltM (krM11_27 (by decide +kernel : kdM 0 = 11)) (by decide)) (krM11_27 (by decide +kernel : kdM 0 = 11)) (nrM11_27 (by decide +kernel : kdM 0 = 11)) (by decide +kernel) (fun v9 => ?_)
      refine sm_seg C [(.iadd, 0), (.istore_n 2, 0), (.iinc 1 (-1), (-1)), (.aload_n 0, 0)] (pc' := 89) (L' := [(1, .int (a1 + (-1))), (2, .int (a2 + v9)), (4, .int r4), (3, .int r2), (0, .ref 0)]) (S' := [.ref 0]) (by decide +kernel) rfl ?_
      refine sm_getR 11 27 11 cls11 C (ltM (by decide +kernel : kdM 0 = 11) (by decide)) (by decide +kernel : kdM 0 = 11) (obM11 (by decide +kernel : kdM 0 = 11)) (by decide) (frM11_27 (by decide +kernel : kdM 0 = 11)) fl11_44 (by decide +kernel) ?_
      refine sm_seg C [(.iload 4, 0), (.aload_n 0, 0)] (pc' := 95) (L' := [(1, .int (a1 + (-1))), (2, .int (a2 + v9)), (4, .int r4), (3, .int r2), (0, .ref 0)]) (S' := [.ref 0, .int r4, .ref 11]) (by decide +kernel) rfl ?_
      refine sm_getR 11 27 11 cls11 C (ltM (by decide +kernel : kdM 0 = 11) (by decide)) (by decide +kernel : kdM 0 = 11) (obM11 (by decide +kernel : kdM 0 = 11)) (by decide) (frM11_27 (by decide +kernel : kdM 0 = 11)) fl11_44 (by decide +kernel) ?_
      refine sm_seg C [(.iload_n 1, 0)] (pc' := 99) (L' := [(1, .int (a1 + (-1))), (2, .int (a2 + v9)), (4, .int r4), (3, .int r2), (0, .ref 0)]) (S' := [.int (a1 + (-1)), .ref 11, .int r4, .ref 11]) (by decide +kernel) rfl ?_
      refine sm_ald 8 C (ltM (krM11_27 (by decide +kernel : kdM 0 = 11)) (by decide)) (krM11_27 (by decide +kernel : kdM 0 = 11)) (nrM11_27 (by decide +kernel : kdM 0 = 11)) (by decide +kernel) (fun v10 => ?_)
      refine sm_ast 8 C (ltM (krM11_27 (by decide +kernel : kdM 0 = 11)) (by decide)) (krM11_27 (by decide +kernel : kdM 0 = 11)) (nrM11_27 (by decide +kernel : kdM 0 = 11)) (by decide +kernel) (fun τ11 => ?_)
      refine sm_seg C [(.goto (-61), 0)] (pc' := 40) (L' := [(1, .int (a1 + (-1))), (2, .int (a2 + v9)), (4, .int r4), (3, .int r2), (0, .ref 0)]) (S' := []) (by decide +kernel) rfl ?_
      exact sm_sub [4, 0, 1] rfl (ih (a1 + (-1)) (a2 + v9) τ11)
def X11_signs_L11 (F : Nat) : Nat → Int32 → Int32 → Tau → Option (Int32 × Tau)
  | 0, _, _, _ => none
  | n + 1, a1, a2, τ =>
    if a1 ≤ a2 then (X11_signs_L40 F F a1 0 τ) else (ald τ 1 2244 (546 + a2) fun v12 => ast τ 11 8 a2 v12 fun τ13 => X11_signs_L11 F n a1 (a2 + 1) τ13)
theorem s_X11_signs_L11 (F : Nat) {K : Ctx} (C : Cx K sysM RX11 cX11_signs 5 2) (hr : Rt K (some .int)) : ∀ (n : Nat) (a1 : Int32) (a2 : Int32) (τ : Tau), Sm K sysM 5 (Qi K sysM) (X11_signs_L11 F n a1 a2 τ) 11 [(0, .ref 0), (1, .int a1), (2, .int a2)] [] τ := by
  intro n
  induction n with
  | zero => intro a1 a2 τ; exact sm_none
  | succ n ih =>
    intro a1 a2 τ
    rw [X11_signs_L11]
    refine sm_seg C [(.iload_n 2, 0), (.iload_n 1, 0)] (pc' := 13) (L' := [(0, .ref 0), (1, .int a1), (2, .int a2)]) (S' := [.int a1, .int a2]) (by decide +kernel) rfl ?_
    refine sm_icmpge 38 (off := 25) C (by decide +kernel) (by decide) (fun _ => ?_) (fun _ => ?_)
    · refine sm_seg C [(.iconst 0, 0), (.istore_n 2, 0)] (pc' := 40) (L' := [(2, .int 0), (0, .ref 0), (1, .int a1)]) (S' := []) (by decide +kernel) rfl ?_
      exact sm_sub [1, 2, 0] rfl (s_X11_signs_L40 F C hr F a1 0 τ)
    · refine sm_seg C [(.aload_n 0, 0)] (pc' := 17) (L' := [(0, .ref 0), (1, .int a1), (2, .int a2)]) (S' := [.ref 0]) (by decide +kernel) rfl ?_
      refine sm_getR 11 27 11 cls11 C (ltM (by decide +kernel : kdM 0 = 11) (by decide)) (by decide +kernel : kdM 0 = 11) (obM11 (by decide +kernel : kdM 0 = 11)) (by decide) (frM11_27 (by decide +kernel : kdM 0 = 11)) fl11_44 (by decide +kernel) ?_
      refine sm_seg C [(.iload_n 2, 0), (.aload_n 0, 0)] (pc' := 22) (L' := [(0, .ref 0), (1, .int a1), (2, .int a2)]) (S' := [.ref 0, .int a2, .ref 11]) (by decide +kernel) rfl ?_
      refine sm_getR 11 0 1 cls11 C (ltM (by decide +kernel : kdM 0 = 11) (by decide)) (by decide +kernel : kdM 0 = 11) (obM11 (by decide +kernel : kdM 0 = 11)) (by decide) (frM11_0 (by decide +kernel : kdM 0 = 11)) fl11_7 (by decide +kernel) ?_
      refine sm_seg C [(.sipush 546, 546), (.iload_n 2, 0), (.iadd, 0)] (pc' := 30) (L' := [(0, .ref 0), (1, .int a1), (2, .int a2)]) (S' := [.int (546 + a2), .ref 1, .int a2, .ref 11]) (by decide +kernel) rfl ?_
      refine sm_ald 2244 C (ltM (krM11_0 (by decide +kernel : kdM 0 = 11)) (by decide)) (krM11_0 (by decide +kernel : kdM 0 = 11)) (nrM11_0 (by decide +kernel : kdM 0 = 11)) (by decide +kernel) (fun v12 => ?_)
      refine sm_ast 8 C (ltM (krM11_27 (by decide +kernel : kdM 0 = 11)) (by decide)) (krM11_27 (by decide +kernel : kdM 0 = 11)) (nrM11_27 (by decide +kernel : kdM 0 = 11)) (by decide +kernel) (fun τ13 => ?_)
      refine sm_seg C [(.iinc 2 1, 1), (.goto (-24), 0)] (pc' := 11) (L' := [(2, .int (a2 + 1)), (0, .ref 0), (1, .int a1)]) (S' := []) (by decide +kernel) rfl ?_
      exact sm_sub [1, 2, 0] rfl (ih a1 (a2 + 1) τ13)
def X11_signs (F : Nat) (τ : Tau) : Option (Int32 × Tau) :=
  ald τ 1 2244 545 fun v1 => X11_signs_L11 F F v1 0 τ
set_option maxRecDepth 20000 in
set_option maxHeartbeats 4000000 in
theorem c_X11_signs (F : Nat) (τ : Tau) (r : Int32) (τ' : Tau) (h : X11_signs F τ = some (r, τ')) : MCi sysM yX11_signs cX11_signs 5 (some .int) 2 [.ref 0] τ r τ' :=
  mci_of (by decide +kernel) (Nat.le_of_ble_eq_true rfl) (fun K C hr => by
    show Sm K sysM 5 (Qi K sysM) (X11_signs F τ) 0 [(0, .ref 0)] [] τ
    unfold X11_signs
    refine sm_seg C [(.aload_n 0, 0)] (pc' := 1) (L' := [(0, .ref 0)]) (S' := [.ref 0]) (by decide +kernel) rfl ?_
    refine sm_getR 11 0 1 cls11 C (ltM (by decide +kernel : kdM 0 = 11) (by decide)) (by decide +kernel : kdM 0 = 11) (obM11 (by decide +kernel : kdM 0 = 11)) (by decide) (frM11_0 (by decide +kernel : kdM 0 = 11)) fl11_7 (by decide +kernel) ?_
    refine sm_seg C [(.sipush 545, 545)] (pc' := 7) (L' := [(0, .ref 0)]) (S' := [.int 545, .ref 1]) (by decide +kernel) rfl ?_
    refine sm_ald 2244 C (ltM (krM11_0 (by decide +kernel : kdM 0 = 11)) (by decide)) (krM11_0 (by decide +kernel : kdM 0 = 11)) (nrM11_0 (by decide +kernel : kdM 0 = 11)) (by decide +kernel) (fun v1 => ?_)
    refine sm_seg C [(.istore_n 1, 0), (.iconst 0, 0), (.istore_n 2, 0)] (pc' := 11) (L' := [(2, .int 0), (1, .int v1), (0, .ref 0)]) (S' := []) (by decide +kernel) rfl ?_
    exact sm_sub [2, 1, 0] rfl (s_X11_signs_L11 F C hr F v1 0 τ)) h
/-! BasketEnvoysModel.silence -/
def X11_silence_j81 (F : Nat) (self53 : Int32 → Int32 → Tau → Option (Int32 × Tau)) (a5 : Int32) (a6 : Int32) (z0 : Int32) (z1 : Int32) (τ : Tau) : Option (Int32 × Tau) :=
  ast τ 20 1024 z1 (vp_nar .boolean z0) fun τ13 => self53 a5 (a6 + 1) τ13
theorem s_X11_silence_j81 (F : Nat) {K : Ctx} (C : Cx K sysM RX11 cX11_silence 7 3) (hr : Rt K (some .int)) (self53 : Int32 → Int32 → Tau → Option (Int32 × Tau)) (ih53 : ∀ (a5 : Int32) (a6 : Int32) (τ : Tau), Sm K sysM 7 (Qi K sysM) (self53 a5 a6 τ) 53 [(0, .ref 0), (5, .int a5), (6, .int a6)] [] τ) (a5 : Int32) (a6 : Int32) (z0 : Int32) (z1 : Int32) (τ : Tau) : Sm K sysM 7 (Qi K sysM) (X11_silence_j81 F self53 a5 a6 z0 z1 τ) 81 [(0, .ref 0), (5, .int a5), (6, .int a6)] [.int z0, .int z1, .ref 20] τ := by
  unfold X11_silence_j81
  refine sm_astz 1024 C (ltM (krM11_36 (by decide +kernel : kdM 0 = 11)) (by decide)) (krM11_36 (by decide +kernel : kdM 0 = 11)) (nrM11_36 (by decide +kernel : kdM 0 = 11)) (by decide +kernel) (fun τ13 => ?_)
  refine sm_seg C [(.iinc 6 1, 1), (.goto (-32), 0)] (pc' := 53) (L' := [(6, .int (a6 + 1)), (0, .ref 0), (5, .int a5)]) (S' := []) (by decide +kernel) rfl ?_
  exact sm_sub [1, 2, 0] rfl (ih53 a5 (a6 + 1) τ13)
def X11_silence_L53 (F : Nat) : Nat → Int32 → Int32 → Tau → Option (Int32 × Tau)
  | 0, _, _, _ => none
  | n + 1, a5, a6, τ =>
    if a5 < a6 then (cal (X11_begins F a5 τ) fun r9 τ10 => some (r9, τ10)) else (cal (X11_begins F a6 τ) fun r11 τ12 => if r11 = (-1) then (X11_silence_j81 F (X11_silence_L53 F n) a5 a6 1 a6 τ12) else (X11_silence_j81 F (X11_silence_L53 F n) a5 a6 0 a6 τ12))
theorem s_X11_silence_L53 (F : Nat) {K : Ctx} (C : Cx K sysM RX11 cX11_silence 7 3) (hr : Rt K (some .int)) : ∀ (n : Nat) (a5 : Int32) (a6 : Int32) (τ : Tau), Sm K sysM 7 (Qi K sysM) (X11_silence_L53 F n a5 a6 τ) 53 [(0, .ref 0), (5, .int a5), (6, .int a6)] [] τ := by
  intro n
  induction n with
  | zero => intro a5 a6 τ; exact sm_none
  | succ n ih =>
    intro a5 a6 τ
    rw [X11_silence_L53]
    refine sm_seg C [(.iload 6, 0), (.iload 5, 0)] (pc' := 57) (L' := [(0, .ref 0), (5, .int a5), (6, .int a6)]) (S' := [.int a5, .int a6]) (by decide +kernel) rfl ?_
    refine sm_icmpgt 88 (off := 31) C (by decide +kernel) (by decide) (fun _ => ?_) (fun _ => ?_)
    · refine sm_seg C [(.aload_n 0, 0), (.iload 5, 0)] (pc' := 91) (L' := [(0, .ref 0), (5, .int a5), (6, .int a6)]) (S' := [.int a5, .ref 0]) (by decide +kernel) rfl ?_
      refine sm_vcal [.int a5] [] rfl C mw_X11_begins ml_11_467 rfl (ci := 11) rfl (ltM (by decide +kernel : kdM 0 = 11) (by decide)) (by decide +kernel : kdM 0 = 11) (by decide) ⟨by decide, by decide⟩ (Nat.le_of_ble_eq_true rfl) (by decide +kernel) (c_X11_begins F a5 τ) (fun r9 τ10 => ?_)
      exact sm_iret C hr rfl (by decide +kernel)
    · refine sm_seg C [(.aload_n 0, 0)] (pc' := 61) (L' := [(0, .ref 0), (5, .int a5), (6, .int a6)]) (S' := [.ref 0]) (by decide +kernel) rfl ?_
      refine sm_getR 11 36 20 cls11 C (ltM (by decide +kernel : kdM 0 = 11) (by decide)) (by decide +kernel : kdM 0 = 11) (obM11 (by decide +kernel : kdM 0 = 11)) (by decide) (frM11_36 (by decide +kernel : kdM 0 = 11)) fl11_72 (by decide +kernel) ?_
      refine sm_seg C [(.iload 6, 0), (.aload_n 0, 0), (.iload 6, 0)] (pc' := 69) (L' := [(0, .ref 0), (5, .int a5), (6, .int a6)]) (S' := [.int a6, .ref 0, .int a6, .ref 20]) (by decide +kernel) rfl ?_
      refine sm_vcal [.int a6] [.int a6, .ref 20] rfl C mw_X11_begins ml_11_467 rfl (ci := 11) rfl (ltM (by decide +kernel : kdM 0 = 11) (by decide)) (by decide +kernel : kdM 0 = 11) (by decide) ⟨by decide, by decide⟩ (Nat.le_of_ble_eq_true rfl) (by decide +kernel) (c_X11_begins F a6 τ) (fun r11 τ12 => ?_)
      refine sm_seg C [(.iconst (-1), (-1))] (pc' := 73) (L' := [(0, .ref 0), (5, .int a5), (6, .int a6)]) (S' := [.int (-1), .int r11, .int a6, .ref 20]) (by decide +kernel) rfl ?_
      refine sm_icmpne 80 (off := 7) C (by decide +kernel) (by decide) (fun _ => ?_) (fun _ => ?_)
      · refine sm_seg C [(.iconst 1, 1), (.goto 4, 0)] (pc' := 81) (L' := [(0, .ref 0), (5, .int a5), (6, .int a6)]) (S' := [.int 1, .int a6, .ref 20]) (by decide +kernel) rfl ?_
        exact sm_sub [0, 1, 2] rfl (s_X11_silence_j81 F C hr (X11_silence_L53 F n) ih a5 a6 1 a6 τ12)
      · refine sm_seg C [(.iconst 0, 0)] (pc' := 81) (L' := [(0, .ref 0), (5, .int a5), (6, .int a6)]) (S' := [.int 0, .int a6, .ref 20]) (by decide +kernel) rfl ?_
        exact sm_sub [0, 1, 2] rfl (s_X11_silence_j81 F C hr (X11_silence_L53 F n) ih a5 a6 0 a6 τ12)
def X11_silence_j45 (F : Nat) (z0 : Int32) (z1 : Int32) (z2 : Int32) (z3 : Int32) (τ : Tau) : Option (Int32 × Tau) :=
  cal (X11_lies F z3 z2 z1 z0 τ) fun r7 τ8 => X11_silence_L53 F F r7 0 τ8
theorem s_X11_silence_j45 (F : Nat) {K : Ctx} (C : Cx K sysM RX11 cX11_silence 7 3) (hr : Rt K (some .int)) (z0 : Int32) (z1 : Int32) (z2 : Int32) (z3 : Int32) (τ : Tau) : Sm K sysM 7 (Qi K sysM) (X11_silence_j45 F z0 z1 z2 z3 τ) 45 [(0, .ref 0)] [.int z0, .int z1, .int z2, .int z3] τ := by
  unfold X11_silence_j45
  refine sm_scal [.int z3, .int z2, .int z1, .int z0] [] rfl C mw_X11_lies ml_11_463 rfl ⟨by decide, by decide⟩ (Nat.le_of_ble_eq_true rfl) (by decide +kernel) (c_X11_lies F z3 z2 z1 z0 τ) (fun r7 τ8 => ?_)
  refine sm_seg C [(.istore 5, 0), (.iconst 0, 0), (.istore 6, 0)] (pc' := 53) (L' := [(6, .int 0), (5, .int r7), (0, .ref 0)]) (S' := []) (by decide +kernel) rfl ?_
  exact sm_sub [2, 1, 0] rfl (s_X11_silence_L53 F C hr F r7 0 τ8)
def X11_silence (F : Nat) (a1 : Int32) (a2 : Int32) (a3 : Int32) (a4 : Int32) (τ : Tau) : Option (Int32 × Tau) :=
  cal (X11_isIn F a1 0 7 τ) fun r1 τ2 => if r1 = 0 then (some ((-1), τ2)) else (cal (X11_isIn F a2 0 7 τ2) fun r3 τ4 => if r3 = 0 then (some ((-1), τ4)) else (cal (X11_isIn F a3 0 7 τ4) fun r5 τ6 => if r5 = 0 then (some ((-1), τ6)) else (if a4 = 0 then (X11_silence_j45 F 0 a3 a2 a1 τ6) else (X11_silence_j45 F 1 a3 a2 a1 τ6))))
set_option maxRecDepth 20000 in
set_option maxHeartbeats 4000000 in
theorem c_X11_silence (F : Nat) (a1 : Int32) (a2 : Int32) (a3 : Int32) (a4 : Int32) (τ : Tau) (r : Int32) (τ' : Tau) (h : X11_silence F a1 a2 a3 a4 τ = some (r, τ')) : MCi sysM yX11_silence cX11_silence 7 (some .int) 3 [.ref 0, .int a1, .int a2, .int a3, .int a4] τ r τ' :=
  mci_of (by decide +kernel) (Nat.le_of_ble_eq_true rfl) (fun K C hr => by
    show Sm K sysM 7 (Qi K sysM) (X11_silence F a1 a2 a3 a4 τ) 0 [(0, .ref 0), (1, .int a1), (2, .int a2), (3, .int a3), (4, .int a4)] [] τ
    unfold X11_silence
    refine sm_seg C [(.iload_n 1, 0), (.iconst 0, 0), (.bipush 7, 7)] (pc' := 4) (L' := [(0, .ref 0), (1, .int a1), (2, .int a2), (3, .int a3), (4, .int a4)]) (S' := [.int 7, .int 0, .int a1]) (by decide +kernel) rfl ?_
    refine sm_scal [.int a1, .int 0, .int 7] [] rfl C mw_X11_isIn ml_11_78 rfl ⟨by decide, by decide⟩ (Nat.le_of_ble_eq_true rfl) (by decide +kernel) (c_X11_isIn F a1 0 7 τ) (fun r1 τ2 => ?_)
    refine sm_ifeq 30 (off := 23) C (by decide +kernel) (by decide) (fun _ => ?_) (fun _ => ?_)
    · refine sm_seg C [(.iconst (-1), (-1))] (pc' := 31) (L' := [(0, .ref 0), (1, .int a1), (2, .int a2), (3, .int a3), (4, .int a4)]) (S' := [.int (-1)]) (by decide +kernel) rfl ?_
      exact sm_iret C hr rfl (by decide +kernel)
    · refine sm_seg C [(.iload_n 2, 0), (.iconst 0, 0), (.bipush 7, 7)] (pc' := 14) (L' := [(0, .ref 0), (1, .int a1), (2, .int a2), (3, .int a3), (4, .int a4)]) (S' := [.int 7, .int 0, .int a2]) (by decide +kernel) rfl ?_
      refine sm_scal [.int a2, .int 0, .int 7] [] rfl C mw_X11_isIn ml_11_78 rfl ⟨by decide, by decide⟩ (Nat.le_of_ble_eq_true rfl) (by decide +kernel) (c_X11_isIn F a2 0 7 τ2) (fun r3 τ4 => ?_)
      refine sm_ifeq 30 (off := 13) C (by decide +kernel) (by decide) (fun _ => ?_) (fun _ => ?_)
      · refine sm_seg C [(.iconst (-1), (-1))] (pc' := 31) (L' := [(0, .ref 0), (1, .int a1), (2, .int a2), (3, .int a3), (4, .int a4)]) (S' := [.int (-1)]) (by decide +kernel) rfl ?_
        exact sm_iret C hr rfl (by decide +kernel)
      · refine sm_seg C [(.iload_n 3, 0), (.iconst 0, 0), (.bipush 7, 7)] (pc' := 24) (L' := [(0, .ref 0), (1, .int a1), (2, .int a2), (3, .int a3), (4, .int a4)]) (S' := [.int 7, .int 0, .int a3]) (by decide +kernel) rfl ?_
        refine sm_scal [.int a3, .int 0, .int 7] [] rfl C mw_X11_isIn ml_11_78 rfl ⟨by decide, by decide⟩ (Nat.le_of_ble_eq_true rfl) (by decide +kernel) (c_X11_isIn F a3 0 7 τ4) (fun r5 τ6 => ?_)
        refine sm_ifne 32 (off := 5) C (by decide +kernel) (by decide) (fun _ => ?_) (fun _ => ?_)
        · refine sm_seg C [(.iconst (-1), (-1))] (pc' := 31) (L' := [(0, .ref 0), (1, .int a1), (2, .int a2), (3, .int a3), (4, .int a4)]) (S' := [.int (-1)]) (by decide +kernel) rfl ?_
          exact sm_iret C hr rfl (by decide +kernel)
        · refine sm_seg C [(.iload_n 1, 0), (.iload_n 2, 0), (.iload_n 3, 0), (.iload 4, 0)] (pc' := 37) (L' := [(0, .ref 0), (1, .int a1), (2, .int a2), (3, .int a3), (4, .int a4)]) (S' := [.int a4, .int a3, .int a2, .int a1]) (by decide +kernel) rfl ?_
          refine sm_ifeq 44 (off := 7) C (by decide +kernel) (by decide) (fun _ => ?_) (fun _ => ?_)
          · refine sm_seg C [(.iconst 0, 0)] (pc' := 45) (L' := [(0, .ref 0), (1, .int a1), (2, .int a2), (3, .int a3), (4, .int a4)]) (S' := [.int 0, .int a3, .int a2, .int a1]) (by decide +kernel) rfl ?_
            exact sm_sub [0] rfl (s_X11_silence_j45 F C hr 0 a3 a2 a1 τ6)
          · refine sm_seg C [(.iconst 1, 1), (.goto 4, 0)] (pc' := 45) (L' := [(0, .ref 0), (1, .int a1), (2, .int a2), (3, .int a3), (4, .int a4)]) (S' := [.int 1, .int a3, .int a2, .int a1]) (by decide +kernel) rfl ?_
            exact sm_sub [0] rfl (s_X11_silence_j45 F C hr 1 a3 a2 a1 τ6)) h
/-! BasketEnvoysModel.stand -/
def X11_stand_j76 (F : Nat) (self48 : Int32 → Int32 → Int32 → Tau → Option (Int32 × Tau)) (a1 : Int32) (a5 : Int32) (z0 : Int32) (τ : Tau) : Option (Int32 × Tau) :=
  self48 a1 z0 (a5 + 1) τ
theorem s_X11_stand_j76 (F : Nat) {K : Ctx} (C : Cx K sysM RX11 cX11_stand 6 2) (hr : Rt K (some .int)) (self48 : Int32 → Int32 → Int32 → Tau → Option (Int32 × Tau)) (ih48 : ∀ (a1 : Int32) (a4 : Int32) (a5 : Int32) (τ : Tau), Sm K sysM 6 (Qi K sysM) (self48 a1 a4 a5 τ) 48 [(1, .int a1), (4, .int a4), (5, .int a5)] [] τ) (a1 : Int32) (a5 : Int32) (z0 : Int32) (τ : Tau) : Sm K sysM 6 (Qi K sysM) (X11_stand_j76 F self48 a1 a5 z0 τ) 76 [(1, .int a1), (5, .int a5)] [.int z0] τ := by
  unfold X11_stand_j76
  refine sm_seg C [(.istore 4, 0), (.iinc 5 1, 1), (.goto (-33), 0)] (pc' := 48) (L' := [(5, .int (a5 + 1)), (4, .int z0), (1, .int a1)]) (S' := []) (by decide +kernel) rfl ?_
  exact sm_sub [2, 1, 0] rfl (ih48 a1 z0 (a5 + 1) τ)
def X11_stand_L48 (F : Nat) : Nat → Int32 → Int32 → Int32 → Tau → Option (Int32 × Tau)
  | 0, _, _, _, _ => none
  | n + 1, a1, a4, a5, τ =>
    if a1 ≤ a5 then (some (a4, τ)) else (cal (X11_luck F a5 a1 τ) fun r5 τ6 => cal (X11_luck F a4 a1 τ6) fun r7 τ8 => if r5 ≤ r7 then (X11_stand_j76 F (X11_stand_L48 F n) a1 a5 a4 τ8) else (X11_stand_j76 F (X11_stand_L48 F n) a1 a5 a5 τ8))
theorem s_X11_stand_L48 (F : Nat) {K : Ctx} (C : Cx K sysM RX11 cX11_stand 6 2) (hr : Rt K (some .int)) : ∀ (n : Nat) (a1 : Int32) (a4 : Int32) (a5 : Int32) (τ : Tau), Sm K sysM 6 (Qi K sysM) (X11_stand_L48 F n a1 a4 a5 τ) 48 [(1, .int a1), (4, .int a4), (5, .int a5)] [] τ := by
  intro n
  induction n with
  | zero => intro a1 a4 a5 τ; exact sm_none
  | succ n ih =>
    intro a1 a4 a5 τ
    rw [X11_stand_L48]
    refine sm_seg C [(.iload 5, 0), (.iload_n 1, 0)] (pc' := 51) (L' := [(1, .int a1), (4, .int a4), (5, .int a5)]) (S' := [.int a1, .int a5]) (by decide +kernel) rfl ?_
    refine sm_icmpge 84 (off := 33) C (by decide +kernel) (by decide) (fun _ => ?_) (fun _ => ?_)
    · refine sm_seg C [(.iload 4, 0)] (pc' := 86) (L' := [(1, .int a1), (4, .int a4), (5, .int a5)]) (S' := [.int a4]) (by decide +kernel) rfl ?_
      exact sm_iret C hr rfl (by decide +kernel)
    · refine sm_seg C [(.iload 5, 0), (.iload_n 1, 0)] (pc' := 57) (L' := [(1, .int a1), (4, .int a4), (5, .int a5)]) (S' := [.int a1, .int a5]) (by decide +kernel) rfl ?_
      refine sm_scal [.int a5, .int a1] [] rfl C mw_X11_luck ml_11_427 rfl ⟨by decide, by decide⟩ (Nat.le_of_ble_eq_true rfl) (by decide +kernel) (c_X11_luck F a5 a1 τ) (fun r5 τ6 => ?_)
      refine sm_seg C [(.iload 4, 0), (.iload_n 1, 0)] (pc' := 63) (L' := [(1, .int a1), (4, .int a4), (5, .int a5)]) (S' := [.int a1, .int a4, .int r5]) (by decide +kernel) rfl ?_
      refine sm_scal [.int a4, .int a1] [.int r5] rfl C mw_X11_luck ml_11_427 rfl ⟨by decide, by decide⟩ (Nat.le_of_ble_eq_true rfl) (by decide +kernel) (c_X11_luck F a4 a1 τ6) (fun r7 τ8 => ?_)
      refine sm_icmple 74 (off := 8) C (by decide +kernel) (by decide) (fun _ => ?_) (fun _ => ?_)
      · refine sm_seg C [(.iload 4, 0)] (pc' := 76) (L' := [(1, .int a1), (4, .int a4), (5, .int a5)]) (S' := [.int a4]) (by decide +kernel) rfl ?_
        exact sm_sub [0, 2] rfl (s_X11_stand_j76 F C hr (X11_stand_L48 F n) ih a1 a5 a4 τ8)
      · refine sm_seg C [(.iload 5, 0), (.goto 5, 0)] (pc' := 76) (L' := [(1, .int a1), (4, .int a4), (5, .int a5)]) (S' := [.int a5]) (by decide +kernel) rfl ?_
        exact sm_sub [0, 2] rfl (s_X11_stand_j76 F C hr (X11_stand_L48 F n) ih a1 a5 a5 τ8)
def X11_stand_j37 (F : Nat) (a1 : Int32) (a2 : Int32) (a3 : Int32) (τ : Tau) : Option (Int32 × Tau) :=
  if a3 = 2 then (X11_stand_L48 F F a1 0 1 τ) else (cal (X11_luck F a2 a1 τ) fun r9 τ10 => cal (X11_common F r9 (a1 * 27720) τ10) fun r11 τ12 => if a3 = 0 then (cal (X11_luck F a2 a1 τ12) fun r13 τ14 => if r11 = 0 then none else (some ((r13 / r11), τ14))) else (if r11 = 0 then none else (some (((a1 * 27720) / r11), τ12))))
theorem s_X11_stand_j37 (F : Nat) {K : Ctx} (C : Cx K sysM RX11 cX11_stand 6 2) (hr : Rt K (some .int)) (a1 : Int32) (a2 : Int32) (a3 : Int32) (τ : Tau) : Sm K sysM 6 (Qi K sysM) (X11_stand_j37 F a1 a2 a3 τ) 37 [(1, .int a1), (2, .int a2), (3, .int a3)] [] τ := by
  unfold X11_stand_j37
  refine sm_seg C [(.iload_n 3, 0), (.iconst 2, 2)] (pc' := 39) (L' := [(1, .int a1), (2, .int a2), (3, .int a3)]) (S' := [.int 2, .int a3]) (by decide +kernel) rfl ?_
  refine sm_icmpne 87 (off := 48) C (by decide +kernel) (by decide) (fun _ => ?_) (fun _ => ?_)
  · refine sm_seg C [(.iconst 0, 0), (.istore 4, 0), (.iconst 1, 1), (.istore 5, 0)] (pc' := 48) (L' := [(5, .int 1), (4, .int 0), (1, .int a1), (2, .int a2), (3, .int a3)]) (S' := []) (by decide +kernel) rfl ?_
    exact sm_sub [2, 1, 0] rfl (s_X11_stand_L48 F C hr F a1 0 1 τ)
  · refine sm_seg C [(.iload_n 2, 0), (.iload_n 1, 0)] (pc' := 89) (L' := [(1, .int a1), (2, .int a2), (3, .int a3)]) (S' := [.int a1, .int a2]) (by decide +kernel) rfl ?_
    refine sm_scal [.int a2, .int a1] [] rfl C mw_X11_luck ml_11_427 rfl ⟨by decide, by decide⟩ (Nat.le_of_ble_eq_true rfl) (by decide +kernel) (c_X11_luck F a2 a1 τ) (fun r9 τ10 => ?_)
    refine sm_seg C [(.iload_n 1, 0), (.sipush 27720, 27720), (.imul, 0)] (pc' := 97) (L' := [(1, .int a1), (2, .int a2), (3, .int a3)]) (S' := [.int (a1 * 27720), .int r9]) (by decide +kernel) rfl ?_
    refine sm_scal [.int r9, .int (a1 * 27720)] [] rfl C mw_X11_common ml_11_430 rfl ⟨by decide, by decide⟩ (Nat.le_of_ble_eq_true rfl) (by decide +kernel) (c_X11_common F r9 (a1 * 27720) τ10) (fun r11 τ12 => ?_)
    refine sm_seg C [(.istore 4, 0), (.iload_n 3, 0)] (pc' := 103) (L' := [(4, .int r11), (1, .int a1), (2, .int a2), (3, .int a3)]) (S' := [.int a3]) (by decide +kernel) rfl ?_
    refine sm_ifne 117 (off := 14) C (by decide +kernel) (by decide) (fun _ => ?_) (fun _ => ?_)
    · refine sm_seg C [(.iload_n 2, 0), (.iload_n 1, 0)] (pc' := 108) (L' := [(4, .int r11), (1, .int a1), (2, .int a2), (3, .int a3)]) (S' := [.int a1, .int a2]) (by decide +kernel) rfl ?_
      refine sm_scal [.int a2, .int a1] [] rfl C mw_X11_luck ml_11_427 rfl ⟨by decide, by decide⟩ (Nat.le_of_ble_eq_true rfl) (by decide +kernel) (c_X11_luck F a2 a1 τ12) (fun r13 τ14 => ?_)
      refine sm_seg C [(.iload 4, 0)] (pc' := 113) (L' := [(4, .int r11), (1, .int a1), (2, .int a2), (3, .int a3)]) (S' := [.int r11, .int r13]) (by decide +kernel) rfl ?_
      refine sm_ite (fun _ => sm_none) (fun hz => ?_)
      refine sm_idiv C (by decide +kernel) hz ?_
      refine sm_seg C [(.goto 11, 0)] (pc' := 125) (L' := [(4, .int r11), (1, .int a1), (2, .int a2), (3, .int a3)]) (S' := [.int (r13 / r11)]) (by decide +kernel) rfl ?_
      exact sm_iret C hr rfl (by decide +kernel)
    · refine sm_seg C [(.iload_n 1, 0), (.sipush 27720, 27720), (.imul, 0), (.iload 4, 0)] (pc' := 124) (L' := [(4, .int r11), (1, .int a1), (2, .int a2), (3, .int a3)]) (S' := [.int r11, .int (a1 * 27720)]) (by decide +kernel) rfl ?_
      refine sm_ite (fun _ => sm_none) (fun hz => ?_)
      refine sm_idiv C (by decide +kernel) hz ?_
      exact sm_iret C hr rfl (by decide +kernel)
def X11_stand (F : Nat) (a1 : Int32) (a2 : Int32) (a3 : Int32) (τ : Tau) : Option (Int32 × Tau) :=
  cal (X11_isIn F a1 1 12 τ) fun r1 τ2 => if r1 = 0 then (some ((-1), τ2)) else (cal (X11_isIn F a3 0 2 τ2) fun r3 τ4 => if r3 = 0 then (some ((-1), τ4)) else (if 2 ≤ a3 then (X11_stand_j37 F a1 a2 a3 τ4) else (cal (X11_isIn F a2 0 (a1 - 1) τ4) fun r15 τ16 => if r15 = 0 then (some ((-1), τ16)) else (X11_stand_j37 F a1 a2 a3 τ16))))
set_option maxRecDepth 20000 in
set_option maxHeartbeats 4000000 in
theorem c_X11_stand (F : Nat) (a1 : Int32) (a2 : Int32) (a3 : Int32) (τ : Tau) (r : Int32) (τ' : Tau) (h : X11_stand F a1 a2 a3 τ = some (r, τ')) : MCi sysM yX11_stand cX11_stand 6 (some .int) 2 [.ref 0, .int a1, .int a2, .int a3] τ r τ' :=
  mci_of (by decide +kernel) (Nat.le_of_ble_eq_true rfl) (fun K C hr => by
    show Sm K sysM 6 (Qi K sysM) (X11_stand F a1 a2 a3 τ) 0 [(0, .ref 0), (1, .int a1), (2, .int a2), (3, .int a3)] [] τ
    unfold X11_stand
    refine sm_seg C [(.iload_n 1, 0), (.iconst 1, 1), (.bipush 12, 12)] (pc' := 4) (L' := [(0, .ref 0), (1, .int a1), (2, .int a2), (3, .int a3)]) (S' := [.int 12, .int 1, .int a1]) (by decide +kernel) rfl ?_
    refine sm_scal [.int a1, .int 1, .int 12] [] rfl C mw_X11_isIn ml_11_78 rfl ⟨by decide, by decide⟩ (Nat.le_of_ble_eq_true rfl) (by decide +kernel) (c_X11_isIn F a1 1 12 τ) (fun r1 τ2 => ?_)
    refine sm_ifeq 35 (off := 28) C (by decide +kernel) (by decide) (fun _ => ?_) (fun _ => ?_)
    · refine sm_seg C [(.iconst (-1), (-1))] (pc' := 36) (L' := [(0, .ref 0), (1, .int a1), (2, .int a2), (3, .int a3)]) (S' := [.int (-1)]) (by decide +kernel) rfl ?_
      exact sm_iret C hr rfl (by decide +kernel)
    · refine sm_seg C [(.iload_n 3, 0), (.iconst 0, 0), (.iconst 2, 2)] (pc' := 13) (L' := [(0, .ref 0), (1, .int a1), (2, .int a2), (3, .int a3)]) (S' := [.int 2, .int 0, .int a3]) (by decide +kernel) rfl ?_
      refine sm_scal [.int a3, .int 0, .int 2] [] rfl C mw_X11_isIn ml_11_78 rfl ⟨by decide, by decide⟩ (Nat.le_of_ble_eq_true rfl) (by decide +kernel) (c_X11_isIn F a3 0 2 τ2) (fun r3 τ4 => ?_)
      refine sm_ifeq 35 (off := 19) C (by decide +kernel) (by decide) (fun _ => ?_) (fun _ => ?_)
      · refine sm_seg C [(.iconst (-1), (-1))] (pc' := 36) (L' := [(0, .ref 0), (1, .int a1), (2, .int a2), (3, .int a3)]) (S' := [.int (-1)]) (by decide +kernel) rfl ?_
        exact sm_iret C hr rfl (by decide +kernel)
      · refine sm_seg C [(.iload_n 3, 0), (.iconst 2, 2)] (pc' := 21) (L' := [(0, .ref 0), (1, .int a1), (2, .int a2), (3, .int a3)]) (S' := [.int 2, .int a3]) (by decide +kernel) rfl ?_
        refine sm_icmpge 37 (off := 16) C (by decide +kernel) (by decide) (fun _ => ?_) (fun _ => ?_)
        · exact sm_sub [1, 2, 3] rfl (s_X11_stand_j37 F C hr a1 a2 a3 τ4)
        · refine sm_seg C [(.iload_n 2, 0), (.iconst 0, 0), (.iload_n 1, 0), (.iconst 1, 1), (.isub, 0)] (pc' := 29) (L' := [(0, .ref 0), (1, .int a1), (2, .int a2), (3, .int a3)]) (S' := [.int (a1 - 1), .int 0, .int a2]) (by decide +kernel) rfl ?_
          refine sm_scal [.int a2, .int 0, .int (a1 - 1)] [] rfl C mw_X11_isIn ml_11_78 rfl ⟨by decide, by decide⟩ (Nat.le_of_ble_eq_true rfl) (by decide +kernel) (c_X11_isIn F a2 0 (a1 - 1) τ4) (fun r15 τ16 => ?_)
          refine sm_ifne 37 (off := 5) C (by decide +kernel) (by decide) (fun _ => ?_) (fun _ => ?_)
          · refine sm_seg C [(.iconst (-1), (-1))] (pc' := 36) (L' := [(0, .ref 0), (1, .int a1), (2, .int a2), (3, .int a3)]) (S' := [.int (-1)]) (by decide +kernel) rfl ?_
            exact sm_iret C hr rfl (by decide +kernel)
          · exact sm_sub [1, 2, 3] rfl (s_X11_stand_j37 F C hr a1 a2 a3 τ16)) h
/-! BasketEnvoysModel.state -/
def X11_state (F : Nat) (a1 : Int32) (τ : Tau) : Option (Int32 × Tau) :=
  ald τ 1 2244 3 fun v1 => ast τ 1 2244 3 a1 fun τ2 => cal (X11_forgets F τ2) fun r3 τ4 => some (v1, τ4)
set_option maxRecDepth 20000 in
set_option maxHeartbeats 4000000 in
theorem c_X11_state (F : Nat) (a1 : Int32) (τ : Tau) (r : Int32) (τ' : Tau) (h : X11_state F a1 τ = some (r, τ')) : MCi sysM yX11_state cX11_state 3 (some .int) 2 [.ref 0, .int a1] τ r τ' :=
  mci_of (by decide +kernel) (Nat.le_of_ble_eq_true rfl) (fun K C hr => by
    show Sm K sysM 3 (Qi K sysM) (X11_state F a1 τ) 0 [(0, .ref 0), (1, .int a1)] [] τ
    unfold X11_state
    refine sm_seg C [(.aload_n 0, 0)] (pc' := 1) (L' := [(0, .ref 0), (1, .int a1)]) (S' := [.ref 0]) (by decide +kernel) rfl ?_
    refine sm_getR 11 0 1 cls11 C (ltM (by decide +kernel : kdM 0 = 11) (by decide)) (by decide +kernel : kdM 0 = 11) (obM11 (by decide +kernel : kdM 0 = 11)) (by decide) (frM11_0 (by decide +kernel : kdM 0 = 11)) fl11_7 (by decide +kernel) ?_
    refine sm_seg C [(.iconst 3, 3)] (pc' := 5) (L' := [(0, .ref 0), (1, .int a1)]) (S' := [.int 3, .ref 1]) (by decide +kernel) rfl ?_
    refine sm_ald 2244 C (ltM (krM11_0 (by decide +kernel : kdM 0 = 11)) (by decide)) (krM11_0 (by decide +kernel : kdM 0 = 11)) (nrM11_0 (by decide +kernel : kdM 0 = 11)) (by decide +kernel) (fun v1 => ?_)
    refine sm_seg C [(.istore_n 2, 0), (.aload_n 0, 0)] (pc' := 8) (L' := [(2, .int v1), (0, .ref 0), (1, .int a1)]) (S' := [.ref 0]) (by decide +kernel) rfl ?_
    refine sm_getR 11 0 1 cls11 C (ltM (by decide +kernel : kdM 0 = 11) (by decide)) (by decide +kernel : kdM 0 = 11) (obM11 (by decide +kernel : kdM 0 = 11)) (by decide) (frM11_0 (by decide +kernel : kdM 0 = 11)) fl11_7 (by decide +kernel) ?_
    refine sm_seg C [(.iconst 3, 3), (.iload_n 1, 0)] (pc' := 13) (L' := [(2, .int v1), (0, .ref 0), (1, .int a1)]) (S' := [.int a1, .int 3, .ref 1]) (by decide +kernel) rfl ?_
    refine sm_ast 2244 C (ltM (krM11_0 (by decide +kernel : kdM 0 = 11)) (by decide)) (krM11_0 (by decide +kernel : kdM 0 = 11)) (nrM11_0 (by decide +kernel : kdM 0 = 11)) (by decide +kernel) (fun τ2 => ?_)
    refine sm_seg C [(.aload_n 0, 0)] (pc' := 15) (L' := [(2, .int v1), (0, .ref 0), (1, .int a1)]) (S' := [.ref 0]) (by decide +kernel) rfl ?_
    refine sm_vcalv [] [] rfl C mw_X11_forgets ml_11_85 rfl (ci := 11) rfl (ltM (by decide +kernel : kdM 0 = 11) (by decide)) (by decide +kernel : kdM 0 = 11) (by decide) ⟨by decide, by decide⟩ (Nat.le_of_ble_eq_true rfl) (by decide +kernel) (c_X11_forgets F τ2) (fun r3 τ4 => ?_)
    refine sm_seg C [(.iload_n 2, 0)] (pc' := 19) (L' := [(2, .int v1), (0, .ref 0), (1, .int a1)]) (S' := [.int v1]) (by decide +kernel) rfl ?_
    exact sm_iret C hr rfl (by decide +kernel)) h
/-! BasketEnvoysModel.table -/
def X11_table (F : Nat) (a1 : Int32) (a2 : Int32) (a3 : Int32) (τ : Tau) : Option (Int32 × Tau) :=
  cal (X11_isIn F a1 0 1 τ) fun r1 τ2 => if r1 = 0 then (some (0, τ2)) else (cal (X11_isIn F a2 0 8 τ2) fun r3 τ4 => if r3 = 0 then (some (0, τ4)) else (cal (X11_isIn F a3 (-9) 9 τ4) fun r5 τ6 => if r5 = 0 then (some (0, τ6)) else (ast τ6 1 2244 ((554 + (9 * a1)) + a2) a3 fun τ7 => some (1, τ7))))
set_option maxRecDepth 20000 in
set_option maxHeartbeats 4000000 in
theorem c_X11_table (F : Nat) (a1 : Int32) (a2 : Int32) (a3 : Int32) (τ : Tau) (r : Int32) (τ' : Tau) (h : X11_table F a1 a2 a3 τ = some (r, τ')) : MCi sysM yX11_table cX11_table 4 (some .boolean) 2 [.ref 0, .int a1, .int a2, .int a3] τ r τ' :=
  mci_of (by decide +kernel) (Nat.le_of_ble_eq_true rfl) (fun K C hr => by
    show Sm K sysM 4 (Qi K sysM) (X11_table F a1 a2 a3 τ) 0 [(0, .ref 0), (1, .int a1), (2, .int a2), (3, .int a3)] [] τ
    unfold X11_table
    refine sm_seg C [(.iload_n 1, 0), (.iconst 0, 0), (.iconst 1, 1)] (pc' := 3) (L' := [(0, .ref 0), (1, .int a1), (2, .int a2), (3, .int a3)]) (S' := [.int 1, .int 0, .int a1]) (by decide +kernel) rfl ?_
    refine sm_scal [.int a1, .int 0, .int 1] [] rfl C mw_X11_isIn ml_11_78 rfl ⟨by decide, by decide⟩ (Nat.le_of_ble_eq_true rfl) (by decide +kernel) (c_X11_isIn F a1 0 1 τ) (fun r1 τ2 => ?_)
    refine sm_ifeq 30 (off := 24) C (by decide +kernel) (by decide) (fun _ => ?_) (fun _ => ?_)
    · refine sm_seg C [(.iconst 0, 0)] (pc' := 31) (L' := [(0, .ref 0), (1, .int a1), (2, .int a2), (3, .int a3)]) (S' := [.int 0]) (by decide +kernel) rfl ?_
      exact sm_iret C hr rfl (by decide +kernel)
    · refine sm_seg C [(.iload_n 2, 0), (.iconst 0, 0), (.bipush 8, 8)] (pc' := 13) (L' := [(0, .ref 0), (1, .int a1), (2, .int a2), (3, .int a3)]) (S' := [.int 8, .int 0, .int a2]) (by decide +kernel) rfl ?_
      refine sm_scal [.int a2, .int 0, .int 8] [] rfl C mw_X11_isIn ml_11_78 rfl ⟨by decide, by decide⟩ (Nat.le_of_ble_eq_true rfl) (by decide +kernel) (c_X11_isIn F a2 0 8 τ2) (fun r3 τ4 => ?_)
      refine sm_ifeq 30 (off := 14) C (by decide +kernel) (by decide) (fun _ => ?_) (fun _ => ?_)
      · refine sm_seg C [(.iconst 0, 0)] (pc' := 31) (L' := [(0, .ref 0), (1, .int a1), (2, .int a2), (3, .int a3)]) (S' := [.int 0]) (by decide +kernel) rfl ?_
        exact sm_iret C hr rfl (by decide +kernel)
      · refine sm_seg C [(.iload_n 3, 0), (.bipush (-9), (-9)), (.bipush 9, 9)] (pc' := 24) (L' := [(0, .ref 0), (1, .int a1), (2, .int a2), (3, .int a3)]) (S' := [.int 9, .int (-9), .int a3]) (by decide +kernel) rfl ?_
        refine sm_scal [.int a3, .int (-9), .int 9] [] rfl C mw_X11_isIn ml_11_78 rfl ⟨by decide, by decide⟩ (Nat.le_of_ble_eq_true rfl) (by decide +kernel) (c_X11_isIn F a3 (-9) 9 τ4) (fun r5 τ6 => ?_)
        refine sm_ifne 32 (off := 5) C (by decide +kernel) (by decide) (fun _ => ?_) (fun _ => ?_)
        · refine sm_seg C [(.iconst 0, 0)] (pc' := 31) (L' := [(0, .ref 0), (1, .int a1), (2, .int a2), (3, .int a3)]) (S' := [.int 0]) (by decide +kernel) rfl ?_
          exact sm_iret C hr rfl (by decide +kernel)
        · refine sm_seg C [(.aload_n 0, 0)] (pc' := 33) (L' := [(0, .ref 0), (1, .int a1), (2, .int a2), (3, .int a3)]) (S' := [.ref 0]) (by decide +kernel) rfl ?_
          refine sm_getR 11 0 1 cls11 C (ltM (by decide +kernel : kdM 0 = 11) (by decide)) (by decide +kernel : kdM 0 = 11) (obM11 (by decide +kernel : kdM 0 = 11)) (by decide) (frM11_0 (by decide +kernel : kdM 0 = 11)) fl11_7 (by decide +kernel) ?_
          refine sm_seg C [(.sipush 554, 554), (.bipush 9, 9), (.iload_n 1, 0), (.imul, 0), (.iadd, 0), (.iload_n 2, 0), (.iadd, 0), (.iload_n 3, 0)] (pc' := 47) (L' := [(0, .ref 0), (1, .int a1), (2, .int a2), (3, .int a3)]) (S' := [.int a3, .int ((554 + (9 * a1)) + a2), .ref 1]) (by decide +kernel) rfl ?_
          refine sm_ast 2244 C (ltM (krM11_0 (by decide +kernel : kdM 0 = 11)) (by decide)) (krM11_0 (by decide +kernel : kdM 0 = 11)) (nrM11_0 (by decide +kernel : kdM 0 = 11)) (by decide +kernel) (fun τ7 => ?_)
          refine sm_seg C [(.iconst 1, 1)] (pc' := 49) (L' := [(0, .ref 0), (1, .int a1), (2, .int a2), (3, .int a3)]) (S' := [.int 1]) (by decide +kernel) rfl ?_
          exact sm_iret C hr rfl (by decide +kernel)) h
/-! BasketEnvoysModel.tables -/
def X11_tables_j76 (F : Nat) (self47 : Int32 → Int32 → Int32 → Int32 → Tau → Option (Int32 × Tau)) (a1 : Int32) (a2 : Int32) (a3 : Int32) (a4 : Int32) (τ : Tau) : Option (Int32 × Tau) :=
  self47 a1 a2 a3 (a4 + (-1)) τ
theorem s_X11_tables_j76 (F : Nat) {K : Ctx} (C : Cx K sysM RX11 cX11_tables 5 3) (hr : Rt K (some .int)) (self47 : Int32 → Int32 → Int32 → Int32 → Tau → Option (Int32 × Tau)) (ih47 : ∀ (a1 : Int32) (a2 : Int32) (a3 : Int32) (a4 : Int32) (τ : Tau), Sm K sysM 5 (Qi K sysM) (self47 a1 a2 a3 a4 τ) 47 [(0, .ref 0), (1, .int a1), (2, .int a2), (3, .int a3), (4, .int a4)] [] τ) (a1 : Int32) (a2 : Int32) (a3 : Int32) (a4 : Int32) (τ : Tau) : Sm K sysM 5 (Qi K sysM) (X11_tables_j76 F self47 a1 a2 a3 a4 τ) 76 [(0, .ref 0), (1, .int a1), (2, .int a2), (3, .int a3), (4, .int a4)] [] τ := by
  unfold X11_tables_j76
  refine sm_seg C [(.iinc 4 (-1), (-1)), (.goto (-32), 0)] (pc' := 47) (L' := [(4, .int (a4 + (-1))), (0, .ref 0), (1, .int a1), (2, .int a2), (3, .int a3)]) (S' := []) (by decide +kernel) rfl ?_
  exact sm_sub [1, 2, 3, 4, 0] rfl (ih47 a1 a2 a3 (a4 + (-1)) τ)
def X11_tables_L47 (F : Nat) : Nat → Int32 → Int32 → Int32 → Int32 → Tau → Option (Int32 × Tau)
  | 0, _, _, _, _, _ => none
  | n + 1, a1, a2, a3, a4, τ =>
    if a4 < 0 then (if a1 = 0 then (some (a2, τ)) else (some (a3, τ))) else (cal (X11_rests F (a4 / 3) (rmd a4 3) τ) fun r13 τ14 => if r13 = 0 then (X11_tables_j76 F (X11_tables_L47 F n) a1 a2 a3 a4 τ14) else (X11_tables_j76 F (X11_tables_L47 F n) a1 (a2 + 1) a4 a4 τ14))
theorem s_X11_tables_L47 (F : Nat) {K : Ctx} (C : Cx K sysM RX11 cX11_tables 5 3) (hr : Rt K (some .int)) : ∀ (n : Nat) (a1 : Int32) (a2 : Int32) (a3 : Int32) (a4 : Int32) (τ : Tau), Sm K sysM 5 (Qi K sysM) (X11_tables_L47 F n a1 a2 a3 a4 τ) 47 [(0, .ref 0), (1, .int a1), (2, .int a2), (3, .int a3), (4, .int a4)] [] τ := by
  intro n
  induction n with
  | zero => intro a1 a2 a3 a4 τ; exact sm_none
  | succ n ih =>
    intro a1 a2 a3 a4 τ
    rw [X11_tables_L47]
    refine sm_seg C [(.iload 4, 0)] (pc' := 49) (L' := [(0, .ref 0), (1, .int a1), (2, .int a2), (3, .int a3), (4, .int a4)]) (S' := [.int a4]) (by decide +kernel) rfl ?_
    refine sm_iflt 82 (off := 33) C (by decide +kernel) (by decide) (fun _ => ?_) (fun _ => ?_)
    · refine sm_seg C [(.iload_n 1, 0)] (pc' := 83) (L' := [(0, .ref 0), (1, .int a1), (2, .int a2), (3, .int a3), (4, .int a4)]) (S' := [.int a1]) (by decide +kernel) rfl ?_
      refine sm_ifne 90 (off := 7) C (by decide +kernel) (by decide) (fun _ => ?_) (fun _ => ?_)
      · refine sm_seg C [(.iload_n 2, 0), (.goto 4, 0)] (pc' := 91) (L' := [(0, .ref 0), (1, .int a1), (2, .int a2), (3, .int a3), (4, .int a4)]) (S' := [.int a2]) (by decide +kernel) rfl ?_
        exact sm_iret C hr rfl (by decide +kernel)
      · refine sm_seg C [(.iload_n 3, 0)] (pc' := 91) (L' := [(0, .ref 0), (1, .int a1), (2, .int a2), (3, .int a3), (4, .int a4)]) (S' := [.int a3]) (by decide +kernel) rfl ?_
        exact sm_iret C hr rfl (by decide +kernel)
    · refine sm_seg C [(.aload_n 0, 0), (.iload 4, 0), (.iconst 3, 3)] (pc' := 56) (L' := [(0, .ref 0), (1, .int a1), (2, .int a2), (3, .int a3), (4, .int a4)]) (S' := [.int 3, .int a4, .ref 0]) (by decide +kernel) rfl ?_
      refine sm_idiv C (by decide +kernel) (by decide) ?_
      refine sm_seg C [(.iload 4, 0), (.iconst 3, 3)] (pc' := 60) (L' := [(0, .ref 0), (1, .int a1), (2, .int a2), (3, .int a3), (4, .int a4)]) (S' := [.int 3, .int a4, .int (a4 / 3), .ref 0]) (by decide +kernel) rfl ?_
      refine sm_irem C (by decide +kernel) (by decide) ?_
      refine sm_vcal [.int (a4 / 3), .int (rmd a4 3)] [] rfl C mw_X11_rests ml_11_424 rfl (ci := 11) rfl (ltM (by decide +kernel : kdM 0 = 11) (by decide)) (by decide +kernel : kdM 0 = 11) (by decide) ⟨by decide, by decide⟩ (Nat.le_of_ble_eq_true rfl) (by decide +kernel) (c_X11_rests F (a4 / 3) (rmd a4 3) τ) (fun r13 τ14 => ?_)
      refine sm_ifne 70 (off := 6) C (by decide +kernel) (by decide) (fun _ => ?_) (fun _ => ?_)
      · refine sm_seg C [(.goto 9, 0)] (pc' := 76) (L' := [(0, .ref 0), (1, .int a1), (2, .int a2), (3, .int a3), (4, .int a4)]) (S' := []) (by decide +kernel) rfl ?_
        exact sm_sub [0, 1, 2, 3, 4] rfl (s_X11_tables_j76 F C hr (X11_tables_L47 F n) ih a1 a2 a3 a4 τ14)
      · refine sm_seg C [(.iinc 2 1, 1), (.iload 4, 0), (.istore_n 3, 0)] (pc' := 76) (L' := [(3, .int a4), (2, .int (a2 + 1)), (0, .ref 0), (1, .int a1), (4, .int a4)]) (S' := []) (by decide +kernel) rfl ?_
        exact sm_sub [2, 3, 1, 0, 4] rfl (s_X11_tables_j76 F C hr (X11_tables_L47 F n) ih a1 (a2 + 1) a4 a4 τ14)
def X11_tables (F : Nat) (a1 : Int32) (τ : Tau) : Option (Int32 × Tau) :=
  cal (X11_isIn F a1 0 2 τ) fun r1 τ2 => if r1 = 0 then (some ((-100), τ2)) else (if a1 = 2 then (cal (X11_led F 0 τ2) fun r3 τ4 => cal (X11_led F 1 τ4) fun r5 τ6 => cal (X11_led F 2 τ6) fun r7 τ8 => cal (X11_greater F r5 r7 τ8) fun r9 τ10 => cal (X11_greater F r3 r9 τ10) fun r11 τ12 => some (r11, τ12)) else (X11_tables_L47 F F a1 0 (-1) 8 τ2))
set_option maxRecDepth 20000 in
set_option maxHeartbeats 4000000 in
theorem c_X11_tables (F : Nat) (a1 : Int32) (τ : Tau) (r : Int32) (τ' : Tau) (h : X11_tables F a1 τ = some (r, τ')) : MCi sysM yX11_tables cX11_tables 5 (some .int) 3 [.ref 0, .int a1] τ r τ' :=
  mci_of (by decide +kernel) (Nat.le_of_ble_eq_true rfl) (fun K C hr => by
    show Sm K sysM 5 (Qi K sysM) (X11_tables F a1 τ) 0 [(0, .ref 0), (1, .int a1)] [] τ
    unfold X11_tables
    refine sm_seg C [(.iload_n 1, 0), (.iconst 0, 0), (.iconst 2, 2)] (pc' := 3) (L' := [(0, .ref 0), (1, .int a1)]) (S' := [.int 2, .int 0, .int a1]) (by decide +kernel) rfl ?_
    refine sm_scal [.int a1, .int 0, .int 2] [] rfl C mw_X11_isIn ml_11_78 rfl ⟨by decide, by decide⟩ (Nat.le_of_ble_eq_true rfl) (by decide +kernel) (c_X11_isIn F a1 0 2 τ) (fun r1 τ2 => ?_)
    refine sm_ifne 12 (off := 6) C (by decide +kernel) (by decide) (fun _ => ?_) (fun _ => ?_)
    · refine sm_seg C [(.bipush (-100), (-100))] (pc' := 11) (L' := [(0, .ref 0), (1, .int a1)]) (S' := [.int (-100)]) (by decide +kernel) rfl ?_
      exact sm_iret C hr rfl (by decide +kernel)
    · refine sm_seg C [(.iload_n 1, 0), (.iconst 2, 2)] (pc' := 14) (L' := [(0, .ref 0), (1, .int a1)]) (S' := [.int 2, .int a1]) (by decide +kernel) rfl ?_
      refine sm_icmpne 39 (off := 25) C (by decide +kernel) (by decide) (fun _ => ?_) (fun _ => ?_)
      · refine sm_seg C [(.aload_n 0, 0), (.iconst 0, 0)] (pc' := 19) (L' := [(0, .ref 0), (1, .int a1)]) (S' := [.int 0, .ref 0]) (by decide +kernel) rfl ?_
        refine sm_vcal [.int 0] [] rfl C mw_X11_led ml_11_421 rfl (ci := 11) rfl (ltM (by decide +kernel : kdM 0 = 11) (by decide)) (by decide +kernel : kdM 0 = 11) (by decide) ⟨by decide, by decide⟩ (Nat.le_of_ble_eq_true rfl) (by decide +kernel) (c_X11_led F 0 τ2) (fun r3 τ4 => ?_)
        refine sm_seg C [(.aload_n 0, 0), (.iconst 1, 1)] (pc' := 24) (L' := [(0, .ref 0), (1, .int a1)]) (S' := [.int 1, .ref 0, .int r3]) (by decide +kernel) rfl ?_
        refine sm_vcal [.int 1] [.int r3] rfl C mw_X11_led ml_11_421 rfl (ci := 11) rfl (ltM (by decide +kernel : kdM 0 = 11) (by decide)) (by decide +kernel : kdM 0 = 11) (by decide) ⟨by decide, by decide⟩ (Nat.le_of_ble_eq_true rfl) (by decide +kernel) (c_X11_led F 1 τ4) (fun r5 τ6 => ?_)
        refine sm_seg C [(.aload_n 0, 0), (.iconst 2, 2)] (pc' := 29) (L' := [(0, .ref 0), (1, .int a1)]) (S' := [.int 2, .ref 0, .int r5, .int r3]) (by decide +kernel) rfl ?_
        refine sm_vcal [.int 2] [.int r5, .int r3] rfl C mw_X11_led ml_11_421 rfl (ci := 11) rfl (ltM (by decide +kernel : kdM 0 = 11) (by decide)) (by decide +kernel : kdM 0 = 11) (by decide) ⟨by decide, by decide⟩ (Nat.le_of_ble_eq_true rfl) (by decide +kernel) (c_X11_led F 2 τ6) (fun r7 τ8 => ?_)
        refine sm_scal [.int r5, .int r7] [.int r3] rfl C mw_X11_greater ml_11_306 rfl ⟨by decide, by decide⟩ (Nat.le_of_ble_eq_true rfl) (by decide +kernel) (c_X11_greater F r5 r7 τ8) (fun r9 τ10 => ?_)
        refine sm_scal [.int r3, .int r9] [] rfl C mw_X11_greater ml_11_306 rfl ⟨by decide, by decide⟩ (Nat.le_of_ble_eq_true rfl) (by decide +kernel) (c_X11_greater F r3 r9 τ10) (fun r11 τ12 => ?_)
        exact sm_iret C hr rfl (by decide +kernel)
      · refine sm_seg C [(.iconst 0, 0), (.istore_n 2, 0), (.iconst (-1), (-1)), (.istore_n 3, 0), (.bipush 8, 8), (.istore 4, 0)] (pc' := 47) (L' := [(4, .int 8), (3, .int (-1)), (2, .int 0), (0, .ref 0), (1, .int a1)]) (S' := []) (by decide +kernel) rfl ?_
        exact sm_sub [3, 4, 2, 1, 0] rfl (s_X11_tables_L47 F C hr F a1 0 (-1) 8 τ2)) h
/-! BasketEnvoysModel.text -/
def X11_text_j60 (F : Nat) (a1 : Int32) (z0 : Int32) (τ : Tau) : Option (Int32 × Tau) :=
  pst τ 0 16 0 fun τ13 => if z0 = 0 then (pst τ13 0 23 (τ13 0 21) fun τ14 => pst τ14 0 25 (τ14 0 22) fun τ15 => some ((-1), τ15)) else (cal (X11_putsText F a1 τ13) fun r16 τ17 => some (r16, τ17))
theorem s_X11_text_j60 (F : Nat) {K : Ctx} (C : Cx K sysM RX11 cX11_text 3 53) (hr : Rt K (some .int)) (a1 : Int32) (z0 : Int32) (τ : Tau) : Sm K sysM 3 (Qi K sysM) (X11_text_j60 F a1 z0 τ) 60 [(0, .ref 0), (1, .int a1)] [.int z0] τ := by
  unfold X11_text_j60
  refine sm_seg C [(.istore_n 2, 0), (.aload_n 0, 0), (.iconst 0, 0)] (pc' := 63) (L' := [(2, .int z0), (0, .ref 0), (1, .int a1)]) (S' := [.int 0, .ref 0]) (by decide +kernel) rfl ?_
  refine sm_pst 11 16 cls11 C (ltM (by decide +kernel : kdM 0 = 11) (by decide)) (by decide +kernel : kdM 0 = 11) (obM11 (by decide +kernel : kdM 0 = 11)) (by decide) (fiM11_16 (by decide +kernel : kdM 0 = 11)) rfl rfl rfl fl11_97 (by decide +kernel) (fun τ13 => ?_)
  refine sm_seg C [(.iload_n 2, 0)] (pc' := 67) (L' := [(2, .int z0), (0, .ref 0), (1, .int a1)]) (S' := [.int z0]) (by decide +kernel) rfl ?_
  refine sm_ifeq 76 (off := 9) C (by decide +kernel) (by decide) (fun _ => ?_) (fun _ => ?_)
  · refine sm_seg C [(.aload_n 0, 0), (.aload_n 0, 0)] (pc' := 78) (L' := [(2, .int z0), (0, .ref 0), (1, .int a1)]) (S' := [.ref 0, .ref 0]) (by decide +kernel) rfl ?_
    refine sm_getI 11 21 cls11 C (ltM (by decide +kernel : kdM 0 = 11) (by decide)) (by decide +kernel : kdM 0 = 11) (obM11 (by decide +kernel : kdM 0 = 11)) (by decide) (fiM11_21 (by decide +kernel : kdM 0 = 11)) fl11_199 (by decide +kernel) ?_
    refine sm_pst 11 23 cls11 C (ltM (by decide +kernel : kdM 0 = 11) (by decide)) (by decide +kernel : kdM 0 = 11) (obM11 (by decide +kernel : kdM 0 = 11)) (by decide) (fiM11_23 (by decide +kernel : kdM 0 = 11)) rfl rfl rfl fl11_281 (by decide +kernel) (fun τ14 => ?_)
    refine sm_seg C [(.aload_n 0, 0), (.aload_n 0, 0)] (pc' := 86) (L' := [(2, .int z0), (0, .ref 0), (1, .int a1)]) (S' := [.ref 0, .ref 0]) (by decide +kernel) rfl ?_
    refine sm_getI 11 22 cls11 C (ltM (by decide +kernel : kdM 0 = 11) (by decide)) (by decide +kernel : kdM 0 = 11) (obM11 (by decide +kernel : kdM 0 = 11)) (by decide) (fiM11_22 (by decide +kernel : kdM 0 = 11)) fl11_202 (by decide +kernel) ?_
    refine sm_pst 11 25 cls11 C (ltM (by decide +kernel : kdM 0 = 11) (by decide)) (by decide +kernel : kdM 0 = 11) (obM11 (by decide +kernel : kdM 0 = 11)) (by decide) (fiM11_25 (by decide +kernel : kdM 0 = 11)) rfl rfl rfl fl11_40 (by decide +kernel) (fun τ15 => ?_)
    refine sm_seg C [(.iconst (-1), (-1))] (pc' := 93) (L' := [(2, .int z0), (0, .ref 0), (1, .int a1)]) (S' := [.int (-1)]) (by decide +kernel) rfl ?_
    exact sm_iret C hr rfl (by decide +kernel)
  · refine sm_seg C [(.aload_n 0, 0), (.iload_n 1, 0)] (pc' := 72) (L' := [(2, .int z0), (0, .ref 0), (1, .int a1)]) (S' := [.int a1, .ref 0]) (by decide +kernel) rfl ?_
    refine sm_vcal [.int a1] [] rfl C mw_X11_putsText ml_11_290 rfl (ci := 11) rfl (ltM (by decide +kernel : kdM 0 = 11) (by decide)) (by decide +kernel : kdM 0 = 11) (by decide) ⟨by decide, by decide⟩ (Nat.le_of_ble_eq_true rfl) (by decide +kernel) (c_X11_putsText F a1 τ13) (fun r16 τ17 => ?_)
    exact sm_iret C hr rfl (by decide +kernel)
def X11_text (F : Nat) (a1 : Int32) (τ : Tau) : Option (Int32 × Tau) :=
  pst τ 0 23 0 fun τ1 => pst τ1 0 25 (-1) fun τ2 => cal (X11_isIn F a1 0 3 τ2) fun r3 τ4 => if r3 = 0 then (pst τ4 0 16 0 fun τ5 => some ((-1), τ5)) else (pst τ4 0 21 0 fun τ6 => pst τ6 0 17 0 fun τ7 => pst τ7 0 12 a1 fun τ8 => cal (X11_next0 F τ8) fun r9 τ10 => if a1 = 0 then (cal (X11_readsLaw F τ10) fun r11 τ12 => X11_text_j60 F a1 r11 τ12) else (cal (X11_readsRows F τ10) fun r18 τ19 => X11_text_j60 F a1 r18 τ19))
set_option maxRecDepth 20000 in
set_option maxHeartbeats 4000000 in
theorem c_X11_text (F : Nat) (a1 : Int32) (τ : Tau) (r : Int32) (τ' : Tau) (h : X11_text F a1 τ = some (r, τ')) : MCi sysM yX11_text cX11_text 3 (some .int) 53 [.ref 0, .int a1] τ r τ' :=
  mci_of (by decide +kernel) (Nat.le_of_ble_eq_true rfl) (fun K C hr => by
    show Sm K sysM 3 (Qi K sysM) (X11_text F a1 τ) 0 [(0, .ref 0), (1, .int a1)] [] τ
    unfold X11_text
    refine sm_seg C [(.aload_n 0, 0), (.iconst 0, 0)] (pc' := 2) (L' := [(0, .ref 0), (1, .int a1)]) (S' := [.int 0, .ref 0]) (by decide +kernel) rfl ?_
    refine sm_pst 11 23 cls11 C (ltM (by decide +kernel : kdM 0 = 11) (by decide)) (by decide +kernel : kdM 0 = 11) (obM11 (by decide +kernel : kdM 0 = 11)) (by decide) (fiM11_23 (by decide +kernel : kdM 0 = 11)) rfl rfl rfl fl11_281 (by decide +kernel) (fun τ1 => ?_)
    refine sm_seg C [(.aload_n 0, 0), (.iconst (-1), (-1))] (pc' := 7) (L' := [(0, .ref 0), (1, .int a1)]) (S' := [.int (-1), .ref 0]) (by decide +kernel) rfl ?_
    refine sm_pst 11 25 cls11 C (ltM (by decide +kernel : kdM 0 = 11) (by decide)) (by decide +kernel : kdM 0 = 11) (obM11 (by decide +kernel : kdM 0 = 11)) (by decide) (fiM11_25 (by decide +kernel : kdM 0 = 11)) rfl rfl rfl fl11_40 (by decide +kernel) (fun τ2 => ?_)
    refine sm_seg C [(.iload_n 1, 0), (.iconst 0, 0), (.iconst 3, 3)] (pc' := 13) (L' := [(0, .ref 0), (1, .int a1)]) (S' := [.int 3, .int 0, .int a1]) (by decide +kernel) rfl ?_
    refine sm_scal [.int a1, .int 0, .int 3] [] rfl C mw_X11_isIn ml_11_78 rfl ⟨by decide, by decide⟩ (Nat.le_of_ble_eq_true rfl) (by decide +kernel) (c_X11_isIn F a1 0 3 τ2) (fun r3 τ4 => ?_)
    refine sm_ifne 26 (off := 10) C (by decide +kernel) (by decide) (fun _ => ?_) (fun _ => ?_)
    · refine sm_seg C [(.aload_n 0, 0), (.iconst 0, 0)] (pc' := 21) (L' := [(0, .ref 0), (1, .int a1)]) (S' := [.int 0, .ref 0]) (by decide +kernel) rfl ?_
      refine sm_pst 11 16 cls11 C (ltM (by decide +kernel : kdM 0 = 11) (by decide)) (by decide +kernel : kdM 0 = 11) (obM11 (by decide +kernel : kdM 0 = 11)) (by decide) (fiM11_16 (by decide +kernel : kdM 0 = 11)) rfl rfl rfl fl11_97 (by decide +kernel) (fun τ5 => ?_)
      refine sm_seg C [(.iconst (-1), (-1))] (pc' := 25) (L' := [(0, .ref 0), (1, .int a1)]) (S' := [.int (-1)]) (by decide +kernel) rfl ?_
      exact sm_iret C hr rfl (by decide +kernel)
    · refine sm_seg C [(.aload_n 0, 0), (.iconst 0, 0)] (pc' := 28) (L' := [(0, .ref 0), (1, .int a1)]) (S' := [.int 0, .ref 0]) (by decide +kernel) rfl ?_
      refine sm_pst 11 21 cls11 C (ltM (by decide +kernel : kdM 0 = 11) (by decide)) (by decide +kernel : kdM 0 = 11) (obM11 (by decide +kernel : kdM 0 = 11)) (by decide) (fiM11_21 (by decide +kernel : kdM 0 = 11)) rfl rfl rfl fl11_199 (by decide +kernel) (fun τ6 => ?_)
      refine sm_seg C [(.aload_n 0, 0), (.iconst 0, 0)] (pc' := 33) (L' := [(0, .ref 0), (1, .int a1)]) (S' := [.int 0, .ref 0]) (by decide +kernel) rfl ?_
      refine sm_pst 11 17 cls11 C (ltM (by decide +kernel : kdM 0 = 11) (by decide)) (by decide +kernel : kdM 0 = 11) (obM11 (by decide +kernel : kdM 0 = 11)) (by decide) (fiM11_17 (by decide +kernel : kdM 0 = 11)) rfl rfl rfl fl11_100 (by decide +kernel) (fun τ7 => ?_)
      refine sm_seg C [(.aload_n 0, 0), (.iload_n 1, 0)] (pc' := 38) (L' := [(0, .ref 0), (1, .int a1)]) (S' := [.int a1, .ref 0]) (by decide +kernel) rfl ?_
      refine sm_pst 11 12 cls11 C (ltM (by decide +kernel : kdM 0 = 11) (by decide)) (by decide +kernel : kdM 0 = 11) (obM11 (by decide +kernel : kdM 0 = 11)) (by decide) (fiM11_12 (by decide +kernel : kdM 0 = 11)) rfl rfl rfl fl11_167 (by decide +kernel) (fun τ8 => ?_)
      refine sm_seg C [(.aload_n 0, 0)] (pc' := 42) (L' := [(0, .ref 0), (1, .int a1)]) (S' := [.ref 0]) (by decide +kernel) rfl ?_
      refine sm_vcalv [] [] rfl C mw_X11_next0 ml_11_208 rfl (ci := 11) rfl (ltM (by decide +kernel : kdM 0 = 11) (by decide)) (by decide +kernel : kdM 0 = 11) (by decide) ⟨by decide, by decide⟩ (Nat.le_of_ble_eq_true rfl) (by decide +kernel) (c_X11_next0 F τ8) (fun r9 τ10 => ?_)
      refine sm_seg C [(.iload_n 1, 0)] (pc' := 46) (L' := [(0, .ref 0), (1, .int a1)]) (S' := [.int a1]) (by decide +kernel) rfl ?_
      refine sm_ifne 56 (off := 10) C (by decide +kernel) (by decide) (fun _ => ?_) (fun _ => ?_)
      · refine sm_seg C [(.aload_n 0, 0)] (pc' := 50) (L' := [(0, .ref 0), (1, .int a1)]) (S' := [.ref 0]) (by decide +kernel) rfl ?_
        refine sm_vcal [] [] rfl C mw_X11_readsLaw ml_11_284 rfl (ci := 11) rfl (ltM (by decide +kernel : kdM 0 = 11) (by decide)) (by decide +kernel : kdM 0 = 11) (by decide) ⟨by decide, by decide⟩ (Nat.le_of_ble_eq_true rfl) (by decide +kernel) (c_X11_readsLaw F τ10) (fun r11 τ12 => ?_)
        refine sm_seg C [(.goto 7, 0)] (pc' := 60) (L' := [(0, .ref 0), (1, .int a1)]) (S' := [.int r11]) (by decide +kernel) rfl ?_
        exact sm_sub [0, 1] rfl (s_X11_text_j60 F C hr a1 r11 τ12)
      · refine sm_seg C [(.aload_n 0, 0)] (pc' := 57) (L' := [(0, .ref 0), (1, .int a1)]) (S' := [.ref 0]) (by decide +kernel) rfl ?_
        refine sm_vcal [] [] rfl C mw_X11_readsRows ml_11_287 rfl (ci := 11) rfl (ltM (by decide +kernel : kdM 0 = 11) (by decide)) (by decide +kernel : kdM 0 = 11) (by decide) ⟨by decide, by decide⟩ (Nat.le_of_ble_eq_true rfl) (by decide +kernel) (c_X11_readsRows F τ10) (fun r18 τ19 => ?_)
        exact sm_sub [0, 1] rfl (s_X11_text_j60 F C hr a1 r18 τ19)) h
/-! BasketEnvoysModel.undo -/
def X11_undo_L21 (F : Nat) : Nat → Int32 → Tau → Option (Int32 × Tau)
  | 0, _, _ => none
  | n + 1, a1, τ =>
    if 255 ≤ a1 then (some (1, τ)) else (ald τ 3 1530 ((255 * (τ 0 4)) + a1) fun v2 => ast τ 1 2244 a1 v2 fun τ3 => X11_undo_L21 F n (a1 + 1) τ3)
theorem s_X11_undo_L21 (F : Nat) {K : Ctx} (C : Cx K sysM RX11 cX11_undo 2 1) (hr : Rt K (some .boolean)) : ∀ (n : Nat) (a1 : Int32) (τ : Tau), Sm K sysM 2 (Qi K sysM) (X11_undo_L21 F n a1 τ) 21 [(0, .ref 0), (1, .int a1)] [] τ := by
  intro n
  induction n with
  | zero => intro a1 τ; exact sm_none
  | succ n ih =>
    intro a1 τ
    rw [X11_undo_L21]
    refine sm_seg C [(.iload_n 1, 0), (.sipush 255, 255)] (pc' := 25) (L' := [(0, .ref 0), (1, .int a1)]) (S' := [.int 255, .int a1]) (by decide +kernel) rfl ?_
    refine sm_icmpge 55 (off := 30) C (by decide +kernel) (by decide) (fun _ => ?_) (fun _ => ?_)
    · refine sm_seg C [(.iconst 1, 1)] (pc' := 56) (L' := [(0, .ref 0), (1, .int a1)]) (S' := [.int 1]) (by decide +kernel) rfl ?_
      exact sm_iret C hr rfl (by decide +kernel)
    · refine sm_seg C [(.aload_n 0, 0)] (pc' := 29) (L' := [(0, .ref 0), (1, .int a1)]) (S' := [.ref 0]) (by decide +kernel) rfl ?_
      refine sm_getR 11 0 1 cls11 C (ltM (by decide +kernel : kdM 0 = 11) (by decide)) (by decide +kernel : kdM 0 = 11) (obM11 (by decide +kernel : kdM 0 = 11)) (by decide) (frM11_0 (by decide +kernel : kdM 0 = 11)) fl11_7 (by decide +kernel) ?_
      refine sm_seg C [(.iload_n 1, 0), (.aload_n 0, 0)] (pc' := 34) (L' := [(0, .ref 0), (1, .int a1)]) (S' := [.ref 0, .int a1, .ref 1]) (by decide +kernel) rfl ?_
      refine sm_getR 11 2 3 cls11 C (ltM (by decide +kernel : kdM 0 = 11) (by decide)) (by decide +kernel : kdM 0 = 11) (obM11 (by decide +kernel : kdM 0 = 11)) (by decide) (frM11_2 (by decide +kernel : kdM 0 = 11)) fl11_16 (by decide +kernel) ?_
      refine sm_seg C [(.sipush 255, 255), (.aload_n 0, 0)] (pc' := 41) (L' := [(0, .ref 0), (1, .int a1)]) (S' := [.ref 0, .int 255, .ref 3, .int a1, .ref 1]) (by decide +kernel) rfl ?_
      refine sm_getI 11 4 cls11 C (ltM (by decide +kernel : kdM 0 = 11) (by decide)) (by decide +kernel : kdM 0 = 11) (obM11 (by decide +kernel : kdM 0 = 11)) (by decide) (fiM11_4 (by decide +kernel : kdM 0 = 11)) fl11_82 (by decide +kernel) ?_
      refine sm_seg C [(.imul, 0), (.iload_n 1, 0), (.iadd, 0)] (pc' := 47) (L' := [(0, .ref 0), (1, .int a1)]) (S' := [.int ((255 * (τ 0 4)) + a1), .ref 3, .int a1, .ref 1]) (by decide +kernel) rfl ?_
      refine sm_ald 1530 C (ltM (krM11_2 (by decide +kernel : kdM 0 = 11)) (by decide)) (krM11_2 (by decide +kernel : kdM 0 = 11)) (nrM11_2 (by decide +kernel : kdM 0 = 11)) (by decide +kernel) (fun v2 => ?_)
      refine sm_ast 2244 C (ltM (krM11_0 (by decide +kernel : kdM 0 = 11)) (by decide)) (krM11_0 (by decide +kernel : kdM 0 = 11)) (nrM11_0 (by decide +kernel : kdM 0 = 11)) (by decide +kernel) (fun τ3 => ?_)
      refine sm_seg C [(.iinc 1 1, 1), (.goto (-31), 0)] (pc' := 21) (L' := [(1, .int (a1 + 1)), (0, .ref 0)]) (S' := []) (by decide +kernel) rfl ?_
      exact sm_sub [1, 0] rfl (ih (a1 + 1) τ3)
def X11_undo (F : Nat) (τ : Tau) : Option (Int32 × Tau) :=
  if (τ 0 4) = 0 then (some (0, τ)) else (pst τ 0 4 ((τ 0 4) - 1) fun τ1 => X11_undo_L21 F F 0 τ1)
set_option maxRecDepth 20000 in
set_option maxHeartbeats 4000000 in
theorem c_X11_undo (F : Nat) (τ : Tau) (r : Int32) (τ' : Tau) (h : X11_undo F τ = some (r, τ')) : MCi sysM yX11_undo cX11_undo 2 (some .boolean) 1 [.ref 0] τ r τ' :=
  mci_of (by decide +kernel) (Nat.le_of_ble_eq_true rfl) (fun K C hr => by
    show Sm K sysM 2 (Qi K sysM) (X11_undo F τ) 0 [(0, .ref 0)] [] τ
    unfold X11_undo
    refine sm_seg C [(.aload_n 0, 0)] (pc' := 1) (L' := [(0, .ref 0)]) (S' := [.ref 0]) (by decide +kernel) rfl ?_
    refine sm_getI 11 4 cls11 C (ltM (by decide +kernel : kdM 0 = 11) (by decide)) (by decide +kernel : kdM 0 = 11) (obM11 (by decide +kernel : kdM 0 = 11)) (by decide) (fiM11_4 (by decide +kernel : kdM 0 = 11)) fl11_82 (by decide +kernel) ?_
    refine sm_ifne 9 (off := 5) C (by decide +kernel) (by decide) (fun _ => ?_) (fun _ => ?_)
    · refine sm_seg C [(.iconst 0, 0)] (pc' := 8) (L' := [(0, .ref 0)]) (S' := [.int 0]) (by decide +kernel) rfl ?_
      exact sm_iret C hr rfl (by decide +kernel)
    · refine sm_seg C [(.aload_n 0, 0), (.dup, 0)] (pc' := 11) (L' := [(0, .ref 0)]) (S' := [.ref 0, .ref 0]) (by decide +kernel) rfl ?_
      refine sm_getI 11 4 cls11 C (ltM (by decide +kernel : kdM 0 = 11) (by decide)) (by decide +kernel : kdM 0 = 11) (obM11 (by decide +kernel : kdM 0 = 11)) (by decide) (fiM11_4 (by decide +kernel : kdM 0 = 11)) fl11_82 (by decide +kernel) ?_
      refine sm_seg C [(.iconst 1, 1), (.isub, 0)] (pc' := 16) (L' := [(0, .ref 0)]) (S' := [.int ((τ 0 4) - 1), .ref 0]) (by decide +kernel) rfl ?_
      refine sm_pst 11 4 cls11 C (ltM (by decide +kernel : kdM 0 = 11) (by decide)) (by decide +kernel : kdM 0 = 11) (obM11 (by decide +kernel : kdM 0 = 11)) (by decide) (fiM11_4 (by decide +kernel : kdM 0 = 11)) rfl rfl rfl fl11_82 (by decide +kernel) (fun τ1 => ?_)
      refine sm_seg C [(.iconst 0, 0), (.istore_n 1, 0)] (pc' := 21) (L' := [(1, .int 0), (0, .ref 0)]) (S' := []) (by decide +kernel) rfl ?_
      exact sm_sub [1, 0] rfl (s_X11_undo_L21 F C hr F 0 τ1)) h
/-! BasketEnvoysModel.weighs -/
def X11_weighs (F : Nat) (a1 : Int32) (a2 : Int32) (τ : Tau) : Option (Int32 × Tau) :=
  cal (X11_isIn F a1 0 11 τ) fun r1 τ2 => if r1 = 0 then (some (0, τ2)) else (cal (X11_isIn F a2 0 99 τ2) fun r3 τ4 => if r3 = 0 then (some (0, τ4)) else (ast τ4 1 2244 (524 + a1) a2 fun τ5 => some (1, τ5)))
set_option maxRecDepth 20000 in
set_option maxHeartbeats 4000000 in
theorem c_X11_weighs (F : Nat) (a1 : Int32) (a2 : Int32) (τ : Tau) (r : Int32) (τ' : Tau) (h : X11_weighs F a1 a2 τ = some (r, τ')) : MCi sysM yX11_weighs cX11_weighs 3 (some .boolean) 2 [.ref 0, .int a1, .int a2] τ r τ' :=
  mci_of (by decide +kernel) (Nat.le_of_ble_eq_true rfl) (fun K C hr => by
    show Sm K sysM 3 (Qi K sysM) (X11_weighs F a1 a2 τ) 0 [(0, .ref 0), (1, .int a1), (2, .int a2)] [] τ
    unfold X11_weighs
    refine sm_seg C [(.iload_n 1, 0), (.iconst 0, 0), (.bipush 11, 11)] (pc' := 4) (L' := [(0, .ref 0), (1, .int a1), (2, .int a2)]) (S' := [.int 11, .int 0, .int a1]) (by decide +kernel) rfl ?_
    refine sm_scal [.int a1, .int 0, .int 11] [] rfl C mw_X11_isIn ml_11_78 rfl ⟨by decide, by decide⟩ (Nat.le_of_ble_eq_true rfl) (by decide +kernel) (c_X11_isIn F a1 0 11 τ) (fun r1 τ2 => ?_)
    refine sm_ifeq 20 (off := 13) C (by decide +kernel) (by decide) (fun _ => ?_) (fun _ => ?_)
    · refine sm_seg C [(.iconst 0, 0)] (pc' := 21) (L' := [(0, .ref 0), (1, .int a1), (2, .int a2)]) (S' := [.int 0]) (by decide +kernel) rfl ?_
      exact sm_iret C hr rfl (by decide +kernel)
    · refine sm_seg C [(.iload_n 2, 0), (.iconst 0, 0), (.bipush 99, 99)] (pc' := 14) (L' := [(0, .ref 0), (1, .int a1), (2, .int a2)]) (S' := [.int 99, .int 0, .int a2]) (by decide +kernel) rfl ?_
      refine sm_scal [.int a2, .int 0, .int 99] [] rfl C mw_X11_isIn ml_11_78 rfl ⟨by decide, by decide⟩ (Nat.le_of_ble_eq_true rfl) (by decide +kernel) (c_X11_isIn F a2 0 99 τ2) (fun r3 τ4 => ?_)
      refine sm_ifne 22 (off := 5) C (by decide +kernel) (by decide) (fun _ => ?_) (fun _ => ?_)
      · refine sm_seg C [(.iconst 0, 0)] (pc' := 21) (L' := [(0, .ref 0), (1, .int a1), (2, .int a2)]) (S' := [.int 0]) (by decide +kernel) rfl ?_
        exact sm_iret C hr rfl (by decide +kernel)
      · refine sm_seg C [(.aload_n 0, 0)] (pc' := 23) (L' := [(0, .ref 0), (1, .int a1), (2, .int a2)]) (S' := [.ref 0]) (by decide +kernel) rfl ?_
        refine sm_getR 11 0 1 cls11 C (ltM (by decide +kernel : kdM 0 = 11) (by decide)) (by decide +kernel : kdM 0 = 11) (obM11 (by decide +kernel : kdM 0 = 11)) (by decide) (frM11_0 (by decide +kernel : kdM 0 = 11)) fl11_7 (by decide +kernel) ?_
        refine sm_seg C [(.sipush 524, 524), (.iload_n 1, 0), (.iadd, 0), (.iload_n 2, 0)] (pc' := 32) (L' := [(0, .ref 0), (1, .int a1), (2, .int a2)]) (S' := [.int a2, .int (524 + a1), .ref 1]) (by decide +kernel) rfl ?_
        refine sm_ast 2244 C (ltM (krM11_0 (by decide +kernel : kdM 0 = 11)) (by decide)) (krM11_0 (by decide +kernel : kdM 0 = 11)) (nrM11_0 (by decide +kernel : kdM 0 = 11)) (by decide +kernel) (fun τ5 => ?_)
        refine sm_seg C [(.iconst 1, 1)] (pc' := 34) (L' := [(0, .ref 0), (1, .int a1), (2, .int a2)]) (S' := [.int 1]) (by decide +kernel) rfl ?_
        exact sm_iret C hr rfl (by decide +kernel)) h
/-! BasketEnvoysModel.word -/
def X11_word_L41 (F : Nat) (self26 : Int32 → Int32 → Tau → Option (Int32 × Tau)) : Nat → Int32 → Int32 → Int32 → Int32 → Tau → Option (Int32 × Tau)
  | 0, _, _, _, _, _ => none
  | n + 1, a2, a3, a4, a5, τ =>
    if a5 = a3 then (cal (X11_common F a2 a4 τ) fun r5 τ6 => if r5 = 0 then none else (self26 ((a2 / r5) * a4) (a3 + 1) τ6)) else (cal (X11_becomes F a5 τ) fun r7 τ8 => X11_word_L41 F self26 n a2 a3 (a4 + 1) r7 τ8)
theorem s_X11_word_L41 (F : Nat) {K : Ctx} (C : Cx K sysM RX11 cX11_word 6 2) (hr : Rt K (some .int)) (self26 : Int32 → Int32 → Tau → Option (Int32 × Tau)) (ih26 : ∀ (a2 : Int32) (a3 : Int32) (τ : Tau), Sm K sysM 6 (Qi K sysM) (self26 a2 a3 τ) 26 [(0, .ref 0), (2, .int a2), (3, .int a3)] [] τ) : ∀ (n : Nat) (a2 : Int32) (a3 : Int32) (a4 : Int32) (a5 : Int32) (τ : Tau), Sm K sysM 6 (Qi K sysM) (X11_word_L41 F self26 n a2 a3 a4 a5 τ) 41 [(0, .ref 0), (2, .int a2), (3, .int a3), (4, .int a4), (5, .int a5)] [] τ := by
  intro n
  induction n with
  | zero => intro a2 a3 a4 a5 τ; exact sm_none
  | succ n ih =>
    intro a2 a3 a4 a5 τ
    rw [X11_word_L41]
    refine sm_seg C [(.iload 5, 0), (.iload_n 3, 0)] (pc' := 44) (L' := [(0, .ref 0), (2, .int a2), (3, .int a3), (4, .int a4), (5, .int a5)]) (S' := [.int a3, .int a5]) (by decide +kernel) rfl ?_
    refine sm_icmpeq 61 (off := 17) C (by decide +kernel) (by decide) (fun _ => ?_) (fun _ => ?_)
    · refine sm_seg C [(.iload_n 2, 0), (.iload_n 2, 0), (.iload 4, 0)] (pc' := 65) (L' := [(0, .ref 0), (2, .int a2), (3, .int a3), (4, .int a4), (5, .int a5)]) (S' := [.int a4, .int a2, .int a2]) (by decide +kernel) rfl ?_
      refine sm_scal [.int a2, .int a4] [.int a2] rfl C mw_X11_common ml_11_430 rfl ⟨by decide, by decide⟩ (Nat.le_of_ble_eq_true rfl) (by decide +kernel) (c_X11_common F a2 a4 τ) (fun r5 τ6 => ?_)
      refine sm_ite (fun _ => sm_none) (fun hz => ?_)
      refine sm_idiv C (by decide +kernel) hz ?_
      refine sm_seg C [(.iload 4, 0), (.imul, 0), (.istore_n 2, 0), (.iinc 3 1, 1), (.goto (-50), 0)] (pc' := 26) (L' := [(3, .int (a3 + 1)), (2, .int ((a2 / r5) * a4)), (0, .ref 0), (4, .int a4), (5, .int a5)]) (S' := []) (by decide +kernel) rfl ?_
      exact sm_sub [2, 1, 0] rfl (ih26 ((a2 / r5) * a4) (a3 + 1) τ6)
    · refine sm_seg C [(.aload_n 0, 0), (.iload 5, 0)] (pc' := 50) (L' := [(0, .ref 0), (2, .int a2), (3, .int a3), (4, .int a4), (5, .int a5)]) (S' := [.int a5, .ref 0]) (by decide +kernel) rfl ?_
      refine sm_vcal [.int a5] [] rfl C mw_X11_becomes ml_11_457 rfl (ci := 11) rfl (ltM (by decide +kernel : kdM 0 = 11) (by decide)) (by decide +kernel : kdM 0 = 11) (by decide) ⟨by decide, by decide⟩ (Nat.le_of_ble_eq_true rfl) (by decide +kernel) (c_X11_becomes F a5 τ) (fun r7 τ8 => ?_)
      refine sm_seg C [(.istore 5, 0), (.iinc 4 1, 1), (.goto (-17), 0)] (pc' := 41) (L' := [(4, .int (a4 + 1)), (5, .int r7), (0, .ref 0), (2, .int a2), (3, .int a3)]) (S' := []) (by decide +kernel) rfl ?_
      exact sm_sub [2, 3, 4, 0, 1] rfl (ih a2 a3 (a4 + 1) r7 τ8)
def X11_word_L26 (F : Nat) : Nat → Int32 → Int32 → Tau → Option (Int32 × Tau)
  | 0, _, _, _ => none
  | n + 1, a2, a3, τ =>
    if 5 ≤ a3 then (some (a2, τ)) else (cal (X11_becomes F a3 τ) fun r3 τ4 => X11_word_L41 F (X11_word_L26 F n) F a2 a3 1 r3 τ4)
theorem s_X11_word_L26 (F : Nat) {K : Ctx} (C : Cx K sysM RX11 cX11_word 6 2) (hr : Rt K (some .int)) : ∀ (n : Nat) (a2 : Int32) (a3 : Int32) (τ : Tau), Sm K sysM 6 (Qi K sysM) (X11_word_L26 F n a2 a3 τ) 26 [(0, .ref 0), (2, .int a2), (3, .int a3)] [] τ := by
  intro n
  induction n with
  | zero => intro a2 a3 τ; exact sm_none
  | succ n ih =>
    intro a2 a3 τ
    rw [X11_word_L26]
    refine sm_seg C [(.iload_n 3, 0), (.iconst 5, 5)] (pc' := 28) (L' := [(0, .ref 0), (2, .int a2), (3, .int a3)]) (S' := [.int 5, .int a3]) (by decide +kernel) rfl ?_
    refine sm_icmpge 79 (off := 51) C (by decide +kernel) (by decide) (fun _ => ?_) (fun _ => ?_)
    · refine sm_seg C [(.iload_n 2, 0)] (pc' := 80) (L' := [(0, .ref 0), (2, .int a2), (3, .int a3)]) (S' := [.int a2]) (by decide +kernel) rfl ?_
      exact sm_iret C hr rfl (by decide +kernel)
    · refine sm_seg C [(.iconst 1, 1), (.istore 4, 0), (.aload_n 0, 0), (.iload_n 3, 0)] (pc' := 36) (L' := [(4, .int 1), (0, .ref 0), (2, .int a2), (3, .int a3)]) (S' := [.int a3, .ref 0]) (by decide +kernel) rfl ?_
      refine sm_vcal [.int a3] [] rfl C mw_X11_becomes ml_11_457 rfl (ci := 11) rfl (ltM (by decide +kernel : kdM 0 = 11) (by decide)) (by decide +kernel : kdM 0 = 11) (by decide) ⟨by decide, by decide⟩ (Nat.le_of_ble_eq_true rfl) (by decide +kernel) (c_X11_becomes F a3 τ) (fun r3 τ4 => ?_)
      refine sm_seg C [(.istore 5, 0)] (pc' := 41) (L' := [(5, .int r3), (4, .int 1), (0, .ref 0), (2, .int a2), (3, .int a3)]) (S' := []) (by decide +kernel) rfl ?_
      exact sm_sub [2, 3, 4, 1, 0] rfl (s_X11_word_L41 F C hr (X11_word_L26 F n) ih F a2 a3 1 r3 τ4)
def X11_word (F : Nat) (a1 : Int32) (τ : Tau) : Option (Int32 × Tau) :=
  cal (X11_isIn F a1 0 4 τ) fun r1 τ2 => if r1 = 0 then (if a1 = (-1) then (X11_word_L26 F F 1 0 τ2) else (some ((-1), τ2))) else (cal (X11_becomes F a1 τ2) fun r9 τ10 => some (r9, τ10))
set_option maxRecDepth 20000 in
set_option maxHeartbeats 4000000 in
theorem c_X11_word (F : Nat) (a1 : Int32) (τ : Tau) (r : Int32) (τ' : Tau) (h : X11_word F a1 τ = some (r, τ')) : MCi sysM yX11_word cX11_word 6 (some .int) 2 [.ref 0, .int a1] τ r τ' :=
  mci_of (by decide +kernel) (Nat.le_of_ble_eq_true rfl) (fun K C hr => by
    show Sm K sysM 6 (Qi K sysM) (X11_word F a1 τ) 0 [(0, .ref 0), (1, .int a1)] [] τ
    unfold X11_word
    refine sm_seg C [(.iload_n 1, 0), (.iconst 0, 0), (.iconst 4, 4)] (pc' := 3) (L' := [(0, .ref 0), (1, .int a1)]) (S' := [.int 4, .int 0, .int a1]) (by decide +kernel) rfl ?_
    refine sm_scal [.int a1, .int 0, .int 4] [] rfl C mw_X11_isIn ml_11_78 rfl ⟨by decide, by decide⟩ (Nat.le_of_ble_eq_true rfl) (by decide +kernel) (c_X11_isIn F a1 0 4 τ) (fun r1 τ2 => ?_)
    refine sm_ifeq 15 (off := 9) C (by decide +kernel) (by decide) (fun _ => ?_) (fun _ => ?_)
    · refine sm_seg C [(.iload_n 1, 0), (.iconst (-1), (-1))] (pc' := 17) (L' := [(0, .ref 0), (1, .int a1)]) (S' := [.int (-1), .int a1]) (by decide +kernel) rfl ?_
      refine sm_icmpeq 22 (off := 5) C (by decide +kernel) (by decide) (fun _ => ?_) (fun _ => ?_)
      · refine sm_seg C [(.iconst 1, 1), (.istore_n 2, 0), (.iconst 0, 0), (.istore_n 3, 0)] (pc' := 26) (L' := [(3, .int 0), (2, .int 1), (0, .ref 0), (1, .int a1)]) (S' := []) (by decide +kernel) rfl ?_
        exact sm_sub [2, 1, 0] rfl (s_X11_word_L26 F C hr F 1 0 τ2)
      · refine sm_seg C [(.iconst (-1), (-1))] (pc' := 21) (L' := [(0, .ref 0), (1, .int a1)]) (S' := [.int (-1)]) (by decide +kernel) rfl ?_
        exact sm_iret C hr rfl (by decide +kernel)
    · refine sm_seg C [(.aload_n 0, 0), (.iload_n 1, 0)] (pc' := 11) (L' := [(0, .ref 0), (1, .int a1)]) (S' := [.int a1, .ref 0]) (by decide +kernel) rfl ?_
      refine sm_vcal [.int a1] [] rfl C mw_X11_becomes ml_11_457 rfl (ci := 11) rfl (ltM (by decide +kernel : kdM 0 = 11) (by decide)) (by decide +kernel : kdM 0 = 11) (by decide) ⟨by decide, by decide⟩ (Nat.le_of_ble_eq_true rfl) (by decide +kernel) (c_X11_becomes F a1 τ2) (fun r9 τ10 => ?_)
      exact sm_iret C hr rfl (by decide +kernel)) h
/-! BasketEnvoysModel.worth -/
def X11_worth (F : Nat) (a1 : Int32) (a2 : Int32) (a3 : Int32) (τ : Tau) : Option (Int32 × Tau) :=
  cal (X11_isIn F a1 0 5 τ) fun r1 τ2 => if r1 = 0 then (some (0, τ2)) else (cal (X11_isIn F a2 0 5 τ2) fun r3 τ4 => if r3 = 0 then (some (0, τ4)) else (cal (X11_isIn F a3 0 99 τ4) fun r5 τ6 => if r5 = 0 then (some (0, τ6)) else (ast τ6 1 2244 ((572 + (6 * a1)) + a2) a3 fun τ7 => some (1, τ7))))
set_option maxRecDepth 20000 in
set_option maxHeartbeats 4000000 in
theorem c_X11_worth (F : Nat) (a1 : Int32) (a2 : Int32) (a3 : Int32) (τ : Tau) (r : Int32) (τ' : Tau) (h : X11_worth F a1 a2 a3 τ = some (r, τ')) : MCi sysM yX11_worth cX11_worth 4 (some .boolean) 2 [.ref 0, .int a1, .int a2, .int a3] τ r τ' :=
  mci_of (by decide +kernel) (Nat.le_of_ble_eq_true rfl) (fun K C hr => by
    show Sm K sysM 4 (Qi K sysM) (X11_worth F a1 a2 a3 τ) 0 [(0, .ref 0), (1, .int a1), (2, .int a2), (3, .int a3)] [] τ
    unfold X11_worth
    refine sm_seg C [(.iload_n 1, 0), (.iconst 0, 0), (.iconst 5, 5)] (pc' := 3) (L' := [(0, .ref 0), (1, .int a1), (2, .int a2), (3, .int a3)]) (S' := [.int 5, .int 0, .int a1]) (by decide +kernel) rfl ?_
    refine sm_scal [.int a1, .int 0, .int 5] [] rfl C mw_X11_isIn ml_11_78 rfl ⟨by decide, by decide⟩ (Nat.le_of_ble_eq_true rfl) (by decide +kernel) (c_X11_isIn F a1 0 5 τ) (fun r1 τ2 => ?_)
    refine sm_ifeq 28 (off := 22) C (by decide +kernel) (by decide) (fun _ => ?_) (fun _ => ?_)
    · refine sm_seg C [(.iconst 0, 0)] (pc' := 29) (L' := [(0, .ref 0), (1, .int a1), (2, .int a2), (3, .int a3)]) (S' := [.int 0]) (by decide +kernel) rfl ?_
      exact sm_iret C hr rfl (by decide +kernel)
    · refine sm_seg C [(.iload_n 2, 0), (.iconst 0, 0), (.iconst 5, 5)] (pc' := 12) (L' := [(0, .ref 0), (1, .int a1), (2, .int a2), (3, .int a3)]) (S' := [.int 5, .int 0, .int a2]) (by decide +kernel) rfl ?_
      refine sm_scal [.int a2, .int 0, .int 5] [] rfl C mw_X11_isIn ml_11_78 rfl ⟨by decide, by decide⟩ (Nat.le_of_ble_eq_true rfl) (by decide +kernel) (c_X11_isIn F a2 0 5 τ2) (fun r3 τ4 => ?_)
      refine sm_ifeq 28 (off := 13) C (by decide +kernel) (by decide) (fun _ => ?_) (fun _ => ?_)
      · refine sm_seg C [(.iconst 0, 0)] (pc' := 29) (L' := [(0, .ref 0), (1, .int a1), (2, .int a2), (3, .int a3)]) (S' := [.int 0]) (by decide +kernel) rfl ?_
        exact sm_iret C hr rfl (by decide +kernel)
      · refine sm_seg C [(.iload_n 3, 0), (.iconst 0, 0), (.bipush 99, 99)] (pc' := 22) (L' := [(0, .ref 0), (1, .int a1), (2, .int a2), (3, .int a3)]) (S' := [.int 99, .int 0, .int a3]) (by decide +kernel) rfl ?_
        refine sm_scal [.int a3, .int 0, .int 99] [] rfl C mw_X11_isIn ml_11_78 rfl ⟨by decide, by decide⟩ (Nat.le_of_ble_eq_true rfl) (by decide +kernel) (c_X11_isIn F a3 0 99 τ4) (fun r5 τ6 => ?_)
        refine sm_ifne 30 (off := 5) C (by decide +kernel) (by decide) (fun _ => ?_) (fun _ => ?_)
        · refine sm_seg C [(.iconst 0, 0)] (pc' := 29) (L' := [(0, .ref 0), (1, .int a1), (2, .int a2), (3, .int a3)]) (S' := [.int 0]) (by decide +kernel) rfl ?_
          exact sm_iret C hr rfl (by decide +kernel)
        · refine sm_seg C [(.aload_n 0, 0)] (pc' := 31) (L' := [(0, .ref 0), (1, .int a1), (2, .int a2), (3, .int a3)]) (S' := [.ref 0]) (by decide +kernel) rfl ?_
          refine sm_getR 11 0 1 cls11 C (ltM (by decide +kernel : kdM 0 = 11) (by decide)) (by decide +kernel : kdM 0 = 11) (obM11 (by decide +kernel : kdM 0 = 11)) (by decide) (frM11_0 (by decide +kernel : kdM 0 = 11)) fl11_7 (by decide +kernel) ?_
          refine sm_seg C [(.sipush 572, 572), (.bipush 6, 6), (.iload_n 1, 0), (.imul, 0), (.iadd, 0), (.iload_n 2, 0), (.iadd, 0), (.iload_n 3, 0)] (pc' := 45) (L' := [(0, .ref 0), (1, .int a1), (2, .int a2), (3, .int a3)]) (S' := [.int a3, .int ((572 + (6 * a1)) + a2), .ref 1]) (by decide +kernel) rfl ?_
          refine sm_ast 2244 C (ltM (krM11_0 (by decide +kernel : kdM 0 = 11)) (by decide)) (krM11_0 (by decide +kernel : kdM 0 = 11)) (nrM11_0 (by decide +kernel : kdM 0 = 11)) (by decide +kernel) (fun τ7 => ?_)
          refine sm_seg C [(.iconst 1, 1)] (pc' := 47) (L' := [(0, .ref 0), (1, .int a1), (2, .int a2), (3, .int a3)]) (S' := [.int 1]) (by decide +kernel) rfl ?_
          exact sm_iret C hr rfl (by decide +kernel)) h
